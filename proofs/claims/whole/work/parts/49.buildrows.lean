/-! the second machine's judgement, a row an instruction -/
def nCx (M : mM) (Z : Nat × Nat) (G : nG) (p : Program) (R : Room) (s : State) (m : MethodId) (args : Array Value) (meth : Method) (c : Code) : Prop :=
  p.tables.exec = Jvm.exec ∧ c.code = M.2.1 ∧ meth.sig.returnType = M.2.2.2.1 ∧ c.maxLocals = M.2.2.1 ∧ s.vm.findClass M.1.cls = some m.cls ∧ (∀ w ∈ TB, w.before args s = true) ∧ meth.locks = false ∧ ((M.2.2.2.2.1 ≤ R.frames ∧ M.2.2.2.2.2 ≤ R.locals) ∧ Z.1 ≤ R.cells ∧ Z.2 ≤ R.slots) ∧ nKn G s ∧ meth.name = "<init>"
def nDx (M : mM) (G : nG) (s : State) (l : List mV) (h : nH) (H : Heap) (locs : List Loc) (ls : Array Slot) : Prop :=
  nRep G h H ∧ (lv_has ls M.2.2.1 (prs (aN G.1) 0 l) ∧ l.length = M.2.2.1) ∧ va_S (nW G) s.heap H locs
def nQm (G : nG) (Q : nH → Prop) : Array Value → State → Outcome → State → Prop := fun _ st o t => (∃ h : nH, o = .returned none ∧ Q h ∧ nRep G h t.heap) ∧ va_F (nW G) st t
/-- from here the constructor comes to its end, with a heap of Q; cells and places made so far: nc, ns -/
def nE (M : mM) (Z : Nat × Nat) (pc : Nat) (l st : List mV) (h : nH) (nc ns : Nat) (Q : nH → Prop) : Prop :=
  ∀ (G : nG) (p : Program) (l0 : Launch) (e : Env) (R : Room) (s : State) (m : MethodId) (args : Array Value) (below : List Frame) (meth : Method) (c : Code) (H : Heap) (locs : List Loc) (ls : Array Slot),
    nCx M Z G p R s m args meth c → nDx M G s l h H locs ls → W p l0 e R s m args below meth c H locs nc ns (MQ below (nQm G Q) args s Z.1 Z.2 (nW G)) (F0 m pc ls (st.map (cv (aN G.1))))
def nPc (G : nG) (as : List mW) (h : nH) : Array Value → State → Prop := va_Pc (as.map (cw (aN G.1))) (fun U => nRep G h U.heap ∧ nKn G U)
theorem nPc_blind {G : nG} {as : List mW} {h : nH} : FrameBlind (nPc G as h) := by
  intro a U g mk q
  obtain ⟨q0, q1, q2⟩ := q
  exact ⟨q0, q1, nKn.same (s := U) (U := U.calling g mk a) rfl q2⟩
def rmN (M : mM) (Z : Nat × Nat) : Room := { frames := M.2.2.2.2.1, cells := Z.1, slots := Z.2, locals := M.2.2.2.2.2 }
theorem nE.met {M : mM} {Z : Nat × Nat} {n : Nat} {as : List mW} {h : nH} {Q : nH → Prop} (C : CalM M n) (hi : M.1.name = "<init>") (hlen : (ent as).length ≤ M.2.2.1) (E : nE M Z 0 (l0M M as) [] h 0 0 Q) (l : Launch) (G : nG) : Met l M.1 (wsM M) (rmN M Z) (nPc G as h) (nQm G Q) Z.1 Z.2 (nW G) := by
  refine Met.ofW (cc := M.2.1) (maxL := M.2.2.1) (ret := M.2.2.2.1) C.1 rfl ?_
  intro p e s m args below meth c s₁ B hml hv
  obtain ⟨rfl, hR, hK⟩ := hv
  have hts := atoms_spec (ws := wsM M) B.pre
  have hown : s.vm.findClass M.1.cls = some m.cls := findClass_of_methodNamed B.named
  have hnm : meth.name = "<init>" := (name_of_methodNamed B.named B.method).1.trans hi
  rw [lg_entry_eq]
  refine E G p l e _ s m _ below meth c s.heap [] _ ⟨B.exec, B.bytes, B.returns, hml, hown, fun w hw => hts w (List.mem_cons_of_mem _ hw), B.notSynchronized, ⟨⟨Nat.le_refl _, Nat.le_refl _⟩, Nat.le_refl _, Nat.le_refl _⟩, hK, hnm⟩ ⟨hR, ⟨?_, ?_⟩, va_S.rf⟩
  · have := lv_entry (as.map (cw (aN G.1))) (n := M.2.2.1) (by rw [ent_len]; exact hlen)
    rw [l0M, ent_prs]
    exact this
  · simp only [l0M, List.length_append, List.length_replicate]; omega
/-- a constructor's call, at index idx of own's pool -/
def CfI (own : String) (M : mM) (idx n : Nat) : Prop := CalM M n ∧ M.1.name = "<init>" ∧ M.2.2.2.1 = none ∧ Jvm.Cond.instanceMethod M.1 ∈ TB ∧ (Jvm.Cond.methodLink own idx M.1 ∈ TB ∨ ∃ host, Jvm.Cond.methodLinkNest own idx M.1 host ∈ NWI)
section NCALL
variable {p : Program} {l : Launch} {e : Env} {R : Room} {s : State} {m : MethodId} {args : Array Value} {below : List Frame} {meth : Method} {c : Code} {H : Heap} {locs : List Loc} {nc ns : Nat} {Q : State → Prop}
variable {cc : ByteArray} {pc : Nat} {ls : Array Slot} {rest : List Value} {G : nG} {h : nH} {own : String} {nL : Nat}
theorem nW_call {M : mM} {Z : Nat × Nat} {idx n q : Nat} {as : List mW} {K : nH → Prop} (hx : p.tables.exec = Jvm.exec) (hb : c.code = cc) (hml : c.maxLocals = nL) (hown : s.vm.findClass own = some m.cls) (hts : ∀ w ∈ TB, w.before args s = true) (hls : ls.size = nL) (hK : nKn G s) (hR : nRep G h H) (hS : va_S (nW G) s.heap H locs) (F : CfI own M idx n) (hro : M.2.2.2.2.1 + 1 ≤ R.frames ∧ 8 + (M.2.2.1 + 11) + M.2.2.2.2.2 ≤ R.locals) (hce : nc + Z.1 ≤ R.cells ∧ ns + Z.2 ≤ R.slots) (hn : as.length = n) (hlen : (ent (.inr (.inr (some (0, 0, q))) :: as)).length ≤ M.2.2.1) (hcat : (rest.map fun v => v.category).sum ≤ 8) (hd : decode cc pc = .ok (.invokespecial idx, 3))
    (ev : nE M Z 0 (l0M M (.inr (.inr (some (0, 0, q))) :: as)) [] h 0 0 K)
    (kk : ∀ h1 H1 locs1, K h1 → nRep G h1 H1 → va_S (nW G) s.heap H1 locs1 → W p l e R s m args below meth c H1 locs1 (nc + Z.1) (ns + Z.2) Q (F0 m (pc + 3) ls rest)) : W p l e R s m args below meth c H locs nc ns Q (F0 m pc ls ((as.map (cw (aN G.1))).reverse ++ .ref (G.1 + q) :: rest)) := by
  obtain ⟨F1, F2, F3, F4, F5⟩ := F
  have hM := ev.met F1 F2 hlen l G
  have hsig : ∀ sig, parseMethodDescriptor M.1.desc = some sig → n = sig.parameters.length := fun sig h => by
    have h2 := F1.2.2.2.2
    rw [h] at h2
    exact (Option.some.inj h2).symm
  have hpre : PreS s H (nPc G (.inr (.inr (some (0, 0, q))) :: as) h) (.ref (G.1 + q) :: as.map (cw (aN G.1))) := ⟨nPc_blind, fun U hU hW => ⟨rfl, by rw [hU]; exact hR, hK.moved hW⟩⟩
  have hcode : (Jvm.Cond.code M.1 M.2.1 M.2.2.1 none).before args s = true := by
    have := hts _ F1.2.1
    rw [F3] at this
    exact this
  have hin : Jvm.Cond.code M.1 M.2.1 M.2.2.1 none ∈ wsM M := by
    rw [← F3]
    exact List.mem_cons_self
  have hr : va_Run p l e R s m args below meth c H locs nc ns Z.1 Z.2 (F0 m pc ls ((as.map (cw (aN G.1))).reverse ++ .ref (G.1 + q) :: rest)) rest (nQm G K (Value.ref (G.1 + q) :: as.map (cw (aN G.1))).toArray) (nW G) := by
    rcases F5 with F5 | ⟨host, F5⟩
    · exact va_runI (Ts := TB) (bytes := M.2.1) (maxL := M.2.2.1) (n := n) (index := idx) (own := own) (nL := nL) (cc := cc) ⟨hx, hb, hml, hown, hts⟩ hM ⟨⟨rfl, rfl, hro.1, hro.2, pay_in hts (good_ws F1.2.1), hin, hcode, hts _ F1.2.2.1, F1.2.2.2.1, hsig, hts _ F5⟩, F2, hts _ F4⟩ hpre rfl ((List.length_map _).trans hn) hls rfl (lv_room hcat) hd hce
    · exact va_runIN (Ts := TB) (bytes := M.2.1) (maxL := M.2.2.1) (n := n) (index := idx) (own := own) (nL := nL) (cc := cc) (host := host) ⟨hx, hb, hml, hown, hts⟩ hM ⟨⟨⟨rfl, rfl, hro.1, hro.2, pay_in hts (good_ws F1.2.1), hin⟩, hcode, hts _ F1.2.2.1, F1.2.2.2.1, hsig, va_Nw.use rfl (hK.2.2.2.1 _ F5)⟩, F2, hts _ F4⟩ hpre rfl ((List.length_map _).trans hn) hls rfl (lv_room hcat) hd hce
  intro T hT X
  obtain ⟨v, st₀, t, T2, L, h0, X2, hL, e1, e2, ⟨⟨h1, hv, hq, hR1⟩, hz, hk⟩, stp⟩ := hr T hT X
  have hv := Outcome.returned.inj hv
  subst hv
  rw [h0] at hz hk
  have hS1 : va_S (nW G) s.heap T2.heap (locs ++ L) := ⟨Nat.le_trans hS.1 (by rw [e1]; exact hz), fun q h1 h2 => by rw [e1, hk q (Nat.lt_of_lt_of_le h1 hS.1) h2]; exact hS.2.1 q h1 h2, fun q hq => by
      rcases List.mem_append.mp hq with h | h
      · exact hS.2.2 q h
      · exact hL q h⟩
  obtain ⟨t2, a1, b1⟩ := kk h1 T2.heap (locs ++ L) hq (by rw [e1]; exact hR1) hS1 T2 rfl X2
  exact ⟨t2, stp t2 a1, b1⟩
end NCALL
section NR
variable {M : mM} {Z : Nat × Nat} {pc : Nat} {l st : List mV} {h : nH} {nc ns : Nat} {Q : nH → Prop}
theorem nE.iconst {n : Int} {v : Int32} (hd : decode M.2.1 pc = .ok (.iconst n, 1)) (hv : Int32.ofInt n = v) (k : nE M Z (pc + 1) l (vI v :: st) h nc ns Q) : nE M Z pc l st h nc ns Q := by
  intro G p l0 e R s m args below meth c H locs ls hC hD
  exact lv_iconst hC.1 hC.2.1 hd hv (k G p l0 e R s m args below meth c H locs ls hC hD)
theorem nE.bipush {n : Int} {v : Int32} (hd : decode M.2.1 pc = .ok (.bipush n, 2)) (hv : (Int8.ofInt n).toInt32 = v) (k : nE M Z (pc + 2) l (vI v :: st) h nc ns Q) : nE M Z pc l st h nc ns Q := by
  intro G p l0 e R s m args below meth c H locs ls hC hD
  exact lv_bipush hC.1 hC.2.1 hd hv (k G p l0 e R s m args below meth c H locs ls hC hD)
theorem nE.sipush {n : Int} {v : Int32} (hd : decode M.2.1 pc = .ok (.sipush n, 3)) (hv : (Int16.ofInt n).toInt32 = v) (k : nE M Z (pc + 3) l (vI v :: st) h nc ns Q) : nE M Z pc l st h nc ns Q := by
  intro G p l0 e R s m args below meth c H locs ls hC hD
  exact lv_sipush hC.1 hC.2.1 hd hv (k G p l0 e R s m args below meth c H locs ls hC hD)
theorem nE.iload_n {n : Fin 4} {x : Int32} (hd : decode M.2.1 pc = .ok (.iload_n n, 1)) (hl : l[(n : Nat)]? = some (vI x)) (k : nE M Z (pc + 1) l (vI x :: st) h nc ns Q) : nE M Z pc l st h nc ns Q := by
  intro G p l0 e R s m args below meth c H locs ls hC hD
  exact lv_iload_n hC.1 hC.2.1 hd rfl (prs_at hD.2.1.1 hl) (k G p l0 e R s m args below meth c H locs ls hC hD)
theorem nE.aload_n {n : Fin 4} {q : Nat} (hd : decode M.2.1 pc = .ok (.aload_n n, 1)) (hl : l[(n : Nat)]? = some (vQ q)) (k : nE M Z (pc + 1) l (vQ q :: st) h nc ns Q) : nE M Z pc l st h nc ns Q := by
  intro G p l0 e R s m args below meth c H locs ls hC hD
  exact lv_aload_n hC.1 hC.2.1 hd rfl (prs_at hD.2.1.1 hl) (k G p l0 e R s m args below meth c H locs ls hC hD)
theorem nE.istore_n {n : Fin 4} {x : Int32} {l2 : List mV} (hd : decode M.2.1 pc = .ok (.istore_n n, 1)) (hn : (n : Nat) < M.2.2.1) (hl : mset l n (vI x) = l2) (k : nE M Z (pc + 1) l2 st h nc ns Q) : nE M Z pc l (vI x :: st) h nc ns Q := by
  intro G p l0 e R s m args below meth c H locs ls hC hD
  subst hl
  exact lv_istore_n hC.1 hC.2.1 hd rfl hD.2.1.1 hn rfl (fun ls2 h2 => k G p l0 e R s m args below meth c H locs ls2 hC ⟨hD.1, ⟨mset_prs (w := .inl x) h2, mset_len.trans hD.2.1.2⟩, hD.2.2⟩)
theorem nE.iinc {i : Nat} {n : Int} {x v : Int32} {l2 : List mV} (hd : decode M.2.1 pc = .ok (.iinc i n, 3)) (hx : l[i]? = some (vI x)) (hv : x + Int32.ofInt n = v) (hn : i < M.2.2.1) (hl : mset l i (vI v) = l2) (k : nE M Z (pc + 3) l2 st h nc ns Q) : nE M Z pc l st h nc ns Q := by
  intro G p l0 e R s m args below meth c H locs ls hC hD
  subst hl
  obtain ⟨j, hj⟩ := List.getElem?_of_mem (prs_mem.mpr ⟨i, .inl x, by omega, hx, rfl⟩ : (i, cw (aN G.1) (.inl x)) ∈ prs (aN G.1) 0 l)
  exact lv_iinc hC.1 hC.2.1 hd hD.2.1.1 hj hv hn rfl (fun ls2 h2 => k G p l0 e R s m args below meth c H locs ls2 hC ⟨hD.1, ⟨mset_prs (w := .inl v) h2, mset_len.trans hD.2.1.2⟩, hD.2.2⟩)
theorem nE.goto {off : Int} {tgt : Nat} (hd : decode M.2.1 pc = .ok (.goto off, 3)) (ht : (pc : Int) + off = (tgt : Int)) (k : nE M Z tgt l st h nc ns Q) : nE M Z pc l st h nc ns Q := by
  intro G p l0 e R s m args below meth c H locs ls hC hD
  exact lv_goto hC.1 hC.2.1 hd ht (k G p l0 e R s m args below meth c H locs ls hC hD)
theorem nE.dupR {q : Nat} (hd : decode M.2.1 pc = .ok (.dup, 1)) (k : nE M Z (pc + 1) l (vQ q :: vQ q :: st) h nc ns Q) : nE M Z pc l (vQ q :: st) h nc ns Q := by
  intro G p l0 e R s m args below meth c H locs ls hC hD
  exact lv_dup hC.1 hC.2.1 hd rfl (k G p l0 e R s m args below meth c H locs ls hC hD)
theorem nE.icmp_ge {x y : Int32} {off : Int} {tgt : Nat} (hd : decode M.2.1 pc = .ok (.if_icmp .ge off, 3)) (ht : (pc : Int) + off = (tgt : Int)) (kt : y ≤ x → nE M Z tgt l st h nc ns Q) (kf : ¬ y ≤ x → nE M Z (pc + 3) l st h nc ns Q) : nE M Z pc l (vI y :: vI x :: st) h nc ns Q := by
  intro G p l0 e R s m args below meth c H locs ls hC hD
  exact lv_icmp_ge hC.1 hC.2.1 hd ht (fun z => kt z G p l0 e R s m args below meth c H locs ls hC hD) (fun z => kf z G p l0 e R s m args below meth c H locs ls hC hD)
theorem nE.oinit {idx q : Nat} (hd : decode M.2.1 pc = .ok (.invokespecial idx, 3)) (hl : Jvm.Cond.methodLink M.1.cls idx Lib.objectInit ∈ TB) (h1 : Jvm.Cond.instanceMethod Lib.objectInit ∈ TB) (h2 : Jvm.Cond.code Lib.objectInit ⟨#[0xb1]⟩ 1 none ∈ TB) (hro : 1 ≤ M.2.2.2.2.1 ∧ 20 ≤ M.2.2.2.2.2) (k : nE M Z (pc + 3) l [] h nc ns Q) : nE M Z pc l [vQ q] h nc ns Q := by
  intro G p l0 e R s m args below meth c H locs ls hC hD
  obtain ⟨hx, hb, hr, hml, hown, hts, hlk, ⟨hro2, hce⟩, hK, hnm⟩ := id hC
  exact W.objInit hx hb hown (hts _ hl) (hts _ h1) (hts _ h2) rfl (hD.2.1.1.1.trans hml.symm) rfl hd (Nat.le_trans hro.1 hro2.1) (by show 2 * 0 + 0 + 12 ≤ R.locals; have := Nat.le_trans hro.2 hro2.2; omega) (k G p l0 e R s m args below meth c H locs ls hC hD)
theorem nE.new {idx ci k : Nat} {C : String} {T : u_T} (hd : decode M.2.1 pc = .ok (.new idx, 3)) (F : ClsF k ci C T) (hcl : Jvm.Cond.classLink M.1.cls idx C ∈ TB) (hin : Jvm.Cond.instantiable C (kz k) ∈ TB) (hi : Jvm.Cond.initialized C ∈ TB) (ty0 : Nat → FieldType) (hty : ∀ a, a < kz k → parseFieldDescriptor (T a).2.2.1 = some (ty0 a)) (hz : ∀ j, j < kz k → ∀ N, cv (aN N) (zV (ty0 j)) = defaultValue (ty0 j)) (h1 : nc + 1 ≤ Z.1) (h2 : ns + kz k ≤ Z.2) (kk : nE M Z (pc + 3) l (vQ h.2 :: st) (nPush h (.inl ci, fun j => zV (ty0 j))) (nc + 1) (ns + kz k) Q) : nE M Z pc l st h nc ns Q := by
  intro G p l0 e R s m args below meth c H locs ls hC hD
  obtain ⟨hx, hb, hr, hml, hown, hts, hlk, ⟨hro2, hce⟩, hK, hnm⟩ := id hC
  exact nW_new hx hb hown hts hK hD.1 hD.2.2 F hcl hin hi ty0 hty hz (Nat.le_trans h1 hce.1) (Nat.le_trans h2 hce.2) hd (fun H1 hR1 hS1 => kk G p l0 e R s m args below meth c H1 locs ls hC ⟨hR1, hD.2.1, hS1⟩)
theorem nE.newa {atype : ArrayType} {t : FieldType} {n : Int32} {N : Nat} (hd : decode M.2.1 pc = .ok (.newarray atype, 2)) (ht : newarray.typeOf atype = t) (hw : Jvm.Cond.arrayClass t ∈ TB) (hz : ∀ N, cv (aN N) (zV t) = defaultValue t) (hn : ¬ n < 0) (hN : n.toNatClampNeg = N) (hby : N * componentBytes t ≤ 536870912) (h1 : nc + 1 ≤ Z.1) (h2 : ns + N ≤ Z.2) (kk : nE M Z (pc + 2) l (vQ h.2 :: st) (nPush h (.inr (t, N), fun _ => zV t)) (nc + 1) (ns + N) Q) : nE M Z pc l (vI n :: st) h nc ns Q := by
  intro G p l0 e R s m args below meth c H locs ls hC hD
  obtain ⟨hx, hb, hr, hml, hown, hts, hlk, ⟨hro2, hce⟩, hK, hnm⟩ := id hC
  exact nW_newa hx hb hts hK hD.1 hD.2.2 ht hw hz hn hN hby (Nat.le_trans h1 hce.1) (Nat.le_trans h2 hce.2) hd (fun H1 hR1 hS1 => kk G p l0 e R s m args below meth c H1 locs ls hC ⟨hR1, hD.2.1, hS1⟩)
theorem nE.anew {C : String} {idx : Nat} {n : Int32} {N : Nat} (hd : decode M.2.1 pc = .ok (.anewarray idx, 3)) (hC2 : C = RX0 ∨ C = RX2 ∨ C = RX4) (hcl : Jvm.Cond.classLink M.1.cls idx C ∈ TB) (hn : ¬ n < 0) (hN : n.toNatClampNeg = N) (hby : N * 4 ≤ 536870912) (h1 : nc + 1 ≤ Z.1) (h2 : ns + N ≤ Z.2) (kk : nE M Z (pc + 3) l (vQ h.2 :: st) (nPush h (.inr (.object C, N), fun _ => vN)) (nc + 1) (ns + N) Q) : nE M Z pc l (vI n :: st) h nc ns Q := by
  intro G p l0 e R s m args below meth c H locs ls hC hD
  obtain ⟨hx, hb, hr, hml, hown, hts, hlk, ⟨hro2, hce⟩, hK, hnm⟩ := id hC
  exact nW_anew hx hb hown hts hK hD.1 hD.2.2 hC2 hcl hn hN hby (Nat.le_trans h1 hce.1) (Nat.le_trans h2 hce.2) hd (fun H1 hR1 hS1 => kk G p l0 e R s m args below meth c H1 locs ls hC ⟨hR1, hD.2.1, hS1⟩)
theorem nE.call {M2 : mM} {Z2 : Nat × Nat} {idx n q : Nat} {as : List mW} {K : nH → Prop} {st0 : List mV} (hd : decode M.2.1 pc = .ok (.invokespecial idx, 3)) (F : CfI M.1.cls M2 idx n) (hro : M2.2.2.2.2.1 + 1 ≤ M.2.2.2.2.1 ∧ 8 + (M2.2.2.1 + 11) + M2.2.2.2.2.2 ≤ M.2.2.2.2.2) (hn : as.length = n) (hst : (as.map some).reverse ++ vQ q :: st = st0) (hlen : (ent (.inr (.inr (some (0, 0, q))) :: as)).length ≤ M2.2.2.1) (hcat : ∀ ad, ((st.map (cv ad)).map fun v => v.category).sum ≤ 8) (h1 : nc + Z2.1 ≤ Z.1) (h2 : ns + Z2.2 ≤ Z.2) (ev : nE M2 Z2 0 (l0M M2 (.inr (.inr (some (0, 0, q))) :: as)) [] h 0 0 K) (kk : ∀ h1, K h1 → nE M Z (pc + 3) l st h1 (nc + Z2.1) (ns + Z2.2) Q) : nE M Z pc l st0 h nc ns Q := by
  intro G p l0 e R s m args below meth c H locs ls hC hD
  subst hst
  obtain ⟨hx, hb, hr, hml, hown, hts, hlk, ⟨hro2, hce⟩, hK, hnm⟩ := id hC
  have key := nW_call (Q := MQ below (nQm G Q) args s Z.1 Z.2 (nW G)) (below := below) (l := l0) (e := e) (meth := meth) (rest := st.map (cv (aN G.1))) hx hb hml hown hts hD.2.1.1.1 hK hD.1 hD.2.2 F ⟨Nat.le_trans hro.1 hro2.1, Nat.le_trans hro.2 hro2.2⟩ ⟨Nat.le_trans h1 hce.1, Nat.le_trans h2 hce.2⟩ hn hlen (hcat _) hd ev (fun h1 H1 locs1 k1 hR1 hS1 => kk h1 k1 G p l0 e R s m args below meth c H1 locs1 ls hC ⟨hR1, hD.2.1, hS1⟩)
  refine W.eq ?_ key
  rw [List.map_append, List.map_reverse, List.map_map]
  rfl
theorem nE.vret (hd : decode M.2.1 pc = .ok (.return_, 1)) (hr : M.2.2.2.1 = none) (h1 : nc ≤ Z.1) (h2 : ns ≤ Z.2) (hq : Q h) : nE M Z pc l [] h nc ns Q := by
  intro G p l0 e R s m args below meth c H locs ls hC hD
  exact W.widen h1 h2 (W.vret hC.1 hC.2.1 (hC.2.2.1.trans hr) (fun t ht hW => ⟨⟨h, rfl, hq, by rw [ht]; exact hD.1⟩, hD.2.2.F ht⟩) hD.2.2.2.2 hd hC.2.2.2.2.2.2.1)
end NR
