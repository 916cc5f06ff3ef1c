/-! THE SECOND MACHINE: constructors. What stands in each cell made since an address N; references are counted from N -/
abbrev vQ (q : Nat) : mV := vR 0 0 q
def aN (N : Nat) : mAd := fun _ _ q => N + q
abbrev nO : Type := (Nat ⊕ (FieldType × Nat)) × (Nat → mV)
abbrev nG : Type := Nat × (FieldType → ClassId) × (Nat → ClassId) × (Nat → Nat → Nat)
abbrev nH : Type := (Nat → nO) × Nat
def nAt (G : nG) (H : Heap) (q : Nat) (o : nO) : Prop := match o.1 with
  | .inl ci => ∃ r : vw_C, vwCl[ci]? = some r ∧ t_OB (G.1 + q) (G.2.2.1 ci) r.2.2 (G.2.2.2 ci) H (fun j => cv (aN G.1) (o.2 j))
  | .inr tn => H[G.1 + q]? = some (arrV (G.2.1 tn.1) tn.2 (fun j => cv (aN G.1) (o.2 j)))
def nRep (G : nG) (h : nH) (H : Heap) : Prop := H.size = G.1 + h.2 ∧ ∀ q, q < h.2 → nAt G H q (h.1 q)
def nW (G : nG) : Nat → Prop := fun q => G.1 ≤ q
def ATs : List FieldType := [.int, .char, .boolean, .object RX0, .object RX2, .object RX4]
def NWI : List Jvm.Cond := [.methodLinkNest RX4 40 yX2_init RX6, .methodLinkNest RX6 21 yX2_init RX6, .methodLinkNest RX6 32 yX3_init RX6]
def nKn (G : nG) (s : State) : Prop := (∀ (ci : Nat) (q : vw_C), vwCl[ci]? = some q → u_Kn s q.1 q.2.1 q.2.2 (G.2.2.1 ci) (G.2.2.2 ci)) ∧ (∀ (t : FieldType) (a : ClassId), s.vm.findClass ("[" ++ t.toString) = some a → a = G.2.1 t) ∧ (∀ t ∈ ATs, ArrOfT s (G.2.1 t) t ∧ va_RA s (G.2.1 t) t) ∧ (∀ w ∈ NWI, va_Nw w s) ∧ (∀ C, C = RX0 ∨ C = RX2 ∨ C = RX4 → va_AO C s)
theorem nKn.moved {G : nG} {s U : State} (hW : s.WarmedH U.vm) (h : nKn G s) : nKn G U := by
  refine ⟨fun ci q hq => u_Kn_moved hW.alike (h.1 ci q hq), fun t a ha => ?_, fun t ht => ⟨arrOfT_moved hW.alike (h.2.2.1 t ht).1, (h.2.2.1 t ht).2.moved hW.alike⟩, fun w hw => ?_, fun C hC => (h.2.2.2.2 C hC).moved hW.alike⟩
  · rw [hW.alike.findClass] at ha
    exact h.2.1 t a ha
  · have h4 := h.2.2.2.1 w hw
    simp only [NWI, List.mem_cons, List.not_mem_nil, or_false] at hw
    rcases hw with rfl | rfl | rfl <;> exact va_Nw.warmM hW h4
theorem nKn.same {G : nG} {s U : State} (hvm : s.vm = U.vm) (h : nKn G s) : nKn G U := by
  have hA : s.vm.Alike U.vm := hvm ▸ Vm.Alike.refl s.vm
  refine ⟨fun ci q hq => u_Kn_moved hA (h.1 ci q hq), fun t a ha => ?_, fun t ht => ⟨arrOfT_moved hA (h.2.2.1 t ht).1, (h.2.2.1 t ht).2.moved hA⟩, fun w hw => ?_, fun C hC => (h.2.2.2.2 C hC).moved hA⟩
  · rw [hA.findClass] at ha
    exact h.2.1 t a ha
  · have h4 := h.2.2.2.1 w hw
    simp only [NWI, List.mem_cons, List.not_mem_nil, or_false] at hw
    rcases hw with rfl | rfl | rfl <;> exact va_Nw.same rfl hvm h4
/-! a heap's pieces -/
def nUp (h : nH) (q : Nat) (o : nO) : nH := (fun y => if y = q then o else h.1 y, h.2)
def nPush (h : nH) (o : nO) : nH := (fun y => if y = h.2 then o else h.1 y, h.2 + 1)
def nSet (h : nH) (q j : Nat) (v : mV) : nH := nUp h q ((h.1 q).1, fun a => if a = j then v else (h.1 q).2 a)
theorem nPush_eq {h : nH} {o : nO} {y : Nat} (e : y = h.2) : (nPush h o).1 y = o := by simp only [nPush, if_pos e]
theorem nPush_ne {h : nH} {o : nO} {y : Nat} (e : y ≠ h.2) : (nPush h o).1 y = h.1 y := by simp only [nPush, if_neg e]
theorem nPush_n {h : nH} {o : nO} : (nPush h o).2 = h.2 + 1 := rfl
theorem nSet_n {h : nH} {q j : Nat} {v : mV} : (nSet h q j v).2 = h.2 := rfl
theorem nSet_ne {h : nH} {q j y : Nat} {v : mV} (e : y ≠ q) : (nSet h q j v).1 y = h.1 y := by simp only [nSet, nUp, if_neg e]
theorem nSet_k {h : nH} {q j : Nat} {v : mV} : ((nSet h q j v).1 q).1 = (h.1 q).1 := by simp only [nSet, nUp, if_true]
theorem nSet_k' {h : nH} {q j y : Nat} {v : mV} : ((nSet h q j v).1 y).1 = (h.1 y).1 := by
  by_cases e : y = q
  · rw [e, nSet_k]
  · rw [nSet_ne e]
theorem nSet_at {h : nH} {q j a : Nat} {v : mV} (e : a = j) : ((nSet h q j v).1 q).2 a = v := by simp only [nSet, nUp, if_true, if_pos e]
theorem nSet_ot {h : nH} {q j a : Nat} {v : mV} (e : a ≠ j) : ((nSet h q j v).1 q).2 a = (h.1 q).2 a := by simp only [nSet, nUp, if_true, if_neg e]
theorem nAt_obj {G : nG} {H : Heap} {q ci : Nat} {o : nO} {r : vw_C} (hk : o.1 = .inl ci) (hcl : vwCl[ci]? = some r) (A : nAt G H q o) : t_OB (G.1 + q) (G.2.2.1 ci) r.2.2 (G.2.2.2 ci) H (fun j => cv (aN G.1) (o.2 j)) := by
  unfold nAt at A
  rw [hk] at A
  obtain ⟨r2, h1, h2⟩ := A
  cases h1.symm.trans hcl
  exact h2
theorem nAt_mk {G : nG} {H : Heap} {q ci : Nat} {o : nO} {r : vw_C} (hk : o.1 = .inl ci) (hcl : vwCl[ci]? = some r) (A : t_OB (G.1 + q) (G.2.2.1 ci) r.2.2 (G.2.2.2 ci) H (fun j => cv (aN G.1) (o.2 j))) : nAt G H q o := by
  unfold nAt
  rw [hk]
  exact ⟨r, hcl, A⟩
theorem nAt_arr {G : nG} {H : Heap} {q n : Nat} {t : FieldType} {o : nO} (hk : o.1 = .inr (t, n)) (A : nAt G H q o) : H[G.1 + q]? = some (arrV (G.2.1 t) n (fun j => cv (aN G.1) (o.2 j))) := by
  unfold nAt at A
  rw [hk] at A
  exact A
theorem nAt_mkA {G : nG} {H : Heap} {q n : Nat} {t : FieldType} {o : nO} (hk : o.1 = .inr (t, n)) (A : H[G.1 + q]? = some (arrV (G.2.1 t) n (fun j => cv (aN G.1) (o.2 j)))) : nAt G H q o := by
  unfold nAt
  rw [hk]
  exact A
theorem nAt.kept {G : nG} {H H2 : Heap} {q : Nat} {o : nO} (A : nAt G H q o) (e : H2[G.1 + q]? = H[G.1 + q]?) : nAt G H2 q o := by
  unfold nAt at A ⊢
  split at A
  · obtain ⟨r, h1, h2⟩ := A
    exact ⟨r, h1, h2.kept e⟩
  · rw [e]
    exact A
theorem nRep.put {G : nG} {h : nH} {H H2 : Heap} {q : Nat} {o : nO} (hR : nRep G h H) (z : H2.size = H.size) (oth : ∀ a, a ≠ G.1 + q → H2[a]? = H[a]?) (new : nAt G H2 q o) : nRep G (nUp h q o) H2 := by
  refine ⟨z.trans hR.1, fun y hy => ?_⟩
  show nAt G H2 y (if y = q then o else h.1 y)
  by_cases e : y = q
  · rw [if_pos e, e]
    exact new
  · rw [if_neg e]
    exact (hR.2 y hy).kept (oth _ (by omega))
theorem nRep.push {G : nG} {h : nH} {H H2 : Heap} {o : nO} (hR : nRep G h H) (z : H2.size = G.1 + h.2 + 1) (oth : ∀ a, a < G.1 + h.2 → H2[a]? = H[a]?) (new : nAt G H2 h.2 o) : nRep G (nPush h o) H2 := by
  refine ⟨z, fun y hy => ?_⟩
  show nAt G H2 y (if y = h.2 then o else h.1 y)
  have hy : y < h.2 + 1 := hy
  by_cases e : y = h.2
  · rw [if_pos e, e]
    exact new
  · rw [if_neg e]
    exact (hR.2 y (by omega)).kept (oth _ (by omega))
theorem va_S.psh {A : Nat → Prop} {H0 H H1 : Heap} {locs : List Loc} (h : va_S A H0 H locs) (z : H.size ≤ H1.size) (oq : ∀ q, q < H.size → H1[q]? = H[q]?) : va_S A H0 H1 locs := ⟨Nat.le_trans h.1 z, fun q h1 h2 => (oq q (Nat.lt_of_lt_of_le h1 h.1)).trans (h.2.1 q h1 h2), h.2.2⟩
/-- what a new place holds -/
def zV : FieldType → mV
  | .object _ => vN
  | .array _ => vN
  | .long => vL 0
  | _ => vI 0
/-! rows over W: for the constructors and for the law -/
section NROW
variable {p : Program} {l : Launch} {e : Env} {R : Room} {s : State} {m : MethodId} {args : Array Value} {below : List Frame} {meth : Method} {c : Code} {H : Heap} {locs : List Loc} {nc ns : Nat} {Q : State → Prop}
variable {cc : ByteArray} {pc : Nat} {ls : Array Slot} {rest : List Value} {G : nG} {h : nH} {own : String} {nL : Nat}
theorem nW_new {idx ci k : Nat} {C : String} {T : u_T} (hx : p.tables.exec = Jvm.exec) (hb : c.code = cc) (hown : s.vm.findClass own = some m.cls) (hts : ∀ w ∈ TB, w.before args s = true) (hK : nKn G s) (hR : nRep G h H) (hS : va_S (nW G) s.heap H locs) (F : ClsF k ci C T) (hcl : Jvm.Cond.classLink own idx C ∈ TB) (hin : Jvm.Cond.instantiable C (kz k) ∈ TB) (hi : Jvm.Cond.initialized C ∈ TB) (ty0 : Nat → FieldType) (hty : ∀ a, a < kz k → parseFieldDescriptor (T a).2.2.1 = some (ty0 a)) (hz : ∀ j, j < kz k → ∀ N, cv (aN N) (zV (ty0 j)) = defaultValue (ty0 j)) (hc1 : nc + 1 ≤ R.cells) (hc2 : ns + kz k ≤ R.slots) (hd : decode cc pc = .ok (.new idx, 3))
    (kk : ∀ H1, nRep G (nPush h (.inl ci, fun j => zV (ty0 j))) H1 → va_S (nW G) s.heap H1 locs → W p l e R s m args below meth c H1 locs (nc + 1) (ns + kz k) Q (F0 m (pc + 3) ls (.ref (G.1 + h.2) :: rest))) : W p l e R s m args below meth c H locs nc ns Q (F0 m pc ls rest) := by
  obtain ⟨-, hvc, hws, -⟩ := F
  have hKn := hK.1 ci _ hvc
  refine W.newcK hx hb hown (hts _ hcl) (hts _ hin) (hts _ hi) rfl hd hc1 hc2 hKn.2.1 hR.1 fun H1 kC hkC e1 z1 o1 => ?_
  refine kk H1 (hR.push z1 o1 (nAt_mk rfl hvc ((u_born ty0 hts hws hKn hkC e1 hty).to (fun j hj => (hz j hj G.1).symm)))) (hS.psh (by rw [z1, hR.1]; omega) (fun q hq => o1 q (by rw [← hR.1]; exact hq)))
theorem nW_newa {atype : ArrayType} {t : FieldType} {n : Int32} {N : Nat} (hx : p.tables.exec = Jvm.exec) (hb : c.code = cc) (hts : ∀ w ∈ TB, w.before args s = true) (hK : nKn G s) (hR : nRep G h H) (hS : va_S (nW G) s.heap H locs) (ht : newarray.typeOf atype = t) (hw : Jvm.Cond.arrayClass t ∈ TB) (hz : ∀ N, cv (aN N) (zV t) = defaultValue t) (hn : ¬ n < 0) (hN : n.toNatClampNeg = N) (hby : N * componentBytes t ≤ 536870912) (hc1 : nc + 1 ≤ R.cells) (hc2 : ns + N ≤ R.slots) (hd : decode cc pc = .ok (.newarray atype, 2))
    (kk : ∀ H1, nRep G (nPush h (.inr (t, N), fun _ => zV t)) H1 → va_S (nW G) s.heap H1 locs → W p l e R s m args below meth c H1 locs (nc + 1) (ns + N) Q (F0 m (pc + 2) ls (.ref (G.1 + h.2) :: rest))) : W p l e R s m args below meth c H locs nc ns Q (F0 m pc ls (.int n :: rest)) := by
  subst ht
  refine va_newaK hx hb (hts _ hw) rfl hd rfl hn hN hby hc1 hc2 hR.1 fun H1 cA e1 z1 o1 _ hNm => ?_
  have hcA := hK.2.1 _ _ hNm
  subst hcA
  refine kk H1 (hR.push z1 o1 (nAt_mkA rfl ?_)) (hS.psh (by rw [z1, hR.1]; omega) (fun q hq => o1 q (by rw [← hR.1]; exact hq)))
  rw [e1]
  exact congrArg some (arrV_cong (fun j hj => (hz G.1).symm))
theorem nW_anew {C : String} {idx : Nat} {n : Int32} {N : Nat} (hx : p.tables.exec = Jvm.exec) (hb : c.code = cc) (hown : s.vm.findClass own = some m.cls) (hts : ∀ w ∈ TB, w.before args s = true) (hK : nKn G s) (hR : nRep G h H) (hS : va_S (nW G) s.heap H locs) (hC : C = RX0 ∨ C = RX2 ∨ C = RX4) (hcl : Jvm.Cond.classLink own idx C ∈ TB) (hn : ¬ n < 0) (hN : n.toNatClampNeg = N) (hby : N * 4 ≤ 536870912) (hc1 : nc + 1 ≤ R.cells) (hc2 : ns + N ≤ R.slots) (hd : decode cc pc = .ok (.anewarray idx, 3))
    (kk : ∀ H1, nRep G (nPush h (.inr (.object C, N), fun _ => vN)) H1 → va_S (nW G) s.heap H1 locs → W p l e R s m args below meth c H1 locs (nc + 1) (ns + N) Q (F0 m (pc + 3) ls (.ref (G.1 + h.2) :: rest))) : W p l e R s m args below meth c H locs nc ns Q (F0 m pc ls (.int n :: rest)) := by
  subst hN
  refine W.anew hx hb hown (hts _ hcl) (hK.2.2.2.2 C hC).use rfl hd rfl hn hby hc1 hc2 fun cA kA comp f1 f2 f3 f4 => ?_
  have hcA := hK.2.1 _ _ f1
  subst hcA
  have z := hR.1
  generalize hH1 : H.push ({ cls := G.2.1 (.object C), slots := Array.replicate n.toNatClampNeg .null, vm := .none } : Cell) = H1
  have z1 : H1.size = H.size + 1 := by rw [← hH1, Array.size_push]
  have e1 : H1[H.size]? = some (arrV (G.2.1 (.object C)) n.toNatClampNeg (fun _ => .null)) := by rw [← hH1, Array.getElem?_push_size, ← arrV_new]
  have o1 : ∀ q : Nat, q < H.size → H1[q]? = H[q]? := fun q hq => by rw [← hH1, Array.getElem?_push, if_neg (Nat.ne_of_lt hq)]
  have key := kk H1 (hR.push (by rw [z1, z]) (fun q hq => o1 q (by rw [z]; exact hq)) (nAt_mkA rfl (by rw [← z, e1]; rfl))) (hS.psh (by omega) o1)
  rw [← z] at key
  exact key
end NROW
