/-! answers -/
section RET
variable {M : mM} {pc : Nat} {l st : List mV} {h : mH} {Q : mV → mH → Prop}
theorem mE.iret {x : Int32} {ty : FieldType} (hd : decode M.2.1 pc = .ok (.ireturn, 1)) (hr : M.2.2.2.1 = some ty) (hn : narrow ty (.int x) = .int x) (hq : Q (vI x) h) : mE M pc l [vI x] h Q := by
  intro G p l0 e R s m args below meth c H locs ls hC hD
  exact W.zret hC.1 hC.2.1 (hC.2.2.1.trans hr) hn (fun t ht hW => ⟨⟨vI x, h, rfl, hq, by rw [ht]; exact hD.1, hD.2.1, trivial⟩, hD.fr.F ht⟩) hD.fr.2.2 hd hC.2.2.2.2.2.2.1
theorem mE.vret (hd : decode M.2.1 pc = .ok (.return_, 1)) (hr : M.2.2.2.1 = none) (hq : Q vU h) : mE M pc l [] h Q := by
  intro G p l0 e R s m args below meth c H locs ls hC hD
  exact W.vret hC.1 hC.2.1 (hC.2.2.1.trans hr) (fun t ht hW => ⟨⟨vU, h, rfl, hq, by rw [ht]; exact hD.1, hD.2.1, trivial⟩, hD.fr.F ht⟩) hD.fr.2.2 hd hC.2.2.2.2.2.2.1
theorem mE.aret {C : String} {o : Option (Nat × Nat × Nat)} (hd : decode M.2.1 pc = .ok (.areturn, 1)) (hr : M.2.2.2.1 = some (.object C)) (hq : Q (some (.inr (.inr o))) h) : mE M pc l [some (.inr (.inr o))] h Q := by
  intro G p l0 e R s m args below meth c H locs ls hC hD
  have hv : cw G.1 (.inr (.inr o)) = .null ∨ ∃ a, cw G.1 (.inr (.inr o)) = .ref a := by
    rcases o with _ | ⟨k, r, i⟩
    · exact Or.inl rfl
    · exact Or.inr ⟨_, rfl⟩
  exact W.aret (v := cw G.1 (.inr (.inr o))) hC.1 hC.2.1 (hC.2.2.1.trans hr) (Or.inl ⟨C, rfl⟩) hv (fun t ht hW => ⟨⟨some (.inr (.inr o)), h, rfl, hq, by rw [ht]; exact hD.1, hD.2.1, ok_h hD.sk⟩, hD.fr.F ht⟩) hD.fr.2.2 hd hC.2.2.2.2.2.2.1
end RET
/-! a method from its entry: the contract -/
def ent : List mW → List mV
  | [] => []
  | .inr (.inl x) :: t => some (.inr (.inl x)) :: none :: ent t
  | v :: t => some v :: ent t
def l0M (M : mM) (as : List mW) : List mV := ent as ++ List.replicate (M.2.2.1 - (ent as).length) none
def wsM (M : mM) : List Jvm.Cond := Jvm.Cond.code M.1 M.2.1 M.2.2.1 M.2.2.2.1 :: TB
def rmM (M : mM) : Room := { frames := M.2.2.2.2.1, cells := 0, slots := 0, locals := M.2.2.2.2.2 }
def CalM (M : mM) (n : Nat) : Prop := plainName M.1.cls = true ∧ Jvm.Cond.code M.1 M.2.1 M.2.2.1 M.2.2.2.1 ∈ TB ∧ Jvm.Cond.initialized M.1.cls ∈ TB ∧ (M.1.cls ≠ "java/lang/invoke/MethodHandle" ∧ M.1.cls ≠ "java/lang/invoke/VarHandle") ∧ (parseMethodDescriptor M.1.desc).map (fun d => d.parameters.length) = some n
theorem ent_some {x : Int32} {t : List mW} : ent (.inl x :: t) = some (.inl x) :: ent t := rfl
theorem cat_long {ad : mAd} (x : Int64) : (cw ad (.inr (.inl x))).category = 2 := rfl
theorem cat_int {ad : mAd} (x : Int32) : (cw ad (.inl x)).category = 1 := rfl
theorem cat_ref {ad : mAd} (o : Option (Nat × Nat × Nat)) : (cw ad (.inr (.inr o))).category = 1 := by
  rcases o with _ | ⟨k, r, i⟩ <;> rfl
theorem ent_len {ad : mAd} : ∀ as : List mW, (lg_sl (as.map (cw ad))).length = (ent as).length
  | [] => rfl
  | .inl x :: t => by
    have := ent_len (ad := ad) t
    simp only [lg_sl, List.map_cons, List.flatMap_cons, cat_int, ent, List.length_append, List.length_cons] at this ⊢
    simp [this]; omega
  | .inr (.inl x) :: t => by
    have := ent_len (ad := ad) t
    simp only [lg_sl, List.map_cons, List.flatMap_cons, cat_long, ent, List.length_append, List.length_cons] at this ⊢
    simp [this]; omega
  | .inr (.inr o) :: t => by
    have := ent_len (ad := ad) t
    simp only [lg_sl, List.map_cons, List.flatMap_cons, cat_ref, ent, List.length_append, List.length_cons] at this ⊢
    simp [this]; omega
theorem prs_rep {ad : mAd} : ∀ (n k : Nat), prs ad k (List.replicate n none) = []
  | 0, _ => rfl
  | n + 1, k => by
    rw [List.replicate_succ]
    exact prs_rep n (k + 1)
theorem ent_prs {ad : mAd} (n : Nat) : ∀ (as : List mW) (k : Nat), prs ad k (ent as ++ List.replicate n none) = lv_args k (as.map (cw ad))
  | [], k => prs_rep n k
  | .inl x :: t, k => by
    simp only [ent, List.cons_append, prs, List.map_cons, lv_args, cat_int]
    rw [ent_prs n t (k + 1)]; rfl
  | .inr (.inl x) :: t, k => by
    simp only [ent, List.cons_append, prs, List.map_cons, lv_args, cat_long]
    rw [ent_prs n t (k + 1 + 1)]; rfl
  | .inr (.inr o) :: t, k => by
    simp only [ent, List.cons_append, prs, List.map_cons, lv_args, cat_ref]
    rw [ent_prs n t (k + 1)]; rfl
theorem ent_ok {as : List mW} (h : ∀ v ∈ as, okW v) : ∀ v ∈ ent as, okV v := by
  induction as with
  | nil => intro v hv; cases hv
  | cons a t ih =>
    have h2 := ih (fun v hv => h v (List.mem_cons_of_mem _ hv))
    have h1 := h a List.mem_cons_self
    rcases a with x | x | x
    · exact ok_c (a := some (.inl x)) h1 h2
    · exact ok_c (a := some (.inr (.inl x))) trivial (ok_c (a := none) trivial h2)
    · exact ok_c (a := some (.inr (.inr x))) h1 h2
def mPc (G : mG) (as : List mW) (h : mH) : Array Value → State → Prop := va_Pc (as.map (cw G.1)) (fun U => Rep G h U.heap ∧ VH h ∧ (∀ v ∈ as, okW v) ∧ Kn G U)
theorem mE.met {M : mM} {n : Nat} {as : List mW} {h : mH} {Q : mV → mH → Prop} (C : CalM M n) (hlen : (ent as).length ≤ M.2.2.1) (E : mE M 0 (l0M M as) [] h Q) (l : Launch) {G : mG} (hG : InjG G) : Met l M.1 (wsM M) (rmM M) (mPc G as h) (Qm G Q) 0 0 (GA G) := by
  refine Met.ofW (cc := M.2.1) (maxL := M.2.2.1) (ret := M.2.2.2.1) C.1 rfl ?_
  intro p e s m args below meth c s₁ B hml hv
  obtain ⟨rfl, hR, hV, ha, hK⟩ := hv
  have hts := atoms_spec (ws := wsM M) B.pre
  have hown : s.vm.findClass M.1.cls = some m.cls := findClass_of_methodNamed B.named
  rw [lg_entry_eq]
  refine E G p l e _ s m _ below meth c s.heap [] _ ⟨B.exec, B.bytes, B.returns, hml, hown, fun w hw => hts w (List.mem_cons_of_mem _ hw), B.notSynchronized, ⟨Nat.le_refl _, Nat.le_refl _⟩, hK, hG⟩ ⟨hR, hV, ?_, (fun v hv => by cases hv), ⟨?_, ?_⟩, va_S.rf⟩
  · intro v hv
    rcases List.mem_append.mp hv with h1 | h1
    · exact ent_ok ha v h1
    · rw [List.eq_of_mem_replicate h1]; trivial
  · have := lv_entry (as.map (cw G.1)) (n := M.2.2.1) (by rw [ent_len]; exact hlen)
    rw [l0M, ent_prs]
    exact this
  · simp only [l0M, List.length_append, List.length_replicate]; omega
/-! calls -/
theorem good_ws {M : mM} (h : Jvm.Cond.code M.1 M.2.1 M.2.2.1 M.2.2.2.1 ∈ TB) : GoodIn TB (wsM M) := tb_good (fun w hw => (List.mem_cons.mp hw).elim (fun e => e ▸ h) id)
def VirM (M : mM) : Prop := Jvm.Cond.instanceMethod M.1 ∈ TB ∧ Jvm.Cond.selects M.1.cls M.1 M.1 ∈ TB
def RooM (M M2 : mM) : Prop := M2.2.2.2.2.1 + 1 ≤ M.2.2.2.2.1 ∧ 8 + (M2.2.2.1 + 11) + M2.2.2.2.2.2 ≤ M.2.2.2.2.2
/-- a virtual call at index idx of M's pool: M2, on a cell of kind k -/
def CfV (M M2 : mM) (idx n k : Nat) : Prop := CalM M2 n ∧ VirM M2 ∧ Jvm.Cond.methodLink M.1.cls idx M2.1 ∈ TB ∧ RooM M M2 ∧ ∃ (ci : Nat) (T : u_T), kc k = some ci ∧ vwCl[ci]? = some (M2.1.cls, T, kz k)
def CfS (M M2 : mM) (idx n : Nat) : Prop := CalM M2 n ∧ Jvm.Cond.static M2.1 ∈ TB ∧ Jvm.Cond.methodLink M.1.cls idx M2.1 ∈ TB ∧ RooM M M2
def CfN (M M2 : mM) (idx n : Nat) (host : String) : Prop := CalM M2 n ∧ Jvm.Cond.static M2.1 ∈ TB ∧ Jvm.Cond.methodLinkNest M.1.cls idx M2.1 host ∈ NW ∧ RooM M M2
def push (v : mV) (st : List mV) : List mV := match v with
  | none => st
  | some w => some w :: st
theorem push_map {ad : mAd} (v : mV) (st : List mV) : (push v st).map (cv ad) = (v.map (cw ad)).toList ++ st.map (cv ad) := by
  cases v <;> rfl
theorem push_ok {v : mV} {st : List mV} (hv : okV v) (h : ∀ u ∈ st, okV u) : ∀ u ∈ push v st, okV u := by
  cases v with
  | none => exact h
  | some w => exact ok_c hv h
theorem Kn.moved {G : mG} {s U : State} (hW : s.WarmedH U.vm) (h : Kn G s) : Kn G U := by
  refine ⟨fun ci q hq => u_Kn_moved hW.alike (h.1 ci q hq), fun k h1 h2 h3 => arrOfT_moved hW.alike (h.2.1 k h1 h2 h3), h.2.2.1.moved hW.alike, fun w hw => ?_⟩
  have h4 := h.2.2.2 w hw
  simp only [NW, List.mem_cons, List.not_mem_nil, or_false] at hw
  rcases hw with rfl | rfl | rfl | rfl <;> exact va_Nw.warmM hW h4
theorem Kn.same {G : mG} {s U : State} (hvm : s.vm = U.vm) (h : Kn G s) : Kn G U := by
  have hA : s.vm.Alike U.vm := hvm ▸ Vm.Alike.refl s.vm
  refine ⟨fun ci q hq => u_Kn_moved hA (h.1 ci q hq), fun k h1 h2 h3 => arrOfT_moved hA (h.2.1 k h1 h2 h3), h.2.2.1.moved hA, fun w hw => ?_⟩
  have h4 := h.2.2.2 w hw
  simp only [NW, List.mem_cons, List.not_mem_nil, or_false] at hw
  rcases hw with rfl | rfl | rfl | rfl <;> exact va_Nw.same rfl hvm h4
theorem mPc_blind {G : mG} {as : List mW} {h : mH} : FrameBlind (mPc G as h) := by
  intro a U g mk q
  obtain ⟨q0, q1, q2, q3, q4⟩ := q
  exact ⟨q0, q1, q2, q3, Kn.same (s := U) (U := U.calling g mk a) rfl q4⟩
section CALL
variable {M M2 : mM} {pc idx n : Nat} {l st st0 : List mV} {h : mH} {Q K : mV → mH → Prop}
theorem mE.back {G : mG} {p : Program} {l0 : Launch} {e : Env} {R : Room} {s : State} {m : MethodId} {args : Array Value} {below : List Frame} {meth : Method} {c : Code} {H : Heap} {locs : List Loc} {ls : Array Slot} {a : Array Value}
    (hC : Cx M G p R s m args meth c) (hD : Dx M G s l st h H locs ls) (kk : ∀ v h1, K v h1 → mE M (pc + 3) l (push v st) h1 Q)
    (hr : va_Run p l0 e R s m args below meth c H locs 0 0 0 0 (F0 m pc ls (st0.map (cv G.1))) (st.map (cv G.1)) (Qm G K a) (GA G)) :
    W p l0 e R s m args below meth c H locs 0 0 (MQ below (Qm G Q) args s 0 0 (GA G)) (F0 m pc ls (st0.map (cv G.1))) := by
  intro T hT X
  obtain ⟨v, st₀, t, T2, L, h0, X2, hL, e1, e2, ⟨⟨v2, h1, hv, hq, hR1, hV1, hok⟩, hz, hk⟩, stp⟩ := hr T hT X
  have hv := Outcome.returned.inj hv
  subst hv
  rw [h0] at hz hk
  have hS := hD.fr
  have hS1 : va_S (GA G) s.heap T2.heap (locs ++ L) := ⟨Nat.le_trans hS.1 (by rw [e1]; exact hz), fun q h1 h2 => by rw [e1, hk q (Nat.lt_of_lt_of_le h1 hS.1) h2]; exact hS.2.1 q h1 h2, fun q hq => by
      rcases List.mem_append.mp hq with h | h
      · exact hS.2.2 q h
      · exact hL q h⟩
  have key := kk v2 h1 hq G p l0 e R s m args below meth c T2.heap (locs ++ L) ls hC ((hD.stk (push_ok hok hD.sk)).hp (by rw [e1]; exact hR1) hV1 hS1) T2 rfl X2
  obtain ⟨t2, a1, b1⟩ := key
  refine ⟨t2, stp t2 ?_, b1⟩
  rw [push_map] at a1
  exact a1
theorem mE.callV {as : List mW} {k r i : Nat} (hd : decode M.2.1 pc = .ok (.invokevirtual idx, 3)) (F : CfV M M2 idx n k) (hn : as.length = n) (hst : (as.map some).reverse ++ vR k r i :: st = st0) (hlen : (ent (.inr (.inr (some (k, r, i))) :: as)).length ≤ M2.2.2.1) (hroom : ∀ ad, ((st.map (cv ad)).map fun v => v.category).sum ≤ 8)
    (ev : mE M2 0 (l0M M2 (.inr (.inr (some (k, r, i))) :: as)) [] h K) (kk : ∀ v h1, K v h1 → mE M (pc + 3) l (push v st) h1 Q) : mE M pc l st0 h Q := by
  intro G p l0 e R s m args below meth c H locs ls hC hD
  subst hst
  obtain ⟨F1, F2, F3, F4, ci, T, F5, F6⟩ := F
  obtain ⟨hx, hb, hr, hml, hown, hts, hlk, hro, hK, hI⟩ := id hC
  have hsk := hD.sk
  have hokr : okId k r i := hsk (vR k r i) (List.mem_append_right _ List.mem_cons_self)
  have hst2 : ∀ v ∈ st, okV v := fun v hv => hsk v (List.mem_append_right _ (List.mem_cons_of_mem _ hv))
  have has : ∀ v ∈ (.inr (.inr (some (k, r, i))) :: as : List mW), okW v := by
    intro v hv
    rcases List.mem_cons.mp hv with rfl | hv
    · exact hokr
    · exact hsk (some v) (List.mem_append_left _ (List.mem_reverse.mpr (List.mem_map_of_mem hv)))
  have hA := hD.1 k r i hokr
  rw [atK_obj F5] at hA
  obtain ⟨cell, q1, q2, q3, -⟩ := hA
  have hM := ev.met F1 hlen l0 hI
  refine mE.back hC (hD.stk hst2) kk (va_runV (As := as.map (cw G.1)) (b := G.1 k r i) (C := M2.1.cls) (Ts := TB) (bytes := M2.2.1) (maxL := M2.2.2.1) (ret := M2.2.2.2.1) ⟨hx, hb, hml, hown, hts⟩ hM ?_ ?_ rfl ((List.length_map _).trans hn) hD.lh.1 ?_ (lv_room (hroom _)) hd ⟨Nat.zero_le _, Nat.zero_le _⟩)
  · refine ⟨⟨rfl, rfl, Nat.le_trans F4.1 hro.1, Nat.le_trans F4.2 hro.2, pay_in hts (good_ws F1.2.1), List.mem_cons_self, hts _ F1.2.1, hts _ F1.2.2.1, F1.2.2.2.1, fun sig h => ?_, hts _ F3⟩, hts _ F2.1, hts _ F2.2⟩
    · have h2 := F1.2.2.2.2
      rw [h] at h2
      exact (Option.some.inj h2).symm
  · refine ⟨mPc_blind, ⟨cell, q1, by rw [q3]; rfl, by rw [q2]; exact (hK.1 ci _ F6).2.1⟩, fun U hU hW => ⟨rfl, by rw [hU]; exact hD.1, hD.2.1, has, hK.moved hW⟩⟩
  · show List.map _ _ = _
    rw [List.map_append, List.map_reverse, List.map_map]
    rfl
theorem mE.callS {as : List mW} (hd : decode M.2.1 pc = .ok (.invokestatic idx, 3)) (F : CfS M M2 idx n) (hn : as.length = n) (hst : (as.map some).reverse ++ st = st0) (hlen : (ent as).length ≤ M2.2.2.1) (hroom : ∀ ad, ((st.map (cv ad)).map fun v => v.category).sum ≤ 8)
    (ev : mE M2 0 (l0M M2 as) [] h K) (kk : ∀ v h1, K v h1 → mE M (pc + 3) l (push v st) h1 Q) : mE M pc l st0 h Q := by
  intro G p l0 e R s m args below meth c H locs ls hC hD
  subst hst
  obtain ⟨F1, F2, F3, F4⟩ := F
  obtain ⟨hx, hb, hr, hml, hown, hts, hlk, hro, hK, hI⟩ := id hC
  have hsk := hD.sk
  have hst2 : ∀ v ∈ st, okV v := fun v hv => hsk v (List.mem_append_right _ hv)
  have has : ∀ v ∈ as, okW v := fun v hv => hsk (some v) (List.mem_append_left _ (List.mem_reverse.mpr (List.mem_map_of_mem hv)))
  have hM := ev.met F1 hlen l0 hI
  refine mE.back hC (hD.stk hst2) kk (va_runS (As := as.map (cw G.1)) (Ts := TB) (bytes := M2.2.1) (maxL := M2.2.2.1) (ret := M2.2.2.2.1) ⟨hx, hb, hml, hown, hts⟩ hM ?_ ?_ rfl ((List.length_map _).trans hn) hD.lh.1 ?_ (lv_room (hroom _)) hd ⟨Nat.zero_le _, Nat.zero_le _⟩)
  · refine ⟨⟨rfl, rfl, Nat.le_trans F4.1 hro.1, Nat.le_trans F4.2 hro.2, pay_in hts (good_ws F1.2.1), List.mem_cons_self, hts _ F1.2.1, hts _ F1.2.2.1, F1.2.2.2.1, fun sig h => ?_, hts _ F3⟩, hts _ F2⟩
    · have h2 := F1.2.2.2.2
      rw [h] at h2
      exact (Option.some.inj h2).symm
  · exact ⟨mPc_blind, fun U hU hW => ⟨rfl, by rw [hU]; exact hD.1, hD.2.1, has, hK.moved hW⟩⟩
  · show List.map _ _ = _
    rw [List.map_append, List.map_reverse, List.map_map]
    rfl
theorem mE.callN {as : List mW} {host : String} (hd : decode M.2.1 pc = .ok (.invokestatic idx, 3)) (F : CfN M M2 idx n host) (hn : as.length = n) (hst : (as.map some).reverse ++ st = st0) (hlen : (ent as).length ≤ M2.2.2.1) (hroom : ∀ ad, ((st.map (cv ad)).map fun v => v.category).sum ≤ 8)
    (ev : mE M2 0 (l0M M2 as) [] h K) (kk : ∀ v h1, K v h1 → mE M (pc + 3) l (push v st) h1 Q) : mE M pc l st0 h Q := by
  intro G p l0 e R s m args below meth c H locs ls hC hD
  subst hst
  obtain ⟨F1, F2, F3, F4⟩ := F
  obtain ⟨hx, hb, hr, hml, hown, hts, hlk, hro, hK, hI⟩ := id hC
  have hsk := hD.sk
  have hst2 : ∀ v ∈ st, okV v := fun v hv => hsk v (List.mem_append_right _ hv)
  have has : ∀ v ∈ as, okW v := fun v hv => hsk (some v) (List.mem_append_left _ (List.mem_reverse.mpr (List.mem_map_of_mem hv)))
  have hM := ev.met F1 hlen l0 hI
  have hnl : (Jvm.Cond.methodLinkNest M.1.cls idx M2.1 host).before args s = true := va_Nw.use rfl (hK.2.2.2 _ F3)
  refine mE.back hC (hD.stk hst2) kk (va_runSN (As := as.map (cw G.1)) (Ts := TB) (bytes := M2.2.1) (maxL := M2.2.2.1) (ret := M2.2.2.2.1) (host := host) ⟨hx, hb, hml, hown, hts⟩ hM ?_ ?_ rfl ((List.length_map _).trans hn) hD.lh.1 ?_ (lv_room (hroom _)) hd ⟨Nat.zero_le _, Nat.zero_le _⟩)
  · refine ⟨⟨⟨rfl, rfl, Nat.le_trans F4.1 hro.1, Nat.le_trans F4.2 hro.2, pay_in hts (good_ws F1.2.1), List.mem_cons_self⟩, hts _ F1.2.1, hts _ F1.2.2.1, F1.2.2.2.1, fun sig h => ?_, hnl⟩, hts _ F2, trivial⟩
    · have h2 := F1.2.2.2.2
      rw [h] at h2
      exact (Option.some.inj h2).symm
  · exact ⟨mPc_blind, fun U hU hW => ⟨rfl, by rw [hU]; exact hD.1, hD.2.1, has, hK.moved hW⟩⟩
  · show List.map _ _ = _
    rw [List.map_append, List.map_reverse, List.map_map]
    rfl
end CALL
/-! what is asked of a call's answer -/
def kI (F : Int32 → mH → Prop) : mV → mH → Prop := fun v h => match v with
  | some (.inl x) => F x h
  | _ => False
def kV (F : mH → Prop) : mV → mH → Prop := fun v h => match v with
  | none => F h
  | _ => False
def kR5 (A : mH → Prop) (B : Nat → Nat → mH → Prop) : mV → mH → Prop := fun v h => match v with
  | some (.inr (.inr none)) => A h
  | some (.inr (.inr (some (5, r, i)))) => B r i h
  | _ => False
def kR6 (A : mH → Prop) (B : Nat → Nat → mH → Prop) : mV → mH → Prop := fun v h => match v with
  | some (.inr (.inr none)) => A h
  | some (.inr (.inr (some (6, r, i)))) => B r i h
  | _ => False
def kR0 (A : mH → Prop) (B : Nat → Nat → mH → Prop) : mV → mH → Prop := fun v h => match v with
  | some (.inr (.inr none)) => A h
  | some (.inr (.inr (some (0, r, i)))) => B r i h
  | _ => False
section KQ
variable {M : mM} {pc : Nat} {l st : List mV} {Q : mV → mH → Prop}
theorem kI_on {F : Int32 → mH → Prop} (kk : ∀ x h1, F x h1 → mE M pc l (vI x :: st) h1 Q) : ∀ v h1, kI F v h1 → mE M pc l (push v st) h1 Q := by
  intro v h1 hv
  unfold kI at hv
  split at hv
  · exact kk _ _ hv
  · exact hv.elim
theorem kV_on {F : mH → Prop} (kk : ∀ h1, F h1 → mE M pc l st h1 Q) : ∀ v h1, kV F v h1 → mE M pc l (push v st) h1 Q := by
  intro v h1 hv
  unfold kV at hv
  split at hv
  · exact kk _ hv
  · exact hv.elim
theorem kR5_on {A : mH → Prop} {B : Nat → Nat → mH → Prop} (ka : ∀ h1, A h1 → mE M pc l (vN :: st) h1 Q) (kb : ∀ r i h1, B r i h1 → mE M pc l (vR 5 r i :: st) h1 Q) : ∀ v h1, kR5 A B v h1 → mE M pc l (push v st) h1 Q := by
  intro v h1 hv
  unfold kR5 at hv
  split at hv
  · exact ka _ hv
  · exact kb _ _ _ hv
  · exact hv.elim
theorem kR6_on {A : mH → Prop} {B : Nat → Nat → mH → Prop} (ka : ∀ h1, A h1 → mE M pc l (vN :: st) h1 Q) (kb : ∀ r i h1, B r i h1 → mE M pc l (vR 6 r i :: st) h1 Q) : ∀ v h1, kR6 A B v h1 → mE M pc l (push v st) h1 Q := by
  intro v h1 hv
  unfold kR6 at hv
  split at hv
  · exact ka _ hv
  · exact kb _ _ _ hv
  · exact hv.elim
theorem kR0_on {A : mH → Prop} {B : Nat → Nat → mH → Prop} (ka : ∀ h1, A h1 → mE M pc l (vN :: st) h1 Q) (kb : ∀ r i h1, B r i h1 → mE M pc l (vR 0 r i :: st) h1 Q) : ∀ v h1, kR0 A B v h1 → mE M pc l (push v st) h1 Q := by
  intro v h1 hv
  unfold kR0 at hv
  split at hv
  · exact ka _ hv
  · exact kb _ _ _ hv
  · exact hv.elim
end KQ
/-! switches, Math -/
section SW
variable {M : mM} {pc : Nat} {l st : List mV} {h : mH} {Q : mV → mH → Prop}
/-- x is the a-th of the table -/
theorem mE.tabIn {dflt lo hi : Int} {offs : Array Int} {len tgt : Nat} {x : Int32} {v off : Int} (hd : decode M.2.1 pc = .ok (.tableswitch dflt lo hi offs, len)) (hx : x.toInt = v) (h1 : ¬ v < lo) (h2 : ¬ hi < v) (ho : offs[(v - lo).toNat]? = some off) (ht : (pc : Int) + off = (tgt : Int)) (k : mE M tgt l st h Q) : mE M pc l (vI x :: st) h Q := by
  intro G p l0 e R s m args below meth c H locs ls hC hD
  subst hx
  exact lv_tableIn hC.1 hC.2.1 hd h1 h2 ho ht (k G p l0 e R s m args below meth c H locs ls hC (hD.stk (ok_t hD.sk)))
theorem mE.tabOut {dflt lo hi : Int} {offs : Array Int} {len tgt : Nat} {x : Int32} (hd : decode M.2.1 pc = .ok (.tableswitch dflt lo hi offs, len)) (hx : x.toInt < lo ∨ hi < x.toInt) (ht : (pc : Int) + dflt = (tgt : Int)) (k : mE M tgt l st h Q) : mE M pc l (vI x :: st) h Q := by
  intro G p l0 e R s m args below meth c H locs ls hC hD
  exact lv_tableOut hC.1 hC.2.1 hd hx ht (k G p l0 e R s m args below meth c H locs ls hC (hD.stk (ok_t hD.sk)))
theorem mE.look {dflt : Int} {ps : Array (Int × Int)} {len tgt : Nat} {x : Int32} {off : Int} (hd : decode M.2.1 pc = .ok (.lookupswitch dflt ps, len)) (hp : (ps.toList.zip (ps.toList.drop 1)).all (fun (a, next) => a.1 < next.1) = true) (ho : Op.lookupswitch.offset ps.toList dflt x.toInt = off) (ht : (pc : Int) + off = (tgt : Int)) (k : mE M tgt l st h Q) : mE M pc l (vI x :: st) h Q := by
  intro G p l0 e R s m args below meth c H locs ls hC hD
  exact lv_lookup hC.1 hC.2.1 hd hp ho ht (k G p l0 e R s m args below meth c H locs ls hC (hD.stk (ok_t hD.sk)))
theorem mE.mmin {idx : Nat} {x y : Int32} (hd : decode M.2.1 pc = .ok (.invokestatic idx, 3)) (h1 : Jvm.Cond.methodLink M.1.cls idx Lib.Math.min.name ∈ TB) (h2 : Jvm.Cond.static Lib.Math.min.name ∈ TB) (h3 : Jvm.Cond.initialized "java/lang/Math" ∈ TB) (h4 : Jvm.Cond.code Lib.Math.min.name Lib.Math.min.code 2 (some .int) ∈ TB) (hro : 1 ≤ M.2.2.2.2.1 ∧ 21 ≤ M.2.2.2.2.2) (hroom : ∀ ad, ((st.map (cv ad)).map fun v => v.category).sum ≤ 8) (kk : mE M (pc + 3) l (vI (if y < x then y else x) :: st) h Q) : mE M pc l (vI y :: vI x :: st) h Q := by
  intro G p l0 e R s m args below meth c H locs ls hC hD
  have hts := hC.2.2.2.2.2.1
  have hr2 := hC.2.2.2.2.2.2.2.1
  have hq := hroom G.1
  exact va_mmin hC.1 hC.2.1 (hC.2.2.2.1.trans hD.lh.1.symm) hC.2.2.2.2.1 (hts _ h1) (hts _ h2) (hts _ h3) (hts _ h4) (Nat.le_trans hro.1 hr2.1) (by have := Nat.le_trans hro.2 hr2.2; omega) (Nat.zero_le _) (Nat.zero_le _) hd (kk G p l0 e R s m args below meth c H locs ls hC (hD.stk (ok_c trivial (ok_t (ok_t hD.sk)))))
theorem mE.mabs {idx : Nat} {x : Int32} (hd : decode M.2.1 pc = .ok (.invokestatic idx, 3)) (h1 : Jvm.Cond.methodLink M.1.cls idx Lib.Math.abs.name ∈ TB) (h2 : Jvm.Cond.static Lib.Math.abs.name ∈ TB) (h3 : Jvm.Cond.initialized "java/lang/Math" ∈ TB) (h4 : Jvm.Cond.code Lib.Math.abs.name Lib.Math.abs.code 1 (some .int) ∈ TB) (hro : 1 ≤ M.2.2.2.2.1 ∧ 21 ≤ M.2.2.2.2.2) (hroom : ∀ ad, ((st.map (cv ad)).map fun v => v.category).sum ≤ 8) (kk : mE M (pc + 3) l (vI (if 0 ≤ x then x else 0 - x) :: st) h Q) : mE M pc l (vI x :: st) h Q := by
  intro G p l0 e R s m args below meth c H locs ls hC hD
  have hts := hC.2.2.2.2.2.1
  have hr2 := hC.2.2.2.2.2.2.2.1
  have hq := hroom G.1
  exact va_mabs hC.1 hC.2.1 (hC.2.2.2.1.trans hD.lh.1.symm) hC.2.2.2.2.1 (hts _ h1) (hts _ h2) (hts _ h3) (hts _ h4) (Nat.le_trans hro.1 hr2.1) (by have := Nat.le_trans hro.2 hr2.2; omega) (Nat.zero_le _) (Nat.zero_le _) hd (kk G p l0 e R s m args below meth c H locs ls hC (hD.stk (ok_c trivial (ok_t hD.sk))))
end SW
