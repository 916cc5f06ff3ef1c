/-! fields -/
def ClsF (k ci : Nat) (C : String) (T : u_T) : Prop := kc k = some ci ∧ vwCl[ci]? = some (C, T, kz k) ∧ (∀ w ∈ u_ws C T (kz k), w ∈ TB) ∧ (∀ a, a < kz k → ∀ b, b < kz k → a ≠ b → (T a).2.1 ≠ (T b).2.1) ∧ ∃ ty0 : Nat → FieldType, ∀ a, a < kz k → parseFieldDescriptor (T a).2.2.1 = some (ty0 a)
def FldF (own : String) (idx k j : Nat) : Prop := ∃ (ci : Nat) (C : String) (T : u_T), ClsF k ci C T ∧ j < kz k ∧ Jvm.Cond.fieldLink own idx C (T j).2.1 (T j).2.2.1 ∈ TB ∧ (T j).1 = C
def PutF (own : String) (idx k j : Nat) (ty : FieldType) : Prop := ∃ (ci : Nat) (C : String) (T : u_T), ClsF k ci C T ∧ j < kz k ∧ Jvm.Cond.fieldLink own idx C (T j).2.1 (T j).2.2.1 ∈ TB ∧ (T j).1 = C ∧ (T j).2.2.2 = false ∧ parseFieldDescriptor (T j).2.2.1 = some ty
section HEAP
variable {M : mM} {pc : Nat} {l st : List mV} {h : mH} {Q : mV → mH → Prop}
theorem mE.getf {idx k r i j : Nat} {w : mW} (hd : decode M.2.1 pc = .ok (.getfield idx, 3)) (F : FldF M.1.cls idx k j) (hv : sv h k r i j = some w) (kk : mE M (pc + 3) l (some w :: st) h Q) : mE M pc l (vR k r i :: st) h Q := by
  intro G p l0 e R s m args below meth c H locs ls hC hD
  obtain ⟨ci, C, T, ⟨hc, hcl, hin, -⟩, hj, hw, ho⟩ := F
  have hok : okId k r i := ok_h hD.sk
  have hA := hD.1 k r i hok
  rw [atK_obj hc] at hA
  obtain ⟨cell, q1, q2, q3, q4⟩ := hA
  obtain ⟨hx, hb, hr, hml, hown, hts, hlk, hroom, hK, hI⟩ := id hC
  obtain ⟨hS, hfc, kC, hkC, hkind⟩ := hK.1 ci _ hcl
  obtain ⟨cf, kf, fi, f, hi, hsl⟩ := hS j hj
  have hwv : okV (some w) := hv ▸ sv_ok hD.2.1 hok hj
  refine W.getf (ref := C) hx hb hown (hts _ hw) (by rw [← ho]; exact hi) (u_facts hfc hkC (u_lays hts hin hj) hi).1 q1 (by rw [q3]; exact fun h => by cases h) (v := cw G.1 w) ?_ rfl rfl hd (kk G p l0 e R s m args below meth c H locs ls hC (hD.stk (ok_c hwv (ok_t hD.sk))))
  rw [hsl, q4 j hj]
  show some (cv G.1 (sv h k r i j)) = _
  rw [hv]
  rfl
theorem mE.putf {idx k r i j : Nat} {ty : FieldType} {x : Int32} (hd : decode M.2.1 pc = .ok (.putfield idx, 3)) (F : PutF M.1.cls idx k j ty) (hI : isI k j) (hn : narrow ty (.int x) = .int x) (hf : fits ty (.int x) = true) (kk : mE M (pc + 3) l st (pI h k r i j x) Q) : mE M pc l (vI x :: vR k r i :: st) h Q := by
  intro G p l0 e R s m args below meth c H locs ls hC hD
  obtain ⟨ci, C, T, ⟨hc, hcl, hin, hnm, ty0, hty⟩, hj, hw, ho, hfin, hpd⟩ := F
  have hok : okId k r i := ok_h (ok_t hD.sk)
  have hA := hD.1 k r i hok
  rw [atK_obj hc] at hA
  obtain ⟨cell, q1, q2, q3, q4⟩ := hA
  obtain ⟨hx, hb, hr, hml, hown, hts, hlk, hroom, hK, hIn⟩ := id hC
  obtain ⟨hS, hfc, kC, hkC, hkind⟩ := hK.1 ci _ hcl
  obtain ⟨cf, kf, fi, f, hi, hsl⟩ := hS j hj
  have hap := va_apart (own := C) (D := (G.2.1, G.2.2.1)) (cl := vwCl) (tys := []) (s := s) (ci := ci) hts hin ty0 hty hnm ⟨hK.1, fun k q h => by simp at h⟩ hcl
  have hlay := hts _ (hin _ (u_in_lay hj))
  unfold u_lay at hlay
  rw [if_neg (by rw [hfin]; decide)] at hlay
  have hst := (u_facts hfc hkC (u_lays hts hin hj) hi).1
  have h6 := u_store hfc hkC hkind hlay hi hpd hn hf
  refine W.putK hx hb (f := f) (v := .int x) ⟨hown, hts _ hw, ⟨cf, kf, fi, by rw [← ho]; exact hi⟩, hst⟩ (by rw [q2]; exact h6) q1 q3 (by rw [hsl]; exact k2_hasslot (q4 j hj)) rfl rfl hd fun H2 e1 e2 e3 => ?_
  rw [hsl] at e1 ⊢
  refine kk G p l0 e R s m args below meth c H2 _ ls hC ((hD.stk (ok_t (ok_t hD.sk))).hp (Rep.put hIn hD.1 hok ?_ e3 ?_) (pI_VH hD.2.1) (hD.fr.put e2 e3 ⟨k, r, i, hok, rfl⟩))
  · rw [atK_obj hc]
    refine t_OB.to (V := updV (fun a => cv G.1 (sv h k r i a)) j (.int x)) ⟨_, e1, q2, q3, t_set q4 hap hj _⟩ (fun a ha => ?_)
    rw [sv_pI hI]
    by_cases q : a = j
    · subst q
      simp [updV, cv, cw]
    · simp [updV, q]
  · intro k2 r2 i2 s2 _ q
    rw [sv_pI hI, if_neg (fun z => q ⟨z.1, z.2.2.1, z.2.2.2⟩)]
/-! arrays -/
theorem mE.alen {k r i : Nat} {v : Int32} (hd : decode M.2.1 pc = .ok (.arraylength, 1)) (hc : kc k = none) (hv : Int32.ofNat (kz k) = v) (kk : mE M (pc + 1) l (vI v :: st) h Q) : mE M pc l (vR k r i :: st) h Q := by
  intro G p l0 e R s m args below meth c H locs ls hC hD
  have hok : okId k r i := ok_h hD.sk
  have hA := hD.1 k r i hok
  rw [atK_arr hc] at hA
  obtain ⟨g1, g2⟩ := ok_arr hok hc
  exact W.alen hC.1 hC.2.1 hA (hC.2.2.2.2.2.2.2.2.1.2.1 k hc g1 g2 _ _) (by rw [arrV_size]; exact hv) rfl rfl hd (kk G p l0 e R s m args below meth c H locs ls hC (hD.stk (ok_c trivial (ok_t hD.sk))))
theorem vp_lt {i : Int32} {n : Nat} (h : vp_in i n) : i.toNatClampNeg < n := Nat.not_le.mp fun q => h (Or.inr q)
theorem mE.iald {k r i : Nat} {j x : Int32} (hd : decode M.2.1 pc = .ok (.iaload, 1)) (hc : kc k = none) (ht : kt k = .int) (hin : vp_in j (kz k)) (hv : sv h k r i j.toNatClampNeg = vI x) (kk : mE M (pc + 1) l (vI x :: st) h Q) : mE M pc l (vI j :: vR k r i :: st) h Q := by
  intro G p l0 e R s m args below meth c H locs ls hC hD
  have hok : okId k r i := ok_h (ok_t hD.sk)
  have hA := hD.1 k r i hok
  rw [atK_arr hc] at hA
  obtain ⟨g1, g2⟩ := ok_arr hok hc
  have hT := hC.2.2.2.2.2.2.2.2.1.2.1 k hc g1 g2
  rw [ht] at hT
  exact W.iald hC.1 hC.2.1 hA (hT _ _) (fun q => by cases q) (by rw [arrV_size]; exact hin) (by rw [arrV_read _ _ (vp_lt hin), hv]) rfl rfl hd (kk G p l0 e R s m args below meth c H locs ls hC (hD.stk (ok_c trivial (ok_t (ok_t hD.sk)))))
theorem mE.zald {k r i : Nat} {j x : Int32} (hd : decode M.2.1 pc = .ok (.baload, 1)) (hc : kc k = none) (ht : kt k = .boolean) (hin : vp_in j (kz k)) (hv : sv h k r i j.toNatClampNeg = vI x) (kk : mE M (pc + 1) l (vI x :: st) h Q) : mE M pc l (vI j :: vR k r i :: st) h Q := by
  intro G p l0 e R s m args below meth c H locs ls hC hD
  have hok : okId k r i := ok_h (ok_t hD.sk)
  have hA := hD.1 k r i hok
  rw [atK_arr hc] at hA
  obtain ⟨g1, g2⟩ := ok_arr hok hc
  have hT := hC.2.2.2.2.2.2.2.2.1.2.1 k hc g1 g2
  rw [ht] at hT
  exact W.zald hC.1 hC.2.1 hA (hT _ _) (fun q => by cases q) (by rw [arrV_size]; exact hin) (by rw [arrV_read _ _ (vp_lt hin), hv]) rfl rfl hd (kk G p l0 e R s m args below meth c H locs ls hC (hD.stk (ok_c trivial (ok_t (ok_t hD.sk)))))
theorem mE.cald {k r i : Nat} {j x : Int32} (hd : decode M.2.1 pc = .ok (.caload, 1)) (hc : kc k = none) (ht : kt k = .char) (hin : vp_in j (kz k)) (hv : sv h k r i j.toNatClampNeg = vI x) (kk : mE M (pc + 1) l (vI x :: st) h Q) : mE M pc l (vI j :: vR k r i :: st) h Q := by
  intro G p l0 e R s m args below meth c H locs ls hC hD
  have hok : okId k r i := ok_h (ok_t hD.sk)
  have hA := hD.1 k r i hok
  rw [atK_arr hc] at hA
  obtain ⟨g1, g2⟩ := ok_arr hok hc
  have hT := hC.2.2.2.2.2.2.2.2.1.2.1 k hc g1 g2
  rw [ht] at hT
  exact W.cald hC.1 hC.2.1 hA (hT _ _) (fun q => by cases q) (by rw [arrV_size]; exact hin) (by rw [arrV_read _ _ (vp_lt hin), hv]) rfl rfl hd (kk G p l0 e R s m args below meth c H locs ls hC (hD.stk (ok_c trivial (ok_t (ok_t hD.sk)))))
theorem mE.aald {k r i : Nat} {C : String} {j : Int32} {w : mW} (hd : decode M.2.1 pc = .ok (.aaload, 1)) (hc : kc k = none) (ht : kt k = .object C) (hin : vp_in j (kz k)) (hv : sv h k r i j.toNatClampNeg = some w) (kk : mE M (pc + 1) l (some w :: st) h Q) : mE M pc l (vI j :: vR k r i :: st) h Q := by
  intro G p l0 e R s m args below meth c H locs ls hC hD
  have hok : okId k r i := ok_h (ok_t hD.sk)
  have hA := hD.1 k r i hok
  rw [atK_arr hc] at hA
  obtain ⟨g1, g2⟩ := ok_arr hok hc
  have hT := hC.2.2.2.2.2.2.2.2.1.2.1 k hc g1 g2
  rw [ht] at hT
  have hwv : okV (some w) := hv ▸ sv_ok hD.2.1 hok (vp_lt hin)
  exact W.aald (ty := .object C) hC.1 hC.2.1 hA (hT _ _) rfl (fun q => by cases q) (by rw [arrV_size]; exact hin) (by rw [arrV_read _ _ (vp_lt hin), hv]) rfl rfl hd (kk G p l0 e R s m args below meth c H locs ls hC (hD.stk (ok_c hwv (ok_t (ok_t hD.sk)))))
/-- an element of an array of numbers, written -/
theorem arr_new {G : mG} {k r i : Nat} {H2 : Heap} {j : Int32} {x : Int32} (hc : kc k = none) (hI : ∀ a, isI k a) (e1 : H2[G.1 k r i]? = some ((arrV (G.2.2.2 k) (kz k) (fun s => cv G.1 (sv h k r i s))).setSlot j.toNatClampNeg (.int x))) : atK G (pI h k r i j.toNatClampNeg x) H2 k r i := by
  rw [atK_arr hc, e1, arrV_store]
  refine congrArg some (arrV_cong (fun a ha => ?_))
  rw [sv_pI (hI _)]
  by_cases q : a = j.toNatClampNeg
  · subst q
    simp [updV, cv, cw]
  · simp [updV, q]
theorem mE.iast {k r i : Nat} {j x : Int32} (hd : decode M.2.1 pc = .ok (.iastore, 1)) (hc : kc k = none) (ht : kt k = .int) (hI : ∀ a, isI k a) (hin : vp_in j (kz k)) (kk : mE M (pc + 1) l st (pI h k r i j.toNatClampNeg x) Q) : mE M pc l (vI x :: vI j :: vR k r i :: st) h Q := by
  intro G p l0 e R s m args below meth c H locs ls hC hD
  have hok : okId k r i := ok_h (ok_t (ok_t hD.sk))
  have hA := hD.1 k r i hok
  rw [atK_arr hc] at hA
  obtain ⟨g1, g2⟩ := ok_arr hok hc
  have hT := hC.2.2.2.2.2.2.2.2.1.2.1 k hc g1 g2
  rw [ht] at hT
  refine W.iast hC.1 hC.2.1 hA (hT _ _) (fun q => by cases q) (by rw [arrV_size]; exact hin) rfl rfl hd fun H2 e1 e2 e3 => ?_
  exact kk G p l0 e R s m args below meth c H2 _ ls hC ((hD.stk (ok_t (ok_t (ok_t hD.sk)))).hp (Rep.put hC.2.2.2.2.2.2.2.2.2 hD.1 hok (arr_new hc hI e1) e3 (fun k2 r2 i2 s2 _ q => by rw [sv_pI (hI _), if_neg (fun z => q ⟨z.1, z.2.2.1, z.2.2.2⟩)])) (pI_VH hD.2.1) (hD.fr.put e2 e3 ⟨k, r, i, hok, rfl⟩))
theorem mE.zast {k r i : Nat} {j x : Int32} (hd : decode M.2.1 pc = .ok (.bastore, 1)) (hc : kc k = none) (ht : kt k = .boolean) (hI : ∀ a, isI k a) (hin : vp_in j (kz k)) (hn : narrow .boolean (.int x) = .int x) (kk : mE M (pc + 1) l st (pI h k r i j.toNatClampNeg x) Q) : mE M pc l (vI x :: vI j :: vR k r i :: st) h Q := by
  intro G p l0 e R s m args below meth c H locs ls hC hD
  have hok : okId k r i := ok_h (ok_t (ok_t hD.sk))
  have hA := hD.1 k r i hok
  rw [atK_arr hc] at hA
  obtain ⟨g1, g2⟩ := ok_arr hok hc
  have hT := hC.2.2.2.2.2.2.2.2.1.2.1 k hc g1 g2
  rw [ht] at hT
  refine W.zast hC.1 hC.2.1 hA (hT _ _) (fun q => by cases q) (by rw [arrV_size]; exact hin) rfl rfl hd fun H2 e1 e2 e3 => ?_
  rw [hn] at e1
  exact kk G p l0 e R s m args below meth c H2 _ ls hC ((hD.stk (ok_t (ok_t (ok_t hD.sk)))).hp (Rep.put hC.2.2.2.2.2.2.2.2.2 hD.1 hok (arr_new hc hI e1) e3 (fun k2 r2 i2 s2 _ q => by rw [sv_pI (hI _), if_neg (fun z => q ⟨z.1, z.2.2.1, z.2.2.2⟩)])) (pI_VH hD.2.1) (hD.fr.put e2 e3 ⟨k, r, i, hok, rfl⟩))
theorem mE.cast {k r i : Nat} {j x : Int32} (hd : decode M.2.1 pc = .ok (.castore, 1)) (hc : kc k = none) (ht : kt k = .char) (hI : ∀ a, isI k a) (hin : vp_in j (kz k)) (hn : narrow .char (.int x) = .int x) (kk : mE M (pc + 1) l st (pI h k r i j.toNatClampNeg x) Q) : mE M pc l (vI x :: vI j :: vR k r i :: st) h Q := by
  intro G p l0 e R s m args below meth c H locs ls hC hD
  have hok : okId k r i := ok_h (ok_t (ok_t hD.sk))
  have hA := hD.1 k r i hok
  rw [atK_arr hc] at hA
  obtain ⟨g1, g2⟩ := ok_arr hok hc
  have hT := hC.2.2.2.2.2.2.2.2.1.2.1 k hc g1 g2
  rw [ht] at hT
  refine W.cast hC.1 hC.2.1 hA (hT _ _) (fun q => by cases q) (by rw [arrV_size]; exact hin) rfl rfl hd fun H2 e1 e2 e3 => ?_
  rw [hn] at e1
  exact kk G p l0 e R s m args below meth c H2 _ ls hC ((hD.stk (ok_t (ok_t (ok_t hD.sk)))).hp (Rep.put hC.2.2.2.2.2.2.2.2.2 hD.1 hok (arr_new hc hI e1) e3 (fun k2 r2 i2 s2 _ q => by rw [sv_pI (hI _), if_neg (fun z => q ⟨z.1, z.2.2.1, z.2.2.2⟩)])) (pI_VH hD.2.1) (hD.fr.put e2 e3 ⟨k, r, i, hok, rfl⟩))
/-- a car among the movers -/
theorem mE.aast {r r2 i2 : Nat} {j : Int32} (hd : decode M.2.1 pc = .ok (.aastore, 1)) (hin : vp_in j 40) (kk : mE M (pc + 1) l st (pM h r j.toNatClampNeg (some (r2, i2))) Q) : mE M pc l (vR 5 r2 i2 :: vI j :: vR 4 r 0 :: st) h Q := by
  intro G p l0 e R s m args below meth c H locs ls hC hD
  have hok : okId 4 r 0 := ok_h (ok_t (ok_t hD.sk))
  have hokc : okId 5 r2 i2 := ok_h hD.sk
  have hA := hD.1 4 r 0 hok
  rw [atK_arr rfl] at hA
  have hB := hD.1 5 r2 i2 hokc
  rw [atK_obj rfl] at hB
  obtain ⟨cellV, g1, g2, g3, -⟩ := hB
  have hK := hC.2.2.2.2.2.2.2.2.1
  have hcls := (hK.1 0 (RX0, TX0, 11) rfl).2
  obtain ⟨kA, comp, k1, k2, k3, -⟩ := hK.2.2.1
  have hcomp : comp = G.2.1 0 := Option.some.inj (k3.symm.trans hcls.1)
  subst hcomp
  obtain ⟨kC, hkC, -⟩ := hcls.2
  refine W.aast hC.1 hC.2.1 hA (fun q h => by cases h) (fun h => by cases h) k1 k2 rfl hkC ⟨fun q => hin (Or.inl q), by rw [arrV_size]; exact vp_lt hin⟩ g1 (fun q h => by rw [g3] at h; cases h) (by rw [g2]; exact hkC) (by rw [g2]; exact va_assign hcls) rfl rfl hd fun H2 e1 e2 e3 => ?_
  refine kk G p l0 e R s m args below meth c H2 _ ls hC ((hD.stk (ok_t (ok_t (ok_t hD.sk)))).hp (Rep.put hC.2.2.2.2.2.2.2.2.2 hD.1 hok ?_ e3 (fun k2 r2 i2 s2 ho q => sv_pM _ _ _ _ (fun z => ?_))) (pM_VH hD.2.1 (fun p hp => by cases hp; exact hokc)) (hD.fr.put e2 e3 ⟨4, r, 0, hok, rfl⟩))
  · rw [atK_arr rfl, e1, arrV_store]
    refine congrArg some (arrV_cong (fun a ha => ?_))
    by_cases q : a = j.toNatClampNeg
    · subst q
      simp [updV, cv, cw, sv, pM]
    · simp [updV, q, sv, pM]
  · obtain ⟨rfl, rfl, -⟩ := z
    exact q ⟨rfl, rfl, ho.2⟩
end HEAP
