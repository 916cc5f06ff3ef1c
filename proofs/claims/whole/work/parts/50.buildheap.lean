/-! the second machine: fields and elements -/
def FinF (own : String) (idx k j : Nat) (ty : FieldType) : Prop := ∃ (ci : Nat) (C : String) (T : u_T), ClsF k ci C T ∧ j < kz k ∧ Jvm.Cond.fieldLink own idx C (T j).2.1 (T j).2.2.1 ∈ TB ∧ (T j).1 = C ∧ (T j).2.2.2 = true ∧ (T j).1 = own ∧ parseFieldDescriptor (T j).2.2.1 = some ty
theorem nSet_obj {G : nG} {h : nH} {H2 : Heap} {q j ci : Nat} {r : vw_C} {v : mV} {x : Value} (hk : (h.1 q).1 = .inl ci) (hcl : vwCl[ci]? = some r) (hx : cv (aN G.1) v = x) (A : t_OB (G.1 + q) (G.2.2.1 ci) r.2.2 (G.2.2.2 ci) H2 (updV (fun a => cv (aN G.1) ((h.1 q).2 a)) j x)) : nAt G H2 q ((h.1 q).1, fun a => if a = j then v else (h.1 q).2 a) := by
  refine nAt_mk hk hcl (A.to (fun a _ => ?_))
  by_cases e : a = j
  · simp only [updV, if_pos e]
    exact hx.symm
  · simp only [updV, if_neg e]
theorem nSet_arr {G : nG} {h : nH} {H2 : Heap} {q j n : Nat} {t : FieldType} {v : mV} {x : Value} (hk : (h.1 q).1 = .inr (t, n)) (hx : cv (aN G.1) v = x) (A : H2[G.1 + q]? = some ((arrV (G.2.1 t) n (fun a => cv (aN G.1) ((h.1 q).2 a))).setSlot j x)) : nAt G H2 q ((h.1 q).1, fun a => if a = j then v else (h.1 q).2 a) := by
  refine nAt_mkA hk ?_
  rw [A, arrV_store]
  refine congrArg some (arrV_cong (fun a _ => ?_))
  by_cases e : a = j
  · simp only [updV, if_pos e]
    exact hx.symm
  · simp only [updV, if_neg e]
section NHEAP
variable {M : mM} {Z : Nat × Nat} {pc : Nat} {l st : List mV} {h : nH} {nc ns : Nat} {Q : nH → Prop}
theorem nE.getf {idx k ci q j : Nat} {w : mW} (hd : decode M.2.1 pc = .ok (.getfield idx, 3)) (F : FldF M.1.cls idx k j) (hc : kc k = some ci) (hq : q < h.2) (hk : (h.1 q).1 = .inl ci) (hv : (h.1 q).2 j = some w) (kk : nE M Z (pc + 3) l (some w :: st) h nc ns Q) : nE M Z pc l (vQ q :: st) h nc ns Q := by
  intro G p l0 e R s m args below meth c H locs ls hC hD
  obtain ⟨ci2, C, T, ⟨hc2, hcl, hin, -⟩, hj, hw, ho⟩ := F
  cases hc.symm.trans hc2
  obtain ⟨cell, q1, q2, q3, q4⟩ := nAt_obj hk hcl (hD.1.2 q hq)
  obtain ⟨hx, hb, hr, hml, hown, hts, hlk, hroom, hK, hnm⟩ := id hC
  obtain ⟨hS, hfc, kC, hkC, hkind⟩ := hK.1 ci _ hcl
  obtain ⟨cf, kf, fi, f, hi, hsl⟩ := hS j hj
  refine W.getf (ref := C) hx hb hown (hts _ hw) (by rw [← ho]; exact hi) (u_facts hfc hkC (u_lays hts hin hj) hi).1 q1 (by rw [q3]; exact fun h => by cases h) (v := cw (aN G.1) w) ?_ rfl rfl hd (kk G p l0 e R s m args below meth c H locs ls hC hD)
  rw [hsl, q4 j hj]
  show some (cv (aN G.1) ((h.1 q).2 j)) = _
  rw [hv]
  rfl
theorem nE.putF {idx k ci q j : Nat} {ty : FieldType} {w : mW} (hd : decode M.2.1 pc = .ok (.putfield idx, 3)) (F : FinF M.1.cls idx k j ty) (hc : kc k = some ci) (hq : q < h.2) (hk : (h.1 q).1 = .inl ci) (hn : ∀ N, narrow ty (cw (aN N) w) = cw (aN N) w) (hf : ∀ N, fits ty (cw (aN N) w) = true) (kk : nE M Z (pc + 3) l st (nSet h q j (some w)) nc ns Q) : nE M Z pc l (some w :: vQ q :: st) h nc ns Q := by
  intro G p l0 e R s m args below meth c H locs ls hC hD
  obtain ⟨ci2, C, T, ⟨hc2, hcl, hin, hnmd, ty0, hty⟩, hj, hw, ho, hfin, hdecl, hpd⟩ := F
  cases hc.symm.trans hc2
  obtain ⟨cell, q1, q2, q3, q4⟩ := nAt_obj hk hcl (hD.1.2 q hq)
  obtain ⟨hx, hb, hr, hml, hown, hts, hlk, hroom, hK, hnm⟩ := id hC
  obtain ⟨hS, hfc, kC, hkC, hkind⟩ := hK.1 ci _ hcl
  obtain ⟨cf, kf, fi, f, hi, hsl⟩ := hS j hj
  have hap := va_apart (own := C) (D := (G.2.2.1, G.2.2.2)) (cl := vwCl) (tys := []) (s := s) (ci := ci) hts hin ty0 hty hnmd ⟨hK.1, fun k q h => by simp at h⟩ hcl
  have hlay := hts _ (hin _ (u_in_lay hj))
  unfold u_lay at hlay
  rw [if_pos hfin] at hlay
  have hst := (u_facts hfc hkC (u_lays hts hin hj) hi).1
  have hcf : m.cls = cf := by
    obtain ⟨_, _, c', _, _, _, -, -, hf', -, -, -, hown2, -⟩ := Cond.laysFinal_spec hlay
    have e1 : c' = cf := by have := hi.symm.trans hf'; simp at this; exact this.1.symm
    rw [hdecl] at hown2
    rw [← e1]; exact Option.some.inj (hown.symm.trans hown2)
  have h6 := u_fits hfc hkC hkind (Or.inr hlay) hi hpd (hn G.1) (hf G.1)
  refine W.putFinK hx hb hown (hts _ hw) (by rw [← ho]; exact hi) hst hcf hnm (by rw [q2]; exact h6) q1 q3 (by rw [hsl]; exact k2_hasslot (q4 j hj)) rfl rfl hd fun H2 e1 e2 e3 => ?_
  rw [hsl] at e1 ⊢
  exact kk G p l0 e R s m args below meth c H2 _ ls hC ⟨hD.1.put e2 e3 (nSet_obj hk hcl rfl ⟨_, e1, q2, q3, t_set q4 hap hj _⟩), hD.2.1, hD.2.2.put e2 e3 (Nat.le_add_right _ _)⟩
theorem nE.putf {idx k ci q j : Nat} {ty : FieldType} {w : mW} (hd : decode M.2.1 pc = .ok (.putfield idx, 3)) (F : PutF M.1.cls idx k j ty) (hc : kc k = some ci) (hq : q < h.2) (hk : (h.1 q).1 = .inl ci) (hn : ∀ N, narrow ty (cw (aN N) w) = cw (aN N) w) (hf : ∀ N, fits ty (cw (aN N) w) = true) (kk : nE M Z (pc + 3) l st (nSet h q j (some w)) nc ns Q) : nE M Z pc l (some w :: vQ q :: st) h nc ns Q := by
  intro G p l0 e R s m args below meth c H locs ls hC hD
  obtain ⟨ci2, C, T, ⟨hc2, hcl, hin, hnmd, ty0, hty⟩, hj, hw, ho, hfin, hpd⟩ := F
  cases hc.symm.trans hc2
  obtain ⟨cell, q1, q2, q3, q4⟩ := nAt_obj hk hcl (hD.1.2 q hq)
  obtain ⟨hx, hb, hr, hml, hown, hts, hlk, hroom, hK, hnm⟩ := id hC
  obtain ⟨hS, hfc, kC, hkC, hkind⟩ := hK.1 ci _ hcl
  obtain ⟨cf, kf, fi, f, hi, hsl⟩ := hS j hj
  have hap := va_apart (own := C) (D := (G.2.2.1, G.2.2.2)) (cl := vwCl) (tys := []) (s := s) (ci := ci) hts hin ty0 hty hnmd ⟨hK.1, fun k q h => by simp at h⟩ hcl
  have hlay := hts _ (hin _ (u_in_lay hj))
  unfold u_lay at hlay
  rw [if_neg (by rw [hfin]; decide)] at hlay
  have hst := (u_facts hfc hkC (u_lays hts hin hj) hi).1
  have h6 := u_store hfc hkC hkind hlay hi hpd (hn G.1) (hf G.1)
  refine W.putK hx hb (f := f) (v := cw (aN G.1) w) ⟨hown, hts _ hw, ⟨cf, kf, fi, by rw [← ho]; exact hi⟩, hst⟩ (by rw [q2]; exact h6) q1 q3 (by rw [hsl]; exact k2_hasslot (q4 j hj)) rfl rfl hd fun H2 e1 e2 e3 => ?_
  rw [hsl] at e1 ⊢
  exact kk G p l0 e R s m args below meth c H2 _ ls hC ⟨hD.1.put e2 e3 (nSet_obj hk hcl rfl ⟨_, e1, q2, q3, t_set q4 hap hj _⟩), hD.2.1, hD.2.2.put e2 e3 (Nat.le_add_right _ _)⟩
theorem nE.alen {q n : Nat} {t : FieldType} {v : Int32} (hd : decode M.2.1 pc = .ok (.arraylength, 1)) (hq : q < h.2) (hk : (h.1 q).1 = .inr (t, n)) (ht : t ∈ ATs) (hv : Int32.ofNat n = v) (kk : nE M Z (pc + 1) l (vI v :: st) h nc ns Q) : nE M Z pc l (vQ q :: st) h nc ns Q := by
  intro G p l0 e R s m args below meth c H locs ls hC hD
  have hA := nAt_arr hk (hD.1.2 q hq)
  exact W.alen hC.1 hC.2.1 hA ((hC.2.2.2.2.2.2.2.2.1.2.2.1 t ht).1 _ _) (by rw [arrV_size]; exact hv) rfl rfl hd (kk G p l0 e R s m args below meth c H locs ls hC hD)
theorem nE.iast {q n : Nat} {j x : Int32} (hd : decode M.2.1 pc = .ok (.iastore, 1)) (hq : q < h.2) (hk : (h.1 q).1 = .inr (.int, n)) (hin : vp_in j n) (kk : nE M Z (pc + 1) l st (nSet h q j.toNatClampNeg (vI x)) nc ns Q) : nE M Z pc l (vI x :: vI j :: vQ q :: st) h nc ns Q := by
  intro G p l0 e R s m args below meth c H locs ls hC hD
  have hA := nAt_arr hk (hD.1.2 q hq)
  refine W.iast hC.1 hC.2.1 hA ((hC.2.2.2.2.2.2.2.2.1.2.2.1 .int List.mem_cons_self).1 _ _) (fun q => by cases q) (by rw [arrV_size]; exact hin) rfl rfl hd fun H2 e1 e2 e3 => ?_
  exact kk G p l0 e R s m args below meth c H2 _ ls hC ⟨hD.1.put e2 e3 (nSet_arr hk rfl e1), hD.2.1, hD.2.2.put e2 e3 (Nat.le_add_right _ _)⟩
theorem nE.aast {q q2 n ci : Nat} {C : String} {T : u_T} {j : Int32} {z : Nat} (hd : decode M.2.1 pc = .ok (.aastore, 1)) (hq : q < h.2) (hk : (h.1 q).1 = .inr (.object C, n)) (ht : FieldType.object C ∈ ATs) (hq2 : q2 < h.2) (hk2 : (h.1 q2).1 = .inl ci) (hcl : vwCl[ci]? = some (C, T, z)) (hin : vp_in j n) (kk : nE M Z (pc + 1) l st (nSet h q j.toNatClampNeg (vQ q2)) nc ns Q) : nE M Z pc l (vQ q2 :: vI j :: vQ q :: st) h nc ns Q := by
  intro G p l0 e R s m args below meth c H locs ls hC hD
  have hA := nAt_arr hk (hD.1.2 q hq)
  obtain ⟨cellV, g1, g2, g3, -⟩ := nAt_obj hk2 hcl (hD.1.2 q2 hq2)
  have hK := hC.2.2.2.2.2.2.2.2.1
  have hcls := (hK.1 ci _ hcl).2
  obtain ⟨kA, comp, k1, k2, k3, -⟩ := (hK.2.2.1 _ ht).2
  have hcomp : comp = G.2.2.1 ci := Option.some.inj (k3.symm.trans hcls.1)
  subst hcomp
  obtain ⟨kC, hkC, -⟩ := hcls.2
  refine W.aast hC.1 hC.2.1 hA (fun q h => by cases h) (fun h => by cases h) k1 k2 rfl hkC ⟨fun q => hin (Or.inl q), by rw [arrV_size]; exact vp_lt hin⟩ g1 (fun q h => by rw [g3] at h; cases h) (by rw [g2]; exact hkC) (by rw [g2]; exact va_assign hcls) rfl rfl hd fun H2 e1 e2 e3 => ?_
  exact kk G p l0 e R s m args below meth c H2 _ ls hC ⟨hD.1.put e2 e3 (nSet_arr hk rfl e1), hD.2.1, hD.2.2.put e2 e3 (Nat.le_add_right _ _)⟩
end NHEAP
