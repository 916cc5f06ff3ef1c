/-! a car's move: rows stay well formed, cells stay right; the class's move -/
theorem chg_at {R : rw_} {c : Nat} : chgF R c (70 + 10 * c) = 1 - R (70 + 10 * c) ∧ chgF R c (71 + 10 * c) = R (71 + 10 * c) ∧ chgF R c (72 + 10 * c) = R (72 + 10 * c) ∧ chgF R c (73 + 10 * c) = R (73 + 10 * c) ∧ chgF R c (74 + 10 * c) = R (74 + 10 * c) ∧ chgF R c (75 + 10 * c) = R (75 + 10 * c) ∧ chgF R c (76 + 10 * c) = 0 ∧ chgF R c (77 + 10 * c) = R (77 + 10 * c) + 1 ∧ chgF R c (78 + 10 * c) = R (78 + 10 * c) ∧ chgF R c (79 + 10 * c) = R (79 + 10 * c) := by
  simp [chgF, up]
theorem on_at {R : rw_} {c m : Nat} : onF R c m (70 + 10 * c) = R (70 + 10 * c) ∧ onF R c m (71 + 10 * c) = R (71 + 10 * c) + m ∧ onF R c m (72 + 10 * c) = R (72 + 10 * c) ∧ onF R c m (73 + 10 * c) = R (73 + 10 * c) ∧ onF R c m (74 + 10 * c) = R (74 + 10 * c) ∧ onF R c m (75 + 10 * c) = gonF R c m ∧ onF R c m (76 + 10 * c) = R (76 + 10 * c) ∧ onF R c m (77 + 10 * c) = R (77 + 10 * c) ∧ onF R c m (78 + 10 * c) = R (78 + 10 * c) + (if (m : Int) < R (73 + 10 * c) ∧ gonF R c m = 0 then 1 else 0) ∧ onF R c m (79 + 10 * c) = R (79 + 10 * c) := by
  simp [onF, up]
theorem mv_ok {R C : rw_} {c : Nat} (hW : WF R) (hL : LayOK R C) (hc : (c : Int) < R 4) (hon : R (75 + 10 * c) = 0) : WF (mvF R C c).1 ∧ LayOK (mvF R C c).1 (mvF R C c).2 := by
  have w := hW.2.1 c hc
  unfold WFc lasF at w
  obtain ⟨w0, w1, w2, w3, w4, w5, w6, w7, w8, w9, w10, w11, w12, w13⟩ := w
  have hb := hW.c
  by_cases hcan : canF R C c
  · have e : mvF R C c = (chgF R c, markF (chgF R c) (markF R C c (-6)) c c) := by unfold mvF; rw [if_pos hcan]
    rw [e]
    dsimp only
    obtain ⟨a0, a1, a2, a3, a4, a5, a6, a7, a8, a9⟩ := chg_at (R := R) (c := c)
    refine ⟨hW.setc hc ?_ (fun k hk => chgF_ne hk), hL.move hc (chgF_ne (by omega)) (fun k hk => chgF_ne hk) hon (fun _ k hk hcv => ?_) (fun k hk => ?_)⟩
    · unfold WFc lasF
      rw [a0, a1, a2, a3, a4, a5, a6, a9]
      omega
    · unfold cov lasF at hcv
      rw [a0, a1, a2] at hcv
      obtain ⟨j, hj⟩ : ∃ j : Nat, (k : Int) - 40 * (1 - R (70 + 10 * c)) = lasF R c + j := ⟨((k : Int) - 40 * (1 - R (70 + 10 * c)) - lasF R c).toNat, by unfold lasF; omega⟩
      have hfr := bes_free hcan.2 j (by unfold lasF at hj; omega)
      rw [← hj] at hfr
      unfold freeP at hfr
      rw [show (40 * (1 - R (70 + 10 * c)) + ((k : Int) - 40 * (1 - R (70 + 10 * c)))).toNat = k by omega] at hfr
      rcases Lay_val hL hk with q | q
      · exact Or.inl q
      · omega
    · unfold markF
      rw [a5]
      by_cases q : cov (chgF R c) c k
      · rw [if_pos q, if_pos ⟨hon, q⟩]
      · rw [if_neg q, if_neg (c := R (75 + 10 * c) = 0 ∧ cov (chgF R c) c k) (fun z => q z.2)]
  · have e : mvF R C c = (onF R c (adv R C c), if gonF R c (adv R C c) = 0 then markF (onF R c (adv R C c)) (markF R C c (-6)) c c else markF R C c (-6)) := by unfold mvF; rw [if_neg hcan]
    rw [e]
    dsimp only
    have hadv : ∀ j, j < adv R C c → freeP C (R (70 + 10 * c)) (R (71 + 10 * c) + 1 + j) ∧ R (71 + 10 * c) + j - R (72 + 10 * c) + 1 < 40 := fun j hj => adv_free hj
    have hle : adv R C c ≤ (R (73 + 10 * c)).toNat := adv_le
    generalize adv R C c = m at hadv hle
    obtain ⟨a0, a1, a2, a3, a4, a5, a6, a7, a8, a9⟩ := on_at (R := R) (c := c) (m := m)
    have hfm : R (71 + 10 * c) + m - R (72 + 10 * c) + 1 ≤ 40 := by
      rcases Nat.eq_zero_or_pos m with z | z
      · omega
      · have := (hadv (m - 1) (by omega)).2
        omega
    have hg : gonF R c m = 0 ∨ gonF R c m = 1 := by unfold gonF; split <;> simp
    have hg2 : gonF R c m = 0 ↔ R (71 + 10 * c) + m - R (72 + 10 * c) + 1 ≤ 39 := by unfold gonF; split <;> omega
    refine ⟨hW.setc hc ?_ (fun k hk => onF_ne hk), hL.move hc (onF_ne (by omega)) (fun k hk => onF_ne hk) hon (fun hz k hk hcv => ?_) (fun k hk => ?_)⟩
    · unfold WFc lasF
      rw [a0, a1, a2, a3, a4, a5, a6, a9]
      omega
    · have hcv0 := hcv
      unfold cov lasF at hcv
      rw [a0, a1, a2] at hcv
      by_cases q : (k : Int) - 40 * R (70 + 10 * c) ≤ R (71 + 10 * c)
      · have hck : cov R c k := by unfold cov lasF; omega
        exact Or.inr (hL.1 c k hc hon hk hck)
      · obtain ⟨j, hj⟩ : ∃ j : Nat, (k : Int) - 40 * R (70 + 10 * c) = R (71 + 10 * c) + 1 + j := ⟨((k : Int) - 40 * R (70 + 10 * c) - R (71 + 10 * c) - 1).toNat, by omega⟩
        have hfr := (hadv j (by omega)).1
        rw [← hj] at hfr
        unfold freeP at hfr
        rw [show (40 * R (70 + 10 * c) + ((k : Int) - 40 * R (70 + 10 * c))).toNat = k by omega] at hfr
        rcases Lay_val hL hk with q | q
        · exact Or.inl q
        · omega
    · rw [a5]
      by_cases q0 : gonF R c m = 0
      · simp only [if_pos q0]
        unfold markF
        by_cases q : cov (onF R c m) c k
        · rw [if_pos q, if_pos ⟨q0, q⟩]
        · rw [if_neg q, if_neg (c := gonF R c m = 0 ∧ cov (onF R c m) c k) (fun z => q z.2)]
      · simp only [if_neg q0]
        unfold markF
        rw [if_neg (c := gonF R c m = 0 ∧ _) (fun z => q0 z.1)]
section MOVES
variable {r : Nat} {h : mH} {Q : mV → mH → Prop} {R C : rw_}
theorem c0_last {c : Nat} (hP : RPc h r R c) (hq : Q (vI (zI (lasF R c))) h) : mC M0_last [.inr (.inr (some (5, r, c)))] h Q := by
  refine w0_last ?_
  rw [hP.2.1, hP.2.2.1, z1, z_sub, z_add]
  exact hq
theorem tk_free (hL : LayOK R C) {L x : Int} (hb : 0 ≤ R 4 ∧ R 4 ≤ 40) (hL1 : L = 0 ∨ L = 1) : tkF C L x = -6 ↔ freeP C L x := by
  unfold tkF freeP
  by_cases q : 0 ≤ x ∧ x ≤ 39
  · rw [if_pos q]
    rcases Lay_val hL (k := (40 * L + x).toNat) (by omega) with z | z <;> omega
  · rw [if_neg q]
    exact ⟨fun _ => Or.inl q, fun _ => rfl⟩
theorem tk_rng (hL : LayOK R C) {L x : Int} (hb : 0 ≤ R 4 ∧ R 4 ≤ 40) (hL1 : L = 0 ∨ L = 1) : -6 ≤ tkF C L x ∧ tkF C L x < 40 := by
  unfold tkF
  by_cases q : 0 ≤ x ∧ x ≤ 39
  · rw [if_pos q]
    rcases Lay_val hL (k := (40 * L + x).toNat) (by omega) with z | z <;> omega
  · rw [if_neg q]; omega
theorem l4_isFreeBeside {c : Nat} (hP : RP h r R C) (hW : WF R) (hL : LayOK R C) (hc : (c : Int) < R 4) : ∀ (n : Nat) (x : Int), x + n = R (71 + 10 * c) + 1 → lasF R c ≤ x → Q (vI (zI (if besF C (1 - R (70 + 10 * c)) x n = true then 1 else 0))) h → mE M4_isFreeBeside 5 [vR 0 r 0, vR 5 r c, vI (zI x)] [] h Q := by
  have gc := RPc.of hP hc
  have w := hW.2.1 c hc
  unfold WFc lasF at w
  intro n
  induction n with
  | zero =>
    intro x hx hl hq
    refine w4_isFreeBeside_5 ?_
    unfold lasF at hl
    rw [gc.2.1]
    simp (disch := omega) only [z_lt]
    refine ⟨fun _ => ?_, fun _ => by omega⟩
    exact hq
  | succ n ih =>
    intro x hx hl hq
    refine w4_isFreeBeside_5 ?_
    unfold lasF at hl
    rw [gc.2.1, gc.1]
    simp (disch := omega) only [z_lt]
    refine ⟨fun _ => by omega, fun _ => ?_⟩
    rw [z1, z_sub]
    refine c4_takerOf (by omega) (by omega) hP.2.2.2 ?_
    have hr := tk_rng hL (L := 1 - R (70 + 10 * c)) (x := x) hW.c (by omega)
    have hf := tk_free hL (L := 1 - R (70 + 10 * c)) (x := x) hW.c (by omega)
    show (zI _ = -6 → mE _ _ [_, _, vI (zI x + 1)] _ _ _) ∧ (¬ zI _ = -6 → Q (vI 0) h)
    rw [zm6, z1, z0, z_add]
    simp (disch := omega) only [z_eq]
    refine ⟨fun q => ih (x + 1) (by omega) (by unfold lasF; omega) ?_, fun q => ?_⟩
    · have hf2 := hf.mp q
      unfold besF at hq
      rw [decide_eq_true hf2] at hq
      simpa using hq
    · have hf2 : ¬ freeP C (1 - R (70 + 10 * c)) x := fun z => q (hf.mpr z)
      unfold besF at hq
      rw [decide_eq_false hf2] at hq
      simpa using hq
theorem c4_isFreeBeside {c : Nat} (hP : RP h r R C) (hW : WF R) (hL : LayOK R C) (hc : (c : Int) < R 4) (hq : Q (vI (zI (if besF C (1 - R (70 + 10 * c)) (lasF R c) (R (72 + 10 * c)).toNat = true then 1 else 0))) h) : mC M4_isFreeBeside [.inr (.inr (some (0, r, 0))), .inr (.inr (some (5, r, c)))] h Q := by
  have w := hW.2.1 c hc
  unfold WFc lasF at w
  refine w4_isFreeBeside (c0_last (RPc.of hP hc) ?_)
  exact l4_isFreeBeside hP hW hL hc _ _ (by unfold lasF; omega) (Int.le_refl _) hq
/-! changeLane -/
/-- cells while a car changes its lane, those below x being done -/
def chC (R C : rw_) (c : Nat) (x : Int) : rw_ := fun k => if 40 * (1 - R (70 + 10 * c)) ≤ k ∧ k < 40 * (1 - R (70 + 10 * c)) + 40 ∧ 40 * (1 - R (70 + 10 * c)) + lasF R c ≤ k ∧ k < 40 * (1 - R (70 + 10 * c)) + x then (c : Int) else if 40 * R (70 + 10 * c) ≤ k ∧ k < 40 * R (70 + 10 * c) + 40 ∧ 40 * R (70 + 10 * c) + lasF R c ≤ k ∧ k < 40 * R (70 + 10 * c) + x then -6 else C k
theorem chC_0 {c k : Nat} : chC R C c (lasF R c) k = C k := by
  unfold chC
  rw [if_neg (by omega), if_neg (by omega)]
theorem chC_s {c k : Nat} {x : Int} (hl : R (70 + 10 * c) = 0 ∨ R (70 + 10 * c) = 1) (hx : lasF R c ≤ x) : upC (upC (chC R C c x) (R (70 + 10 * c)) x (-6)) (1 - R (70 + 10 * c)) x c k = chC R C c (x + 1) k := by
  unfold upC chC
  generalize lasF R c = a at *
  rcases hl with q | q <;> rw [q] <;> (repeat' split) <;> omega
theorem chC_e {c k : Nat} (hl : R (70 + 10 * c) = 0 ∨ R (70 + 10 * c) = 1) : chC R C c (R (71 + 10 * c) + 1) k = markF (chgF R c) (markF R C c (-6)) c c k := by
  obtain ⟨a0, a1, a2, -⟩ := chg_at (R := R) (c := c)
  unfold chC markF cov lasF
  rw [a0, a1, a2]
  rcases hl with q | q <;> rw [q] <;> (repeat' split) <;> omega
theorem l4_changeLane {c : Nat} (hW : WF R) (hc : (c : Int) < R 4) (hq : ∀ h2, RP h2 r (chgF R c) (markF (chgF R c) (markF R C c (-6)) c c) → FrR r h h2 → h2.2 = h.2 → Q vU h2) : ∀ (n : Nat) (x : Int) (g : mH), x + n = R (71 + 10 * c) + 1 → lasF R c ≤ x → RP g r R (chC R C c x) → FrR r h g → g.2 = h.2 → mE M4_changeLane 5 [vR 0 r 0, vR 5 r c, vI (zI x)] [] g Q := by
  have w := hW.2.1 c hc
  unfold WFc lasF at w
  intro n
  induction n with
  | zero =>
    intro x g hx hl hP hF hM
    have gc := RPc.of hP hc
    refine w4_changeLane_5 ?_
    unfold lasF at hl
    rw [gc.2.1]
    simp (disch := omega) only [z_lt]
    refine ⟨fun _ => ?_, fun _ => by omega⟩
    refine hq _ (RP.sett (C := chC R C c x) (hP.setc hW.l.2 (c := c) ?_ (fun k hk => chgF_ne hk) ?_) (fun k hk => ?_) (fun k r2 i s n => rfl)) (hF.tr ((FrR.put (by omega)).tr ((FrR.put (by omega)).tr (FrR.put (by omega))))) hM
    · obtain ⟨a0, a1, a2, a3, a4, a5, a6, a7, a8, a9⟩ := chg_at (R := R) (c := c)
      unfold RPc
      rw [a0, a1, a2, a3, a4, a5, a6, a7, a8, a9]
      obtain ⟨g0, g1, g2, g3, g4, g5, g6, g7, g8, g9⟩ := gc
      rw [g0, g7, z1, z0, z_sub, z_add]
      simp [pI, g1, g2, g3, g4, g5, g8, g9]
    · intro k r2 i s n
      rw [pI_ne (fun z => n ⟨z.1, z.2.2.1, z.2.2.2⟩), pI_ne (fun z => n ⟨z.1, z.2.2.1, z.2.2.2⟩), pI_ne (fun z => n ⟨z.1, z.2.2.1, z.2.2.2⟩)]
    · have e : x = R (71 + 10 * c) + 1 := by omega
      rw [← chC_e w.1, ← e]
      exact hP.2.2.2 k hk
  | succ n ih =>
    intro x g hx hl hP hF hM
    have gc := RPc.of hP hc
    refine w4_changeLane_5 ?_
    have hl2 := hl
    unfold lasF at hl
    rw [gc.2.1, gc.1]
    simp (disch := omega) only [z_lt]
    refine ⟨fun _ => by omega, fun _ => ?_⟩
    rw [zm6]
    refine c4_take (by omega) (by omega) hP.2.2.2 (fun h2 hC2 hF2 hM2 => ?_)
    show mC _ [_, .inl (1 - h2.1 5 r c 1), _, .inl (nI c)] _ _
    have hP2 : RP h2 r R (upC (chC R C c x) (R (70 + 10 * c)) x (-6)) := hP.sett hC2 hF2
    rw [(RPc.of hP2 hc).1, z1, z_sub, z_nI]
    refine c4_take (by omega) (by omega) hC2 (fun h3 hC3 hF3 hM3 => ?_)
    show mE _ _ [_, _, vI (zI x + 1)] _ _ _
    rw [z1, z_add]
    refine ih (x + 1) h3 (by omega) (by omega) (RP.sett hP2 (fun k hk => ?_) hF3) ?_ (hM3.trans (hM2.trans hM))
    · rw [hC3 k hk, chC_s w.1 hl2]
    · intro k r2 i s n
      rw [hF3 k r2 i s (by omega), hF2 k r2 i s (by omega)]
      exact hF k r2 i s n
theorem c4_changeLane {c : Nat} (hP : RP h r R C) (hW : WF R) (hc : (c : Int) < R 4) (hq : ∀ h2, RP h2 r (chgF R c) (markF (chgF R c) (markF R C c (-6)) c c) → FrR r h h2 → h2.2 = h.2 → Q vU h2) : mC M4_changeLane [.inr (.inr (some (0, r, 0))), .inr (.inr (some (5, r, c)))] h Q := by
  have w := hW.2.1 c hc
  unfold WFc lasF at w
  refine w4_changeLane (c0_last (RPc.of hP hc) ?_)
  exact l4_changeLane hW hc hq (R (72 + 10 * c)).toNat (lasF R c) h (by unfold lasF; omega) (Int.le_refl _) (hP.sett (fun k hk => by rw [chC_0]; exact hP.2.2.2 k hk) (fun _ _ _ _ _ => rfl)) FrR.rf rfl
end MOVES
