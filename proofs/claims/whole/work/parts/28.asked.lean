/-! what there is: the answers that change nothing, on both sides -/
def ocF (R : rw_) (a w : Int) : Int := if 0 ≤ a ∧ a < R 4 then (if w = 9 then ((ovF R a.toNat (R 3).toNat : Nat) : Int) else if 0 ≤ w ∧ w ≤ 8 then R (70 + 10 * a.toNat + w.toNat) else -2) else -1
def olF (R C : rw_) (a w : Int) : Int := if 0 ≤ a ∧ a < R 3 then (if w = 8 then strF R C a.toNat else if 0 ≤ w ∧ w ≤ 9 then R (10 + 10 * a.toNat + w.toNat) else -2) else -1
def erF (R : rw_) (a : Int) : Int := if 0 ≤ a ∧ a < R 3 then 1000 + (R (16 + 10 * a.toNat) - R (17 + 10 * a.toNat)) else -1
def cxF (C : rw_) (a b : Int) : Int := if (0 ≤ a ∧ a ≤ 1) ∧ (0 ≤ b ∧ b ≤ 39) then C (40 * a + b).toNat else -1
def inF (R : rw_) (a b : Int) : Int := if (0 ≤ a ∧ a < R 3) ∧ (0 ≤ b ∧ b < R 3) then 1000 + R (16 + 10 * a.toNat) - R (16 + 10 * b.toNat) else -1
def coF (R : rw_) (n u w : Int) : Int := if w = 0 then R 2 else if w = 1 then R 3 else if w = 2 then R 4 else if w = 3 then R 4 - gnF R (R 4).toNat else if w = 4 then gnF R (R 4).toNat else if w = 5 then lstF R else if w = 6 then smF R 16 (R 3).toNat else if w = 7 then smF R 17 (R 3).toNat else if w = 8 then n else if w = 9 then u else if w = 10 then R 0 else if w = 11 then R 1 else -2
theorem z10b : (10 : Int32) = zI 10 ∧ (11 : Int32) = zI 11 := by decide
section ASKC
variable {r : Nat} {h : mH} {Q : mV → mH → Prop} {R C : rw_}
theorem c0_about {c : Nat} {w : Int} (hw : i32 w) (gc : RPc h r R c) (wc : WFc R c) (hq : Q (vI (zI (if 0 ≤ w ∧ w ≤ 8 then R (70 + 10 * c + w.toNat) else -2))) h) : mC M0_about [.inr (.inr (some (5, r, c))), .inl (zI w)] h Q := by
  refine w0_about ?_
  unfold RPc at gc
  unfold WFc at wc
  obtain ⟨g1, g2, g3, g4, g5, g6, g7, g8, g9, g10⟩ := gc
  rw [g1, g2, g3, g4, g5, g6, g7, g8, g9, zm2, z0, z1, zc.1, zc.2.1, zc.2.2.1, zc.2.2.2.1, zc.2.2.2.2.1, zc.2.2.2.2.2.1, zc.2.2.2.2.2.2.1]
  simp (disch := omega) only [z_eq]
  have key : ∀ n : Nat, n ≤ 8 → w = n → ∀ x, R (70 + 10 * c + n) = x → Q (vI (zI x)) h := fun n hn e x ex => by
    rw [if_pos (by omega), e, Int.toNat_natCast, ex] at hq
    exact hq
  have k2 : ∀ n : Nat, n ≤ 8 → w = n → ∀ k, k = 70 + 10 * c + n → Q (vI (zI (R k))) h := fun n hn e k ek => key n hn e _ (by rw [ek])
  refine ⟨fun q => k2 0 (by omega) q _ (by omega), fun q => k2 1 (by omega) q _ (by omega), fun q => k2 2 (by omega) q _ (by omega), fun q => k2 3 (by omega) q _ (by omega), fun q => k2 4 (by omega) q _ (by omega), fun q => ⟨fun q2 => ?_, fun q2 => ?_⟩, fun q => ⟨fun q2 => ?_, fun q2 => ?_⟩, fun q => k2 7 (by omega) q _ (by omega), fun q => k2 8 (by omega) q _ (by omega), fun _ _ _ _ _ _ _ _ _ => ?_⟩
  · exact key 5 (by omega) q _ (by rw [show 70 + 10 * c + 5 = 75 + 10 * c by omega]; exact q2)
  · exact key 5 (by omega) q _ (by rw [show 70 + 10 * c + 5 = 75 + 10 * c by omega]; omega)
  · exact key 6 (by omega) q _ (by rw [show 70 + 10 * c + 6 = 76 + 10 * c by omega]; exact q2)
  · exact key 6 (by omega) q _ (by rw [show 70 + 10 * c + 6 = 76 + 10 * c by omega]; omega)
  · rw [if_neg (by omega)] at hq
    exact hq
theorem c2_aboutW {l : Nat} {w : Int} (hw : i32 w) (h8 : w ≠ 8) (gl : RPl h r R l) (wl : WFl R l) (hq : Q (vI (zI (if 0 ≤ w ∧ w ≤ 9 then R (10 + 10 * l + w.toNat) else -2))) h) : mC M2_about [.inr (.inr (some (6, r, l))), .inl (zI w)] h Q := by
  refine w2_about ?_
  unfold RPl at gl
  unfold WFl at wl
  obtain ⟨g1, g2, g3, g4, g5, g6, g7, g8, g9⟩ := gl
  rw [g1, g2, g3, g4, g5, g6, g7, g8, g9, zm2, z0, z1, zc.1, zc.2.1, zc.2.2.1, zc.2.2.2.1, zc.2.2.2.2.1, zc.2.2.2.2.2.1, zc.2.2.2.2.2.2.1, zc.2.2.2.2.2.2.2.1]
  simp (disch := omega) only [z_eq]
  have key : ∀ n : Nat, n ≤ 9 → w = n → ∀ x, R (10 + 10 * l + n) = x → Q (vI (zI x)) h := fun n hn e x ex => by
    rw [if_pos (by omega), e, Int.toNat_natCast, ex] at hq
    exact hq
  have k2 : ∀ n : Nat, n ≤ 9 → w = n → ∀ k, k = 10 + 10 * l + n → Q (vI (zI (R k))) h := fun n hn e k ek => key n hn e _ (by rw [ek])
  refine ⟨fun q => k2 0 (by omega) q _ (by omega), fun q => k2 1 (by omega) q _ (by omega), fun q => k2 2 (by omega) q _ (by omega), fun q => k2 3 (by omega) q _ (by omega), fun q => k2 4 (by omega) q _ (by omega), fun q => ⟨fun q2 => ?_, fun q2 => ?_⟩, fun q => k2 6 (by omega) q _ (by omega), fun q => k2 7 (by omega) q _ (by omega), fun q => by omega, fun q => k2 9 (by omega) q _ (by omega), fun _ _ _ _ _ _ _ _ _ _ => ?_⟩
  · exact key 5 (by omega) q _ (by rw [show 10 + 10 * l + 5 = 15 + 10 * l by omega]; exact q2)
  · exact key 5 (by omega) q _ (by rw [show 10 + 10 * l + 5 = 15 + 10 * l by omega]; omega)
  · rw [if_neg (by omega)] at hq
    exact hq
theorem c6_ofCar {a w : Int} (ha : i32 a) (hw : i32 w) (hP : RP h 0 R C) (hW : WF R) (hq : Q (vI (zI (ocF R a w))) h) : mC M6_ofCar [.inr (.inr (some (7, 0, 0))), .inl (zI a), .inl (zI w)] h Q := by
  have hb := hW.c
  refine w6_ofCar ?_
  unfold ocF at hq
  by_cases q : 0 ≤ a ∧ a < R 4
  · rw [if_pos q] at hq
    obtain ⟨c, rfl⟩ : ∃ c : Nat, a = c := ⟨a.toNat, by omega⟩
    rw [Int.toNat_natCast] at hq
    have hc : (c : Int) < R 4 := q.2
    refine c4_carN hP.c4 hc hb.2 ?_
    show (¬ zI w = 9 → mC _ _ h _) ∧ (zI w = 9 → mC _ _ h _)
    rw [zc.2.2.2.2.2.2.2.1, z_eq (by omega) (by omega)]
    refine ⟨fun q2 => c0_about hw (RPc.of hP hc) (hW.2.1 c hc) ?_, fun q2 => c4_loopsUnder hP hW hc ?_⟩
    · rw [if_neg q2] at hq; exact hq
    · rw [if_pos q2] at hq; exact hq
  · rw [if_neg q] at hq
    refine c4_carNo hP.c4 ha (by omega) hb ?_
    show Q (vI (-1)) h
    rw [zm1]; exact hq
theorem c6_ofLoop {a w : Int} (ha : i32 a) (hw : i32 w) (hP : RP h 0 R C) (hW : WF R) (hL : LayOK R C) (hq : Q (vI (zI (olF R C a w))) h) : mC M6_ofLoop [.inr (.inr (some (7, 0, 0))), .inl (zI a), .inl (zI w)] h Q := by
  have hb := hW.l
  refine w6_ofLoop ?_
  unfold olF at hq
  by_cases q : 0 ≤ a ∧ a < R 3
  · rw [if_pos q] at hq
    obtain ⟨c, rfl⟩ : ∃ c : Nat, a = c := ⟨a.toNat, by omega⟩
    rw [Int.toNat_natCast] at hq
    have hc : (c : Int) < R 3 := q.2
    refine c4_loopN hP.l3 hc hb.2 ?_
    show (¬ zI w = 8 → mC _ _ h _) ∧ (zI w = 8 → mC _ _ h _)
    rw [zc.2.2.2.2.2.2.1, z_eq (by omega) (by omega)]
    refine ⟨fun q2 => c2_aboutW hw q2 (RPl.of hP hc) (hW.2.2.1 c hc) ?_, fun q2 => c4_strengthOf hP hW hL hc ?_⟩
    · rw [if_neg q2] at hq; exact hq
    · rw [if_pos q2] at hq; exact hq
  · rw [if_neg q] at hq
    refine c4_loopNo hP.l3 ha (by omega) hb ?_
    show Q (vI (-1)) h
    rw [zm1]; exact hq
theorem c6_error {a : Int} (ha : i32 a) (hP : RP h 0 R C) (hW : WF R) (hq : Q (vI (zI (erF R a))) h) : mC M6_error [.inr (.inr (some (7, 0, 0))), .inl (zI a)] h Q := by
  have hb := hW.l
  refine w6_error ?_
  unfold erF at hq
  by_cases q : 0 ≤ a ∧ a < R 3
  · rw [if_pos q] at hq
    obtain ⟨c, rfl⟩ : ∃ c : Nat, a = c := ⟨a.toNat, by omega⟩
    rw [Int.toNat_natCast] at hq
    have hc : (c : Int) < R 3 := q.2
    have g := RPl.of hP hc
    unfold RPl at g
    refine c4_loopN hP.l3 hc hb.2 (w2_falselyCounted ?_)
    show Q (vI (1000 + (h.1 6 0 c 6 - h.1 6 0 c 7))) h
    rw [g.2.2.2.2.2.2.1, g.2.2.2.2.2.2.2.1, zc.2.2.2.2.2.2.2.2.2.2.2, z_sub, z_add]
    exact hq
  · rw [if_neg q] at hq
    refine c4_loopNo hP.l3 ha (by omega) hb ?_
    show Q (vI (-1)) h
    rw [zm1]; exact hq
theorem c6_carAt {a b : Int} (ha : i32 a) (hb : i32 b) (hP : RP h 0 R C) (hq : Q (vI (zI (cxF C a b))) h) : mC M6_carAt [.inr (.inr (some (7, 0, 0))), .inl (zI a), .inl (zI b)] h Q := by
  refine w6_carAt ?_
  unfold cxF at hq
  rw [zm1, z0, z1]
  refine c6_isWithin ha (by omega) (by omega) ?_
  show (zI _ = zI 0 → Q (vI (zI (-1))) h) ∧ (¬ zI _ = zI 0 → mC _ _ h _)
  rw [zb_ne0]
  refine ⟨fun q => ?_, fun q => ?_⟩
  · rw [if_neg (by omega)] at hq; exact hq
  · rw [zc.2.2.2.2.2.2.2.2.2.2.1]
    refine c6_isWithin hb (by omega) (by omega) ?_
    show (¬ zI _ = zI 0 → mC _ _ h _) ∧ (zI _ = zI 0 → Q (vI (zI (-1))) h)
    rw [zb_ne0]
    refine ⟨fun q2 => c4_takerOf (by omega) (by omega) hP.2.2.2 ?_, fun q2 => ?_⟩
    · rw [if_pos (by omega)] at hq
      unfold tkF
      rw [if_pos (by omega)]
      exact hq
    · rw [if_neg (by omega)] at hq; exact hq
theorem c6_inside {a b : Int} (ha : i32 a) (hb1 : i32 b) (hP : RP h 0 R C) (hW : WF R) (hq : Q (vI (zI (inF R a b))) h) : mC M6_inside [.inr (.inr (some (7, 0, 0))), .inl (zI a), .inl (zI b)] h Q := by
  have hb := hW.l
  refine w6_inside ?_
  unfold inF at hq
  by_cases q : 0 ≤ a ∧ a < R 3
  · obtain ⟨c, rfl⟩ : ∃ c : Nat, a = c := ⟨a.toNat, by omega⟩
    refine c4_loopN hP.l3 q.2 hb.2 ?_
    show mC _ _ h _
    by_cases q2 : 0 ≤ b ∧ b < R 3
    · obtain ⟨d, rfl⟩ : ∃ d : Nat, b = d := ⟨b.toNat, by omega⟩
      refine c4_loopN hP.l3 q2.2 hb.2 ?_
      have g := RPl.of hP q.2
      have g2 := RPl.of hP q2.2
      unfold RPl at g g2
      show Q (vI (1000 + h.1 6 0 c 6 - h.1 6 0 d 6)) h
      rw [g.2.2.2.2.2.2.1, g2.2.2.2.2.2.2.1, zc.2.2.2.2.2.2.2.2.2.2.2, z_add, z_sub]
      rw [if_pos ⟨q, q2⟩] at hq
      exact hq
    · rw [if_neg (fun z => q2 z.2)] at hq
      refine c4_loopNo hP.l3 hb1 (by omega) hb ?_
      show Q (vI (-1)) h
      rw [zm1]; exact hq
  · rw [if_neg (fun z => q z.1)] at hq
    refine c4_loopNo hP.l3 ha (by omega) hb ?_
    show mC _ _ h _
    by_cases q2 : 0 ≤ b ∧ b < R 3
    · obtain ⟨d, rfl⟩ : ∃ d : Nat, b = d := ⟨b.toNat, by omega⟩
      refine c4_loopN hP.l3 q2.2 hb.2 ?_
      show Q (vI (-1)) h
      rw [zm1]; exact hq
    · refine c4_loopNo hP.l3 hb1 (by omega) hb ?_
      show Q (vI (-1)) h
      rw [zm1]; exact hq
theorem c6_count {n u w : Int} (hw : i32 w) (hP : RP h 0 R C) (hW : WF R) (hn : h.1 9 0 0 1 = zI n) (hu : h.1 11 0 0 2 = zI u) (hq : Q (vI (zI (coF R n u w))) h) : mC M6_count [.inr (.inr (some (7, 0, 0))), .inl (zI w)] h Q := by
  have hb := hW.l
  obtain ⟨s1, s2, s3, s4, s5⟩ := hP.1
  refine w6_count ?_
  rw [hn, hu, s1, s2, s3, s4, s5, zm2, z0, z1, zc.1, zc.2.1, zc.2.2.1, zc.2.2.2.1, zc.2.2.2.2.1, zc.2.2.2.2.2.1, zc.2.2.2.2.2.2.1, zc.2.2.2.2.2.2.2.1, z10b.1, z10b.2]
  simp (disch := omega) only [z_eq]
  refine ⟨fun q => ?_, fun q => ?_, fun q => ?_, fun q => c4_carsGone hP hW ?_, fun q => c4_carsGone hP hW ?_, fun q => c4_listener hP.1 hW ?_, fun q => c4_sumOfLoops (j := 6) (Or.inl rfl) hP hW ?_, fun q => c4_sumOfLoops (j := 7) (Or.inr rfl) hP hW ?_, fun q => ?_, fun q => ?_, fun q => ?_, fun q => ?_, fun q1 q2 q3 q4 q5 q6 q7 q8 q9 q10 q11 q12 => ?_⟩
  · subst q; exact hq
  · subst q; exact hq
  · subst q; exact hq
  · subst q
    show Q (vI (zI (R 4) - zI _)) h
    rw [z_sub]; exact hq
  · subst q; exact hq
  · subst q; exact hq
  · subst q; exact hq
  · subst q; exact hq
  · subst q; exact hq
  · subst q; exact hq
  · subst q; exact hq
  · subst q; exact hq
  · unfold coF at hq
    rw [if_neg q1, if_neg q2, if_neg q3, if_neg q4, if_neg q5, if_neg q6, if_neg q7, if_neg q8, if_neg q9, if_neg q10, if_neg q11, if_neg q12] at hq
    exact hq
end ASKC
section ASKR
variable {h : mH} {Q : mV → mH → Prop} {R C C0 : rw_} {S : Nat → rw_}
theorem c7_ofCar {a w : Int} (ha : i32 a) (hw : i32 w) (hM : MR h S R C) (hW : WF R) (hq : Q (vI (zI (ocF R a w))) h) : mC M7_ofCar [.inr (.inr (some (20, 0, 0))), .inl (zI a), .inl (zI w)] h Q := by
  have hb := hW.c
  refine w7_ofCar (c7_isCar rfl ha hM hW ?_)
  unfold ocF at hq
  show (¬ zI _ = 0 → (¬ zI w = 9 → mC _ [_, .inl 0, .inl 8] h _) ∧ (zI w = 9 → mC _ _ h _)) ∧ (zI _ = 0 → Q (vI (-1)) h)
  rw [zb_ne, zm1, z0, zc.2.2.2.2.2.2.1, zc.2.2.2.2.2.2.2.1, z_eq (by omega) (by omega)]
  refine ⟨fun q => ?_, fun q => ?_⟩
  · have q := Decidable.not_not.mp q
    rw [if_pos q] at hq
    obtain ⟨c, rfl⟩ : ∃ c : Nat, a = c := ⟨a.toNat, by omega⟩
    rw [Int.toNat_natCast] at hq
    refine ⟨fun q2 => ?_, fun q2 => c7_overBy rfl hM hW q.2 ?_⟩
    · rw [if_neg q2] at hq
      refine c7_in hw (by omega) (by omega) ?_
      show (zI _ = 0 → Q (vI (-2)) h) ∧ (¬ zI _ = 0 → mC _ _ h _)
      rw [zb_ne, zm2]
      refine ⟨fun q3 => ?_, fun q3 => ?_⟩
      · rw [if_neg q3] at hq; exact hq
      · have q3 := Decidable.not_not.mp q3
        rw [if_pos q3] at hq
        obtain ⟨j, rfl⟩ : ∃ j : Nat, w = j := ⟨w.toNat, by omega⟩
        exact c7_ofC (c := c) (j := j) rfl rfl hM rfl (by omega) hq
    · rw [if_pos q2] at hq; exact hq
  · rw [if_neg q] at hq; exact hq
theorem c7_ofLoop {a w : Int} (ha : i32 a) (hw : i32 w) (hM : MR h S R C) (hW : WF R) (hL : LayOK R C0) (hq : ∀ h2 C2, MR h2 S R C2 → FrK h h2 → Q (vI (zI (olF R C0 a w))) h2) : mC M7_ofLoop [.inr (.inr (some (20, 0, 0))), .inl (zI a), .inl (zI w)] h Q := by
  have hb := hW.l
  refine w7_ofLoop (c7_isLoop rfl ha hM hW ?_)
  unfold olF at hq
  show (¬ zI _ = 0 → (¬ zI w = 8 → mC _ [_, .inl 0, .inl 9] h _) ∧ (zI w = 8 → mC _ _ h _)) ∧ (zI _ = 0 → Q (vI (-1)) h)
  rw [zb_ne, zm1, z0, zc.2.2.2.2.2.2.1, zc.2.2.2.2.2.2.2.1, z_eq (by omega) (by omega)]
  refine ⟨fun q => ?_, fun q => ?_⟩
  · have q := Decidable.not_not.mp q
    rw [if_pos q] at hq
    obtain ⟨c, rfl⟩ : ∃ c : Nat, a = c := ⟨a.toNat, by omega⟩
    rw [Int.toNat_natCast] at hq
    refine ⟨fun q2 => ?_, fun q2 => c7_layCells hM hW hL (fun h2 hM2 hF2 => c7_strength rfl hM2 hW hL q.2 ?_)⟩
    · rw [if_neg q2] at hq
      refine c7_in hw (by omega) (by omega) ?_
      show (zI _ = 0 → Q (vI (-2)) h) ∧ (¬ zI _ = 0 → mC _ _ h _)
      rw [zb_ne, zm2]
      refine ⟨fun q3 => ?_, fun q3 => ?_⟩
      · rw [if_neg q3] at hq; exact hq h C hM FrK.rf
      · have q3 := Decidable.not_not.mp q3
        rw [if_pos q3] at hq
        obtain ⟨j, rfl⟩ : ∃ j : Nat, w = j := ⟨w.toNat, by omega⟩
        exact c7_ofL (c := c) (j := j) rfl rfl hM rfl (by omega) (hq h C hM FrK.rf)
    · rw [if_pos q2] at hq; exact hq h2 C0 hM2 hF2.K
  · rw [if_neg q] at hq; exact hq h C hM FrK.rf
theorem c7_errorOf {a1 : Int32} {c : Nat} (e1 : a1 = zI c) (hM : MR h S R C) (hc : c < 6) (hq : Q (vI (zI (R (16 + 10 * c) - R (17 + 10 * c)))) h) : mC M7_errorOf [.inr (.inr (some (20, 0, 0))), .inl a1] h Q := by
  refine w7_errorOf (c7_ofL (j := 6) (k := 16 + 10 * c) e1 (by decide) hM (by omega) (by omega) ?_)
  refine c7_ofL (j := 7) (k := 17 + 10 * c) e1 (by decide) hM (by omega) (by omega) ?_
  show Q (vI (zI _ - zI _)) h
  rw [z_sub]; exact hq
theorem c7_error {a : Int} (ha : i32 a) (hM : MR h S R C) (hW : WF R) (hq : Q (vI (zI (erF R a))) h) : mC M7_error [.inr (.inr (some (20, 0, 0))), .inl (zI a)] h Q := by
  have hb := hW.l
  refine w7_error (c7_isLoop rfl ha hM hW ?_)
  unfold erF at hq
  show (zI _ = 0 → Q (vI (-1)) h) ∧ (¬ zI _ = 0 → mC _ _ h _)
  rw [zb_ne, zm1]
  refine ⟨fun q => ?_, fun q => ?_⟩
  · rw [if_neg q] at hq; exact hq
  · have q := Decidable.not_not.mp q
    rw [if_pos q] at hq
    obtain ⟨c, rfl⟩ : ∃ c : Nat, a = c := ⟨a.toNat, by omega⟩
    rw [Int.toNat_natCast] at hq
    refine c7_errorOf rfl hM (by omega) ?_
    show Q (vI (1000 + zI _)) h
    rw [zc.2.2.2.2.2.2.2.2.2.2.2, z_add]
    exact hq
theorem c7_carAt {a b : Int} (ha : i32 a) (hb : i32 b) (hM : MR h S R C) (hW : WF R) (hL : LayOK R C0) (hq : ∀ h2 C2, MR h2 S R C2 → FrK h h2 → Q (vI (zI (cxF C0 a b))) h2) : mC M7_carAt [.inr (.inr (some (20, 0, 0))), .inl (zI a), .inl (zI b)] h Q := by
  refine w7_carAt ?_
  unfold cxF at hq
  rw [zm1, z0, z1]
  refine c7_in ha (by omega) (by omega) ?_
  show (zI _ = zI 0 → Q (vI (zI (-1))) h) ∧ (¬ zI _ = zI 0 → mC _ _ h _)
  rw [zb_ne0]
  refine ⟨fun q => ?_, fun q => ?_⟩
  · rw [if_neg (by omega)] at hq; exact hq h C hM FrK.rf
  · rw [zc.2.2.2.2.2.2.2.2.2.2.1]
    refine c7_in hb (by omega) (by omega) ?_
    show (¬ zI _ = zI 0 → mC _ _ h (kV (fun h654 => vp_in ((40 * zI a) + zI b) 80 ∧ (Q (vI (h654.1 27 0 0 (((40 * zI a) + zI b).toNatClampNeg))) h654)))) ∧ (zI _ = zI 0 → Q (vI (zI (-1))) h)
    rw [zb_ne0]
    refine ⟨fun q2 => c7_layCells hM hW hL (fun h2 hM2 hF2 => ?_), fun q2 => ?_⟩
    · rw [if_pos (by omega)] at hq
      show vp_in ((40 * zI a) + zI b) 80 ∧ (Q (vI (h2.1 27 0 0 (((40 * zI a) + zI b).toNatClampNeg))) h2)
      rw [z40, z_mul, z_add, z_clamp (by omega) (by omega), hM2.2.1 _ (by omega)]
      exact ⟨z_in (by omega) (by omega) (by omega), hq h2 C0 hM2 hF2.K⟩
    · rw [if_neg (by omega)] at hq; exact hq h C hM FrK.rf
theorem l7_gone (hM : MR h S R C) (hW : WF R) (hq : Q (vI (zI (gnF R (R 4).toNat))) h) : ∀ n c : Nat, c + n = (R 4).toNat → mE M7_gone 4 [vR 20 0 0, vI (zI (gnF R c)), vI (zI c)] [] h Q := by
  have hb := hW.c
  intro n
  induction n with
  | zero =>
    intro c hc
    refine w7_gone_4 ⟨vin 4 470 (by omega) (by omega) (by decide), ?_⟩
    rw [mr4 hM, z_le (by omega) (by omega)]
    refine ⟨fun _ => ?_, fun _ => by omega⟩
    rw [Nat.add_zero] at hc
    rw [hc]; exact hq
  | succ n ih =>
    intro c hc
    refine w7_gone_4 ⟨vin 4 470 (by omega) (by omega) (by decide), ?_⟩
    rw [mr4 hM, z_le (by omega) (by omega)]
    refine ⟨fun _ => by omega, fun _ => ?_⟩
    refine c7_ofC (c := c) (j := 5) (k := 75 + 10 * c) rfl (by decide) hM (by omega) (by omega) ?_
    have e := ih (c + 1) (by omega)
    rw [gnF, show ((c + 1 : Nat) : Int) = (c : Int) + 1 by omega, ← z_add, ← z_add, ← z1] at e
    exact e
theorem c7_gone (hM : MR h S R C) (hW : WF R) (hq : Q (vI (zI (gnF R (R 4).toNat))) h) : mC M7_gone [.inr (.inr (some (20, 0, 0)))] h Q := w7_gone (l7_gone hM hW hq _ 0 (Nat.zero_add _))
theorem l7_sum {j : Nat} (hj : j = 6 ∨ j = 7) (hM : MR h S R C) (hW : WF R) (hq : Q (vI (zI (smF R (10 + j) (R 3).toNat))) h) : ∀ n c : Nat, c + n = (R 3).toNat → mE M7_sum 4 [vR 20 0 0, vI (zI j), vI (zI (smF R (10 + j) c)), vI (zI c)] [] h Q := by
  have hb := hW.l
  intro n
  induction n with
  | zero =>
    intro c hc
    refine w7_sum_4 ⟨vin 3 470 (by omega) (by omega) (by decide), ?_⟩
    rw [mr3 hM, z_le (by omega) (by omega)]
    refine ⟨fun _ => ?_, fun _ => by omega⟩
    rw [Nat.add_zero] at hc
    rw [hc]; exact hq
  | succ n ih =>
    intro c hc
    refine w7_sum_4 ⟨vin 3 470 (by omega) (by omega) (by decide), ?_⟩
    rw [mr3 hM, z_le (by omega) (by omega)]
    refine ⟨fun _ => by omega, fun _ => ?_⟩
    refine c7_ofL (c := c) (j := j) (k := 10 + j + 10 * c) rfl rfl hM (by omega) (by omega) ?_
    have e := ih (c + 1) (by omega)
    rw [smF, show ((c + 1 : Nat) : Int) = (c : Int) + 1 by omega, ← z_add, ← z_add, ← z1] at e
    exact e
theorem c7_sum {j : Nat} (hj : j = 6 ∨ j = 7) (hM : MR h S R C) (hW : WF R) (hq : Q (vI (zI (smF R (10 + j) (R 3).toNat))) h) : mC M7_sum [.inr (.inr (some (20, 0, 0))), .inl (zI j)] h Q := w7_sum (l7_sum hj hM hW hq _ 0 (Nat.zero_add _))
theorem c7_inside {a b : Int} (ha : i32 a) (hb1 : i32 b) (hM : MR h S R C) (hW : WF R) (hq : Q (vI (zI (inF R a b))) h) : mC M7_inside [.inr (.inr (some (20, 0, 0))), .inl (zI a), .inl (zI b)] h Q := by
  have hb := hW.l
  refine w7_inside (c7_isLoop rfl ha hM hW ?_)
  unfold inF at hq
  show (zI _ = 0 → Q (vI (-1)) h) ∧ (¬ zI _ = 0 → mC _ _ h _)
  rw [zb_ne, zm1]
  refine ⟨fun q => ?_, fun q => ?_⟩
  · rw [if_neg (fun z => q z.1)] at hq; exact hq
  · have q := Decidable.not_not.mp q
    refine c7_isLoop rfl hb1 hM hW ?_
    show (zI _ = 0 → Q (vI (-1)) h) ∧ (¬ zI _ = 0 → mC _ _ h _)
    rw [zb_ne, zm1]
    refine ⟨fun q2 => ?_, fun q2 => ?_⟩
    · rw [if_neg (fun z => q2 z.2)] at hq; exact hq
    · have q2 := Decidable.not_not.mp q2
      rw [if_pos ⟨q, q2⟩] at hq
      obtain ⟨c, rfl⟩ : ∃ c : Nat, a = c := ⟨a.toNat, by omega⟩
      obtain ⟨d, rfl⟩ : ∃ d : Nat, b = d := ⟨b.toNat, by omega⟩
      refine c7_ofL (c := c) (j := 6) (k := 16 + 10 * c) rfl (by decide) hM (by omega) (by omega) ?_
      refine c7_ofL (c := d) (j := 6) (k := 16 + 10 * d) rfl (by decide) hM (by omega) (by omega) ?_
      show Q (vI (1000 + zI _ - zI _)) h
      rw [zc.2.2.2.2.2.2.2.2.2.2.2, z_add, z_sub]
      exact hq
theorem c7_count {w : Int} (hw : i32 w) (hM : MR h S R C) (hW : WF R) (hq : Q (vI (zI (coF R (S 20 7) (S 20 3) w))) h) : mC M7_count [.inr (.inr (some (20, 0, 0))), .inl (zI w)] h Q := by
  have hb := hW.l
  refine w7_count ?_
  rw [hM.i 7 (by omega), hM.i 3 (by omega)]
  rw [zm2, z0, z1, zc.1, zc.2.1, zc.2.2.1, zc.2.2.2.1, zc.2.2.2.2.1, zc.2.2.2.2.2.1, zc.2.2.2.2.2.2.1, zc.2.2.2.2.2.2.2.1, z10b.1, z10b.2]
  simp (disch := omega) only [z_eq]
  have kn : ∀ n : Nat, n < 470 → h.1 21 0 0 ((zI n).toNatClampNeg) = zI (R n) := fun n hn => by
    rw [z_clamp (by omega) (by omega), Int.toNat_natCast]; exact hM.1 n hn
  refine ⟨fun q => ⟨?_, ?_⟩, fun q => ⟨?_, ?_⟩, fun q => ⟨?_, ?_⟩, fun q => ⟨?_, c7_gone hM hW ?_⟩, fun q => c7_gone hM hW ?_, fun q => c7_listener hM hW ?_, fun q => ?_, fun q => ?_, fun q => ?_, fun q => ?_, fun q1 q2 q3 q4 q5 q6 q7 q8 q9 q10 => ?_⟩
  · subst q; exact vin 2 470 (by omega) (by decide) (by decide)
  · subst q; exact (kn 2 (by omega)) ▸ hq
  · subst q; exact vin 3 470 (by omega) (by decide) (by decide)
  · subst q; exact (kn 3 (by omega)) ▸ hq
  · subst q; exact vin 4 470 (by omega) (by decide) (by decide)
  · subst q; exact (kn 4 (by omega)) ▸ hq
  · exact vin 4 470 (by omega) (by decide) (by decide)
  · subst q
    show Q (vI (h.1 21 0 0 ((zI 4).toNatClampNeg) - zI _)) h
    rw [show h.1 21 0 0 ((zI 4).toNatClampNeg) = zI (R 4) from kn 4 (by omega), z_sub]; exact hq
  · subst q; exact hq
  · subst q; exact hq
  · subst q; exact c7_sum (j := 6) (Or.inl rfl) hM hW hq
  · subst q; exact c7_sum (j := 7) (Or.inr rfl) hM hW hq
  · subst q; exact hq
  · subst q; exact hq
  · unfold coF at hq
    rw [if_neg q1, if_neg q2, if_neg q3, if_neg q4, if_neg q5, if_neg q6, if_neg q7, if_neg q8, if_neg q9, if_neg q10] at hq
    refine c7_in hw (by omega) (by omega) ?_
    show (zI _ = zI 0 → Q (vI (zI (-2))) h) ∧ (¬ zI _ = zI 0 → vp_in (zI w - zI 10) 470 ∧ (Q (vI (h.1 21 0 0 ((zI w - zI 10).toNatClampNeg))) h))
    rw [zb_ne0, z_sub]
    refine ⟨fun q11 => ?_, fun q11 => ⟨z_in (by omega) (by omega) (by omega), ?_⟩⟩
    · rw [if_neg (by omega), if_neg (by omega)] at hq; exact hq
    · rw [z_clamp (by omega) (by omega), hM.1 _ (by omega)]
      by_cases q12 : w = 10
      · rw [if_pos q12] at hq; rw [q12]; exact hq
      · rw [if_neg q12, if_pos (by omega)] at hq; rw [show w = 11 by omega]; exact hq
end ASKR
