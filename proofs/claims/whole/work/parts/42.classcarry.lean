/-! the class: carryOut -/
section CARRY
variable {h : mH} {Q : mV → mH → Prop} {R C R2 C2 : rw_} {u k n : Nat} {H W : HsT} {V P : rw_}
theorem nu_eq {P : rw_} {n p : Nat} (hk : sgF P n p ≠ 99) (he : enF P n p = n ∨ sgF P n (enF P n p) = 59) : (if 0 ≤ dgF P n (p + 1 + 1) ∧ dgF P n (p + 1 + 1) ≤ 9 then dgF P n (p + 1) * 10 + dgF P n (p + 1 + 1) else dgF P n (p + 1)) = nuE P n p := by
  have e12 : p + 1 + 1 = p + 2 := by omega
  have e2 : dgF P n (p + 2) = sgF P n (p + 2) - 48 := rfl
  rw [e12]
  unfold nuE
  by_cases q : 0 ≤ dgF P n (p + 2) ∧ dgF P n (p + 2) ≤ 9
  · rw [if_pos q]
    by_cases q2 : dgF P n (p + 1) = 0
    · have en : enF P n p = p + 2 := by unfold enF; rw [if_neg hk, if_neg (fun z => z.1 q2)]
      rw [en] at he
      rcases he with he | he
      · have z : sgF P n (p + 2) = 0 := by unfold sgF; rw [if_neg (by omega)]
        omega
      · omega
    · rw [if_pos ⟨q2, q⟩]; omega
  · rw [if_neg q, if_neg (fun z => q z.2)]
theorem c6_obey {B : Int} {p : Nat} (hp : p < 500) (hP : RP h 0 R C) (hC : CP h P n) (hX : okX B (R, C)) (hB : B ≤ 2000000000) (gd : gdF P n p) (he : enF P n p = n ∨ sgF P n (enF P n p) = 59) (hq : ∀ h2, RP h2 0 (orP P n p (R, C)).1.1 (orP P n p (R, C)).1.2 → FrR 0 h h2 → Q (vI (zI (orP P n p (R, C)).2)) h2) : mC M6_obey [.inr (.inr (some (7, 0, 0))), .inl (zI p)] h Q := by
  obtain ⟨x1, x2, x3, x4⟩ := id hX
  have r0 := sg_rng hC.2.2.2 p
  have r1 := sg_rng hC.2.2.2 (p + 1)
  have r2 := sg_rng hC.2.2.2 (p + 2)
  have r3 := sg_rng hC.2.2.2 (p + 3)
  have r4 := sg_rng hC.2.2.2 (p + 4)
  have ed : ∀ i, dgF P n i = sgF P n i - 48 := fun _ => rfl
  have e1 := ed (p + 1)
  have e2 := ed (p + 2)
  have e3 := ed (p + 3)
  have e4 := ed (p + 4)
  have nr : i32 (nuE P n p) := by unfold nuE; split <;> omega
  unfold orP at hq
  refine w6_obey (c3_signAt (by omega) hC ?_)
  show (zI (sgF P n p) = 99 → mC M3_digitAt [_, .inl (zI p + 1)] h (kI (fun x365 h364 => mC M3_digitAt [.inr (.inr (some (9, 0, 0))), .inl (zI p + 2)] h364 (kI (fun x367 h366 => mC M3_digitAt [.inr (.inr (some (9, 0, 0))), .inl (zI p + 3)] h366 (kI (fun x369 h368 => mC M3_digitAt [.inr (.inr (some (9, 0, 0))), .inl (zI p + 4)] h368 (kI (fun x371 h370 => mC M4_admitCar [.inr (.inr (some (0, 0, 0))), .inl x365, .inl x367, .inl x369, .inl x371] h370 (kI (fun x373 h372 => Q (vI x373) h372))))))))))) ∧ (zI (sgF P n p) = 116 → mC M3_numberAt [.inr (.inr (some (9, 0, 0))), .inl (zI p + 1)] h (kI (fun x375 h374 => mC M4_letPass [.inr (.inr (some (0, 0, 0))), .inl x375] h374 (kI (fun x377 h376 => Q (vI x377) h376))))) ∧ (zI (sgF P n p) = 119 → mC M3_numberAt [.inr (.inr (some (9, 0, 0))), .inl (zI p + 1)] h (kI (fun x379 h378 => mC M4_turnWish [.inr (.inr (some (0, 0, 0))), .inl x379] h378 (kI (fun x381 h380 => Q (vI x381) h380))))) ∧ (¬ zI (sgF P n p) = 99 → ¬ zI (sgF P n p) = 116 → ¬ zI (sgF P n p) = 119 → Q (vI (-3)) h)
  have p1 : zI (p : Int) + 1 = zI ((p + 1 : Nat) : Int) := by rw [z1, z_add, show (p : Int) + 1 = ((p + 1 : Nat) : Int) by omega]
  have p2 : zI (p : Int) + 2 = zI ((p + 2 : Nat) : Int) := by rw [zc.1, z_add, show (p : Int) + 2 = ((p + 2 : Nat) : Int) by omega]
  have p3 : zI (p : Int) + 3 = zI ((p + 3 : Nat) : Int) := by rw [zc.2.1, z_add, show (p : Int) + 3 = ((p + 3 : Nat) : Int) by omega]
  have p4 : zI (p : Int) + 4 = zI ((p + 4 : Nat) : Int) := by rw [zc.2.2.1, z_add, show (p : Int) + 4 = ((p + 4 : Nat) : Int) by omega]
  rw [zs.2.2.2.2.2.2.1, zs.2.2.2.2.2.2.2.1, zs.2.2.2.2.2.2.2.2.1, z_eq (by omega) (by omega), z_eq (by omega) (by omega), z_eq (by omega) (by omega)]
  refine ⟨fun q => ?_, fun q => ?_, fun q => ?_, fun q1 q2 q3 => ?_⟩
  · rw [if_pos q] at hq
    refine c3_digitAt p1 (by omega) hC ?_
    refine c3_digitAt p2 (by omega) hC ?_
    refine c3_digitAt p3 (by omega) hC ?_
    refine c3_digitAt p4 (by omega) hC ?_
    exact c4_admitCar (by omega) (by omega) (by omega) (by omega) hP x1 x2 hq
  · rw [if_neg (by omega), if_neg (by omega)] at hq
    refine c3_numberAt p1 (by omega) hC ?_
    rw [nu_eq (by omega) he]
    exact c4_tk (by decide) nr hP x1 x2 hq
  · rw [if_neg (by omega), if_pos q] at hq
    refine c3_numberAt p1 (by omega) hC ?_
    rw [nu_eq (by omega) he]
    exact c4_turnWish nr hP x1 hq
  · unfold gdF at gd
    omega
theorem c6_carryOut {B : Int} (g : CG h u R C k H V W P n) (hX : okX B (R, C)) (hB : B ≤ 1000000000) (hq0 : ffF P n n 0 0 ≠ -6 → Q (vI (zI (-3))) h) (hq1 : ffF P n n 0 0 = -6 → ∀ m, prF P n m → ∀ h2 u2, CG h2 u2 (crF P n m 0 (R, C)).1.1 (crF P n m 0 (R, C)).1.2 (psK k) (psH k H (R, C)) V W P 0 → FrB h h2 → Q (vI (zI ((crF P n m 0 (R, C)).2 : Nat))) h2) : mC M6_carryOut [.inr (.inr (some (7, 0, 0)))] h Q := by
  have hC := g.2.2.2
  have n60 := hC.1
  refine w6_carryOut (c3_firstFault hC ?_)
  show (zI (ffF P n n 0 0) = -6 → mC _ _ h (kV (fun h349 => mE M6_carryOut 30 [vR 7 0 0, vI 0, vI 0] [] h349 Q))) ∧ (¬ zI (ffF P n n 0 0) = -6 → Q (vI (-3)) h)
  have fr : -6 ≤ ffF P n n 0 0 ∧ ffF P n n 0 0 ≤ 60 := by
    have : ∀ (f at_ : Nat) (d : Int), at_ + f = n → -6 ≤ ffF P n f at_ d ∧ ffF P n f at_ d ≤ 60 := by
      intro f
      induction f with
      | zero =>
        intro at_ d e
        rw [ff_0]
        split <;> omega
      | succ f ih =>
        intro at_ d e
        rw [ff_s]
        split
        · omega
        · exact ih (at_ + 1) _ (by omega)
    exact this n 0 0 (Nat.zero_add _)
  rw [zm6, show (-3 : Int32) = zI (-3) from by decide, z_eq (by omega) (by omega)]
  refine ⟨fun q => ?_, hq0⟩
  obtain ⟨m, pm⟩ := pr_ex hC.2.2.2 q
  have hq1 := hq1 q m pm
  obtain ⟨m1, m3, mg, ms, me⟩ := pm
  refine c1_note g hX.1 (fun h1 g1 hN1 hF1 => ?_)
  -- the end
  have fin : ∀ (g2 : mH) (X : rw_ × rw_) (d : Nat), d ≤ 60 → CG g2 u X.1 X.2 k H V W P n → RP g2 (2 + u) R C → FrB h g2 → crF P n m 0 (R, C) = (X, d) → mC M3_empty [.inr (.inr (some (9, 0, 0)))] g2 (kI (fun x351 h350 => mC M6_recorded [.inr (.inr (some (7, 0, 0))), .inl (zI d)] h350 (kI (fun x353 h352 => Q (vI x353) h352)))) := by
    intro g2 X d d60 gX hNX hFX e
    rw [e] at hq1
    refine c3_empty gX.2.2.2 (fun h3 c3 f3 => ?_)
    have gp := gX.pad c3 (fun k2 r i s h9 _ => f3 k2 r i s h9)
    refine c6_recorded (by omega) gp (hNX.fr (fun k2 i s hk => f3 k2 _ i s (by omega))) (fun z => by omega) (fun _ h4 u4 g4 hF4 => ?_)
    exact hq1 h4 u4 g4 (hFX.tr (FrB.tr (fun k2 r i s hk => f3 k2 r i s (by omega)) hF4))
  -- places at which no order begins
  have skip : ∀ (f at_ : Nat) (g2 : mH) (d : Nat) (t : Nat), at_ + f = t → t ≤ n → CP g2 P n → (∀ x, at_ ≤ x → x < t → ¬ (x = 0 ∨ sgF P n (x - 1) = 59)) → mE M6_carryOut 30 [vR 7 0 0, vI (zI d), vI (zI t)] [] g2 Q → mE M6_carryOut 30 [vR 7 0 0, vI (zI d), vI (zI at_)] [] g2 Q := by
    intro f
    induction f with
    | zero => intro at_ g2 d t e ht c hn w; rw [show at_ = t by omega]; exact w
    | succ f ih =>
      intro at_ g2 d t e ht c hn w
      refine w6_carryOut_30 ?_
      rw [c.2.1, z_le (by omega) (by omega)]
      refine ⟨fun z => by omega, fun _ => c3_beginsOrder (by omega) c ?_⟩
      show (¬ zI _ = 0 → _) ∧ (zI _ = 0 → mE M6_carryOut 30 [vR 7 0 0, vI (zI d), vI (zI at_ + 1)] [] g2 Q)
      rw [zb_ne]
      have nb := hn at_ (Nat.le_refl _) (by omega)
      refine ⟨fun z => absurd (Decidable.not_not.mp z) nb, fun _ => ?_⟩
      have e2 := ih (at_ + 1) g2 d t (by omega) ht c (fun x h1 h2 => hn x (by omega) h2) w
      rw [show ((at_ + 1 : Nat) : Int) = (at_ : Int) + 1 by omega, ← z_add, ← z1] at e2
      exact e2
  have st3 : ∀ j, j < m → 3 * j ≤ stF P n j := by
    intro j
    induction j with
    | zero => intro _; omega
    | succ j ih =>
      intro hj
      have i := ih (by omega)
      have ge := en_ge (P := P) (n := n) (p := stF P n j)
      rw [st_s]; omega
  have main : ∀ (f j : Nat) (g2 : mH) (X : rw_ × rw_), j + f = m → 1 ≤ f → CG g2 u X.1 X.2 k H V W P n → RP g2 (2 + u) R C → FrB h g2 → okX (B + 100 * j) X → crF P n m 0 (R, C) = crF P n f j X → mE M6_carryOut 30 [vR 7 0 0, vI (zI j), vI (zI (stF P n j))] [] g2 Q := by
    intro f
    induction f with
    | zero => intro j g2 X hj h1; omega
    | succ f ih =>
      intro j g2 X hj _ gX hNX hFX oX e
      have gd := mg j (by omega)
      have ge := en_ge (P := P) (n := n) (p := stF P n j)
      have hs3 := st3 j (by omega)
      have lim : enF P n (stF P n j) ≤ n ∧ (enF P n (stF P n j) = n ∨ sgF P n (enF P n (stF P n j)) = 59) := by
        by_cases y : j + 1 < m
        · have z := ms j y; exact ⟨by omega, Or.inr z.2⟩
        · rw [show j = m - 1 by omega]; exact ⟨by omega, Or.inl me⟩
      have bg : stF P n j = 0 ∨ sgF P n (stF P n j - 1) = 59 := by
        by_cases y : j = 0
        · rw [y]; exact Or.inl rfl
        · obtain ⟨i, rfl⟩ : ∃ i, j = i + 1 := ⟨j - 1, by omega⟩
          rw [st_s, Nat.add_sub_cancel]
          exact Or.inr (ms i (by omega)).2
      rw [cr_s] at e
      have oo := or_ok (P := P) (n := n) (p := stF P n j) oX (by omega)
      refine w6_carryOut_30 ?_
      rw [gX.2.2.2.2.1, z_le (by omega) (by omega)]
      refine ⟨fun z => by omega, fun _ => c3_beginsOrder (by omega) gX.2.2.2 ?_⟩
      show (¬ zI _ = 0 → mC _ _ g2 (kI (fun x357 h356 => (0 ≤ x357 → mE M6_carryOut 30 [vR 7 0 0, vI (zI j + 1), vI (zI (stF P n j) + 1)] [] h356 Q) ∧ (¬ 0 ≤ x357 → mC M3_empty [.inr (.inr (some (9, 0, 0)))] h356 (kI (fun x359 h358 => mC M6_recorded [.inr (.inr (some (7, 0, 0))), .inl (zI j)] h358 (kI (fun x361 h360 => Q (vI x361) h360)))))))) ∧ (zI _ = 0 → _)
      rw [zb_ne]
      refine ⟨fun _ => ?_, fun z => absurd bg z⟩
      refine c6_obey (by omega) gX.1 gX.2.2.2 oX (by omega) gd lim.2 (fun h3 hP3 hF3 => ?_)
      have g3 := gX.now hP3 hF3
      have hN3 := hNX.otherRoad hF3 (by omega)
      show (0 ≤ zI _ → mE M6_carryOut 30 [vR 7 0 0, vI (zI j + 1), vI (zI (stF P n j) + 1)] [] h3 Q) ∧ (¬ 0 ≤ zI _ → mC M3_empty [.inr (.inr (some (9, 0, 0)))] h3 (kI (fun x359 h358 => mC M6_recorded [.inr (.inr (some (7, 0, 0))), .inl (zI j)] h358 (kI (fun x361 h360 => Q (vI x361) h360)))))
      rw [z0, z1, z_add, z_add, z_le (by omega) oo.2]
      refine ⟨fun y => ?_, fun y => ?_⟩
      · rw [if_neg (by omega)] at e
        rw [show (j : Int) + 1 = ((j + 1 : Nat) : Int) by omega, show (stF P n j : Int) + 1 = ((stF P n j + 1 : Nat) : Int) by omega]
        by_cases y2 : j + 1 < m
        · have z := ms j y2
          refine skip (stF P n (j + 1) - (stF P n j + 1)) (stF P n j + 1) h3 (j + 1) (stF P n (j + 1)) (by rw [st_s]; omega) (by rw [st_s]; omega) g3.2.2.2 (fun x h1 h2 z2 => ?_) ?_
          · rw [st_s] at h2
            rcases z2 with z2 | z2
            · omega
            · exact no_semi gd (by omega) (by omega) z2
          · refine ih (j + 1) h3 _ (by omega) (by omega) g3 hN3 (hFX.tr hF3.B) ?_ e
            rw [show B + 100 * ((j + 1 : Nat) : Int) = B + 100 * (j : Int) + 100 by omega]
            exact oo.1
        · have jm : f = 0 := by omega
          subst jm
          have en : enF P n (stF P n j) = n := by rw [show j = m - 1 by omega]; exact me
          refine skip (n - (stF P n j + 1)) (stF P n j + 1) h3 (j + 1) n (by omega) (Nat.le_refl n) g3.2.2.2 (fun x h1 h2 z2 => ?_) ?_
          · rcases z2 with z2 | z2
            · omega
            · exact no_semi gd (by omega) (by omega) z2
          · refine w6_carryOut_30 ?_
            rw [g3.2.2.2.2.1, z_le (by omega) (by omega)]
            exact ⟨fun _ => fin h3 _ (j + 1) (by omega) g3 hN3 (hFX.tr hF3.B) e, fun z => by omega⟩
      · rw [if_pos (by omega)] at e
        exact fin h3 _ j (by omega) g3 hN3 (hFX.tr hF3.B) e
  exact main m 0 h1 (R, C) (Nat.zero_add _) m1 g1 hN1 hF1 (by rw [show B + 100 * ((0 : Nat) : Int) = B by omega]; exact hX) rfl
end CARRY
