/-! the reference: carryOut -/
theorem pr_one {P : rw_} {n m m2 : Nat} (a : prF P n m) (b : prF P n m2) : m = m2 := by
  obtain ⟨a1, a2, a3, a4, a5⟩ := a
  obtain ⟨b1, b2, b3, b4, b5⟩ := b
  by_cases q : m < m2
  · have z := (b4 (m - 1) (by omega)).1
    omega
  · by_cases q2 : m2 < m
    · have z := (a4 (m2 - 1) (by omega)).1
      omega
    · omega
theorem pa_pr {P : rw_} {n m : Nat} {S : Nat → rw_} (a : paF P n S m) : prF P n m := ⟨a.1, a.2.1, fun k hk => (a.2.2.2.1 k hk).1, a.2.2.2.2.1, a.2.2.2.2.2⟩
section RCARRY
variable {h : mH} {Q : mV → mH → Prop} {R C R2 C2 C0 : rw_} {S S2 : Nat → rw_} {k n : Nat} {H W : HsT} {V P : rw_}
theorem c7_carry {B : Int} {j : Nat} {a1 : Int32} (e1 : a1 = zI ((5 * j : Nat) : Int)) (hj : j < 29) (h8 : S 20 8 = 1) (h3 : okS S) (hS : ∀ i, i < n → 33 ≤ P i ∧ P i ≤ 126) (hM : MR h S R C) (hX : okX B (R, C0)) (gd : gdF P n (stF P n j)) (ag : agF P n (stF P n j) (S 29) j) (hq : ∀ h2 C2, MR h2 S (orP P n (stF P n j) (R, C0)).1.1 C2 → FrK h h2 → Q (vI (zI (orP P n (stF P n j) (R, C0)).2)) h2) : mC M7_carry [.inr (.inr (some (20, 0, 0))), .inl a1] h Q := by
  subst e1
  obtain ⟨x1, x2, x3, x4⟩ := hX
  have rS : recS S R = S := by unfold recS; rw [if_neg (by omega)]
  have rI : ∀ a, recI S R a = S := fun a => by rw [recI_d, rS]; split <;> rfl
  generalize hp : stF P n j = p at gd ag hq
  have r0 := sg_rng hS p
  have r1 := sg_rng hS (p + 1)
  have r2 := sg_rng hS (p + 2)
  have r3 := sg_rng hS (p + 3)
  have r4 := sg_rng hS (p + 4)
  have ed : ∀ i, dgF P n i = sgF P n i - 48 := fun _ => rfl
  have e1 := ed (p + 1)
  have e2 := ed (p + 2)
  have e3 := ed (p + 3)
  have e4 := ed (p + 4)
  have nr : i32 (nuE P n p) := by unfold nuE; split <;> omega
  obtain ⟨g0, gc, gn⟩ := ag
  have rd : ∀ (i : Nat) (i1 : Int32), i1 = zI i → i ≤ 4 → vp_in (zI ((5 * j : Nat) : Int) + i1) 150 ∧ h.1 29 0 0 (zI ((5 * j : Nat) : Int) + i1).toNatClampNeg = zI (S 29 (5 * j + i)) := fun i i1 ei hi => by
    rw [ei, z_add, z_clamp (by omega) (by omega), show (((5 * j : Nat) : Int) + (i : Int)).toNat = 5 * j + i by omega]
    exact ⟨z_in (by omega) (by omega) (by omega), hM.2.2 29 (5 * j + i) (by decide) (by decide) (by decide) (by decide) (by decide) (show 5 * j + i < 150 by omega)⟩
  have rd0 : vp_in (zI ((5 * j : Nat) : Int)) 150 ∧ h.1 29 0 0 (zI ((5 * j : Nat) : Int)).toNatClampNeg = zI (S 29 (5 * j)) := by
    rw [z_clamp (by omega) (by omega), Int.toNat_natCast]
    exact ⟨z_in (by omega) (by omega) (by omega), hM.2.2 29 (5 * j) (by decide) (by decide) (by decide) (by decide) (by decide) (show 5 * j < 150 by omega)⟩
  have rd1 := rd 1 1 z1 (by omega)
  have rd2 := rd 2 2 zc.1 (by omega)
  have rd3 := rd 3 3 zc.2.1 (by omega)
  have rd4 := rd 4 4 zc.2.2.1 (by omega)
  unfold orP at hq
  refine w7_carry ⟨rd1.1, rd0.1, ?_⟩
  rw [rd0.2, rd1.2, rd2.2, rd3.2, rd4.2, g0, zs.2.2.2.2.2.2.1, zs.2.2.2.2.2.2.2.2.1, z_eq (by omega) (by omega), z_eq (by omega) (by omega)]
  refine ⟨fun q => ⟨rd2.1, rd3.1, rd4.1, ?_⟩, fun q => ?_, fun q q2 => ?_⟩
  · rw [if_pos q] at hq
    obtain ⟨c1, c2, c3, c4⟩ := gc q
    rw [c1, c2, c3, c4]
    refine c7_come (by omega) (by omega) (by omega) (by omega) hM h3 x1 x2 (fun h2 C2 hM2 hF2 => ?_)
    rw [rI] at hM2
    exact hq h2 C2 hM2 hF2
  · rw [if_neg (by omega), if_pos q] at hq
    rw [gn (by omega)]
    refine c7_want nr hM h3 x1 (fun h2 hM2 hF2 => ?_)
    rw [rI] at hM2
    exact hq h2 C hM2 hF2
  · rw [if_neg q, if_neg q2] at hq
    rw [gn q]
    unfold tkS at hq
    refine c7_ticks nr hM h3 x1 x2 (fun y => ?_) (fun y h2 C2 hM2 hF2 => ?_)
    · rw [if_neg y] at hq
      exact hq h C hM FrK.rf
    · rw [if_pos y] at hq
      rw [rS] at hM2
      exact hq h2 C2 hM2 hF2
theorem c7_carryOut {B : Int} (g : SG S k H V W P n) (hM : MR h S R C) (hX : okX B (R, C0)) (hB : B ≤ 1000000000) (hq0 : ffF P n n 0 0 ≠ -6 → ∀ h2 S2, SG S2 k H V W P n → MR h2 S2 R C → FrK h h2 → Q (vI (zI (-3))) h2) (hq1 : ffF P n n 0 0 = -6 → ∀ m, prF P n m → ∀ h2 S2 C2, SG S2 (psK k) (psH k H (R, C0)) V W P 0 → MR h2 S2 (crF P n m 0 (R, C0)).1.1 C2 → FrK h h2 → Q (vI (zI ((crF P n m 0 (R, C0)).2 : Nat))) h2) : mC M7_carryOut [.inr (.inr (some (20, 0, 0)))] h Q := by
  have sp := g.2.2.2.2.2
  have n60 := sp.1
  refine w7_carryOut (c7_faultOf sp hM (fun h1 S1 kq1 hM1 hF1 pa => ?_))
  have fr : -6 ≤ ffF P n n 0 0 ∧ ffF P n n 0 0 ≤ 60 := by
    have : ∀ (f at_ : Nat) (d : Int), at_ + f = n → -6 ≤ ffF P n f at_ d ∧ ffF P n f at_ d ≤ 60 := by
      intro f
      induction f with
      | zero =>
        intro at_ d e
        rw [ff_0]
        split <;> omega
      | succ f ih =>
        intro at_ d e
        rw [ff_s]
        split
        · omega
        · exact ih (at_ + 1) _ (by omega)
    exact this n 0 0 (Nat.zero_add _)
  have g1 := g.kq kq1
  show (zI (ffF P n n 0 0) = -6 → mC _ _ h1 (kV (fun h771 => mE M7_carryOut 23 [vR 20 0 0, vI 0] [] (pI h771 20 0 0 8 1) Q))) ∧ (¬ zI (ffF P n n 0 0) = -6 → Q (vI (-3)) h1)
  rw [zm6, show (-3 : Int32) = zI (-3) from by decide, z_eq (by omega) (by omega)]
  refine ⟨fun q => ?_, fun q => hq0 q h1 S1 g1 hM1 hF1.K⟩
  obtain ⟨m, pa⟩ := pa q
  have pm := pa_pr pa
  have hq1 := hq1 q m pm
  obtain ⟨m1, m3, m12, mg, ms, me⟩ := pa
  refine c7_record hM1 g1.ok (fun h2 hM2 hF2 => ?_)
  have g2 := g1.rec (R := R) (X := (R, C0)) (fun _ _ => rfl)
  have r12 : recS S1 R 20 12 = m := by
    unfold recS
    split
    · split
      · rw [sU_at, up_ne (by decide)]; exact m12
      · rw [sU_at, up_ne (by decide)]; exact m12
    · exact m12
  have r29 : recS S1 R 29 = S1 29 := by
    unfold recS
    split
    · split
      · rw [sU_ne (by decide), sU_ne (by decide)]
      · rw [sU_ne (by decide), sU_ne (by decide)]
    · rfl
  have hM3 : MR (pI h2 20 0 0 8 1) (sU (recS S1 R) 20 (up (recS S1 R 20) 8 1)) R C := by
    rw [z1]; exact hM2.oth (by decide) (by decide)
  have hF3 : FrK h (pI h2 20 0 0 8 1) := hF1.K.tr (hF2.K.tr (FrK.put (by omega)))
  have oS : okS (sU (recS S1 R) 20 (up (recS S1 R 20) 8 1)) := by
    have o := g2.ok
    unfold okS at *
    rw [sU_at, up_at, up_ne (by decide)]
    exact ⟨Or.inr rfl, o.2⟩
  generalize hT : sU (recS S1 R) 20 (up (recS S1 R 20) 8 1) = T at hM3 oS
  have T8 : T 20 8 = 1 := by rw [← hT, sU_at, up_at]
  have T12 : T 20 12 = m := by rw [← hT, sU_at, up_ne (by decide)]; exact r12
  have T29 : T 29 = S1 29 := by rw [← hT, sU_ne (by decide)]; exact r29
  have Tf : SG (sU (sU T 20 (up (T 20) 8 0)) 20 (up (sU T 20 (up (T 20) 8 0) 20) 7 0)) (psK k) (psH k H (R, C0)) V W P 0 := by
    obtain ⟨a1, a2, a3, a4, a5, a6⟩ := g2
    subst hT
    refine ⟨?_, a2, ?_, fun j hj i hi => ?_, fun s hs => ?_, ⟨by omega, ?_, fun i hi => absurd hi (Nat.not_lt_zero _), fun i hi => absurd hi (Nat.not_lt_zero _)⟩⟩
    · rw [sU_at, sU_at, up_ne (by decide), up_ne (by decide), sU_at, up_ne (by decide)]; exact a1
    · rw [sU_at, sU_at, up_ne (by decide), up_at]
    · rw [sU_ne (by decide), sU_ne (by decide), sU_ne (by decide)]; exact a4 j hj i hi
    · rw [sU_ne (by decide), sU_ne (by decide), sU_ne (by decide), sU_ne (by decide), sU_ne (by decide), sU_ne (by decide)]; exact a5 s hs
    · rw [sU_at, up_at]; rfl
  have fin : ∀ (g3 : mH) (X : rw_ × rw_) (C3 : rw_) (d : Nat), MR g3 T X.1 C3 → FrK h g3 → crF P n m 0 (R, C0) = (X, d) → Q (vI (zI d)) (pI (pI g3 20 0 0 8 0) 20 0 0 7 0) := by
    intro g3 X C3 d hMg hF e
    rw [e] at hq1
    rw [z0]
    exact hq1 _ _ C3 Tf ((hMg.oth (k := 20) (j := 8) (by decide) (by decide)).oth (k := 20) (j := 7) (by decide) (by decide)) (hF.tr ((FrK.put (by omega)).tr (FrK.put (by omega))))
  have main : ∀ (f j : Nat) (g3 : mH) (X : rw_ × rw_) (C3 : rw_), j + f = m → MR g3 T X.1 C3 → FrK h g3 → okX (B + 100 * j) X → crF P n m 0 (R, C0) = crF P n f j X → mE M7_carryOut 23 [vR 20 0 0, vI (zI j)] [] g3 Q := by
    intro f
    induction f with
    | zero =>
      intro j g3 X C3 hj hMg hF oX e
      refine w7_carryOut_23 ?_
      rw [hMg.i 12 (by decide), T12, z_le (by omega) (by omega)]
      exact ⟨fun _ => fin g3 X C3 j hMg hF e, fun z => by omega⟩
    | succ f ih =>
      intro j g3 X C3 hj hMg hF oX e
      obtain ⟨gd, ag⟩ := mg j (by omega)
      rw [← T29] at ag
      rw [cr_s] at e
      have oo := or_ok (P := P) (n := n) (p := stF P n j) oX (by omega)
      refine w7_carryOut_23 ?_
      rw [hMg.i 12 (by decide), T12, z_le (by omega) (by omega)]
      refine ⟨fun z => by omega, fun _ => ?_⟩
      refine c7_carry (j := j) (C0 := X.2) (by rw [zc.2.2.2.1, z_mul, show (5 : Int) * (j : Int) = ((5 * j : Nat) : Int) by omega]) (by omega) T8 oS sp.2.2.2 hMg oX gd ag (fun g4 C4 hM4 hF4 => ?_)
      show (zI _ < 0 → Q (vI (zI j)) (pI (pI g4 20 0 0 8 0) 20 0 0 7 0)) ∧ (¬ zI _ < 0 → mE M7_carryOut 23 [vR 20 0 0, vI (zI j + 1)] [] g4 Q)
      have z00 : (zI (orP P n (stF P n j) X).2 < 0) ↔ (orP P n (stF P n j) X).2 < 0 := by
        rw [z0, z_lt oo.2 (by omega)]
      refine ⟨fun y => ?_, fun y => ?_⟩
      · have y := z00.mp y
        rw [if_pos y] at e
        exact fin g4 _ C4 j hM4 (hF.tr hF4) e
      · have y : ¬ (orP P n (stF P n j) X).2 < 0 := fun z => y (z00.mpr z)
        rw [if_neg y] at e
        have e2 := ih (j + 1) g4 _ C4 (by omega) hM4 (hF.tr hF4) (by
          rw [show B + 100 * ((j + 1 : Nat) : Int) = B + 100 * (j : Int) + 100 by omega]
          exact oo.1) e
        rw [show ((j + 1 : Nat) : Int) = (j : Int) + 1 by omega, ← z_add, ← z1] at e2
        exact e2
  exact main m 0 _ (R, C0) C (Nat.zero_add _) hM3 hF3 (by rw [show B + 100 * ((0 : Nat) : Int) = B by omega]; exact hX) rfl
end RCARRY
