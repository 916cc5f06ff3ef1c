/-! the reference's whole state -/
def SG (S : Nat → rw_) (k : Nat) (H : HsT) (V : rw_) (W : HsT) (P : rw_) (n : Nat) : Prop :=
  S 20 3 = k ∧ k ≤ 6 ∧ S 20 8 = 0 ∧ (∀ j, j < k → ∀ i, i < 470 → S 23 (470 * j + i) = (H j).1 i) ∧ (∀ s, s < 2 → (V s = 0 ∨ V s = 1) ∧ S 25 s = V s ∧ (V s = 1 → ∀ i, i < 470 → S 24 (470 * s + i) = (W s).1 i)) ∧ SP S P n
section RST
variable {h : mH} {Q : mV → mH → Prop} {R C R2 C2 C0 : rw_} {S S2 : Nat → rw_} {k n : Nat} {H W : HsT} {V P : rw_}
theorem SG.ok (g : SG S k H V W P n) : okS S := ⟨Or.inl g.2.2.1, by rw [g.1]; omega, by rw [g.1]; have := g.2.1; omega⟩
theorem SG.of (g : SG S k H V W P n) (e20 : ∀ j, j < 12 → S2 20 j = S 20 j) (e : ∀ j, j = 23 ∨ j = 24 ∨ j = 25 ∨ j = 26 → S2 j = S j) : SG S2 k H V W P n := by
  obtain ⟨g1, g2, g3, g4, g5, g6⟩ := g
  refine ⟨by rw [e20 3 (by omega)]; exact g1, g2, by rw [e20 8 (by omega)]; exact g3, fun j hj i hi => by rw [e 23 (by omega)]; exact g4 j hj i hi, fun s hs => ?_, ⟨g6.1, by rw [e20 7 (by omega)]; exact g6.2.1, fun i hi => by rw [e 26 (by omega)]; exact g6.2.2.1 i hi, g6.2.2.2⟩⟩
  rw [e 24 (by omega), e 25 (by omega)]
  exact g5 s hs
theorem SG.kp (g : SG S k H V W P n) (e : Kp S S2) : SG S2 k H V W P n := g.of (fun j _ => by rw [e 20 (by decide)]) (fun j hj => e j (by omega))
theorem SG.kq (g : SG S k H V W P n) (e : Kq S S2) : SG S2 k H V W P n := g.of e.2 (fun j hj => e.1 j (by omega) (by omega))
theorem SG.k7 {P2 : rw_} {n2 : Nat} (g : SG S k H V W P n) (e : Kp7 S S2) (p : SP S2 P2 n2) : SG S2 k H V W P2 n2 := by
  obtain ⟨g1, g2, g3, g4, g5, g6⟩ := g
  refine ⟨by rw [e.2 3 (by omega)]; exact g1, g2, by rw [e.2 8 (by omega)]; exact g3, fun j hj i hi => by rw [e.1 23 (by omega) (by omega)]; exact g4 j hj i hi, fun s hs => ?_, p⟩
  rw [e.1 24 (by omega) (by omega), e.1 25 (by omega) (by omega)]
  exact g5 s hs
theorem SG.rec (g : SG S k H V W P n) {X : rw_ × rw_} (hX : ∀ i, i < 470 → X.1 i = R i) : SG (recS S R) (psK k) (psH k H X) V W P n := by
  obtain ⟨g1, g2, g3, g4, g5, g6⟩ := g
  have oth : ∀ j, j ≠ 20 → j ≠ 23 → recS S R j = S j := fun j h1 h2 => by
    unfold recS
    rw [if_pos g3]
    split
    · rw [sU_ne h1, sU_ne h2]
    · rw [sU_ne h1, sU_ne h2]
  have o20 : ∀ j, j ≠ 3 → recS S R 20 j = S 20 j := fun j h1 => by
    unfold recS
    rw [if_pos g3]
    split
    · rw [sU_at, up_ne h1]
    · rw [sU_at, up_ne h1]
  refine ⟨?_, by unfold psK; split <;> omega, by rw [o20 8 (by decide)]; exact g3, fun j hj i hi => ?_, fun s hs => ?_, ⟨g6.1, by rw [o20 7 (by decide)]; exact g6.2.1, fun i hi => by rw [oth 26 (by decide) (by decide)]; exact g6.2.2.1 i hi, g6.2.2.2⟩⟩
  · unfold recS psK
    rw [if_pos g3, g1]
    by_cases q : k = 6
    · rw [if_pos (by omega), if_pos q, sU_at, up_at]; rfl
    · rw [if_neg (by omega), if_neg q, sU_at, up_at]; omega
  · unfold recS
    unfold psK at hj
    unfold psH
    rw [if_pos g3, g1]
    by_cases q : k = 6
    · rw [if_pos q] at hj
      rw [if_pos (by omega), if_pos q, sU_ne (by decide), sU_at]
      unfold hPut hShi
      by_cases q2 : j = 5
      · rw [if_pos q2, if_pos (by omega), hX i hi, show 470 * j + i - 470 * 5 = i by omega]
      · rw [if_neg q2, if_neg (by omega), if_pos (by omega), show 470 * j + i + 470 = 470 * (j + 1) + i by omega]
        exact g4 (j + 1) (by omega) i hi
    · rw [if_neg q] at hj
      rw [if_neg (by omega), if_neg q, sU_ne (by decide), sU_at, Int.toNat_natCast]
      unfold hPut
      by_cases q2 : j = k
      · rw [if_pos q2, if_pos (by omega), hX i hi, show 470 * j + i - 470 * k = i by omega]
      · rw [if_neg q2, if_neg (by omega)]
        exact g4 j (by omega) i hi
  · rw [oth 24 (by decide) (by decide), oth 25 (by decide) (by decide)]
    exact g5 s hs
theorem recI_d {S : Nat → rw_} {R : rw_} {a : Int} : recI S R a = if 0 ≤ a then recS S R else S := rfl
theorem SG.rcI {a : Int} (g : SG S k H V W P n) : SG (recI S R a) (nxK k a) (nxH k H (R, C) a) V W P n := by
  rw [recI_d]
  unfold nxK nxH
  by_cases q : 0 ≤ a
  · rw [if_pos q, if_pos q, if_pos q]; exact g.rec (fun _ _ => rfl)
  · rw [if_neg q, if_neg q, if_neg q]; exact g
end RST
section ROP
variable {h : mH} {Q : mV → mH → Prop} {R C R2 C2 C0 : rw_} {S S2 : Nat → rw_} {k n : Nat} {H W : HsT} {V P : rw_}
theorem c7_undo (g : SG S k H V W P n) (hM : MR h S R C) (hq0 : k = 0 → Q (vI (zI (-5))) h) (hq1 : ∀ k1, k = k1 + 1 → ∀ h2 S2, SG S2 k1 H V W P n → MR h2 S2 (H k1).1 C → FrK h h2 → Q (vI (zI k1)) h2) : mC M7_undo [.inr (.inr (some (20, 0, 0)))] h Q := by
  have gg := g
  obtain ⟨g1, g2, g3, g4, g5, g6⟩ := g
  refine w7_undo ?_
  rw [hM.i 3 (by decide), g1, zm5, z0, z1, z_sub, z_eq (by omega) (by omega)]
  refine ⟨fun q => ?_, fun q => hq0 (by omega)⟩
  obtain ⟨k1, rfl⟩ : ∃ k1, k = k1 + 1 := ⟨k - 1, by omega⟩
  have hq1 := hq1 k1 rfl
  rw [show ((k1 + 1 : Nat) : Int) - 1 = (k1 : Int) by omega]
  have hM1 : MR (pI h 20 0 0 3 (zI k1)) (sU S 20 (up (S 20) 3 k1)) R C := hM.oth (by decide) (by decide)
  have sg : SG (sU S 20 (up (S 20) 3 k1)) k1 H V W P n := by
    refine ⟨by rw [sU_at, up_at], by omega, by rw [sU_at, up_ne (by decide)]; exact g3, fun j hj i hi => by rw [sU_ne (by decide)]; exact g4 j (by omega) i hi, fun s hs => by rw [sU_ne (by decide), sU_ne (by decide)]; exact g5 s hs, ⟨g6.1, by rw [sU_at, up_ne (by decide)]; exact g6.2.1, fun i hi => by rw [sU_ne (by decide)]; exact g6.2.2.1 i hi, g6.2.2.2⟩⟩
  have loop : ∀ (f i : Nat) (g2 : mH), i + f = 470 → MR g2 (sU S 20 (up (S 20) 3 k1)) (fun x => if x < i then (H k1).1 x else R x) C → FrK h g2 → mE M7_undo 22 [vR 20 0 0, vI (zI i)] [] g2 Q := by
    intro f
    induction f with
    | zero =>
      intro i g2 hi hMg hF
      refine w7_undo_22 ?_
      rw [z470.1, z_le (by omega) (by omega), hMg.i 3 (by decide), sU_at, up_at]
      refine ⟨fun _ => hq1 g2 _ sg (hMg.eqv (fun j hj => ?_) (fun _ _ => rfl)) hF, fun z => by omega⟩
      rw [if_pos (by omega)]
    | succ f ih =>
      intro i g2 hi hMg hF
      refine w7_undo_22 ?_
      rw [z470.1, z1, z_add, z_le (by omega) (by omega), hMg.i 3 (by decide), sU_at, up_at, z_mul, z_add, z_clamp (by omega) (by omega), z_clamp (by omega) (by omega), Int.toNat_natCast, show ((k1 : Int) * 470 + (i : Int)).toNat = 470 * k1 + i by omega, hMg.hist _ (by omega), sU_ne (by decide), g4 k1 (by omega) i (by omega)]
      refine ⟨fun z => by omega, fun _ => ⟨z_in (by omega) (by omega) (by omega), z_in (by omega) (by omega) (by omega), ?_⟩⟩
      rw [show (i : Int) + 1 = ((i + 1 : Nat) : Int) by omega]
      refine ih (i + 1) _ (by omega) (hMg.row.eqv (fun j hj => ?_) (fun _ _ => rfl)) (hF.tr (FrK.put (by omega)))
      by_cases q2 : j = i
      · rw [q2, if_pos (by omega), up_at]
      · rw [up_ne q2]
        by_cases q3 : j < i
        · rw [if_pos q3, if_pos (by omega)]
        · rw [if_neg q3, if_neg (by omega)]
  refine loop 470 0 _ (by omega) (hM1.eqv (fun j hj => ?_) (fun _ _ => rfl)) (FrK.put (by omega))
  rw [if_neg (by omega)]
theorem c7_save {a : Int} (ha : i32 a) (g : SG S k H V W P n) (hM : MR h S R C) (hq0 : ¬ (0 ≤ a ∧ a < 2) → Q (vI (zI (-2))) h) (hq1 : 0 ≤ a ∧ a < 2 → ∀ h2 S2 (C1 : rw_), SG S2 k H (up V a.toNat 1) (upH W a.toNat (R, C1)) P n → MR h2 S2 R C → FrK h h2 → Q (vI (zI (R 2))) h2) : mC M7_save [.inr (.inr (some (20, 0, 0))), .inl (zI a)] h Q := by
  have gg := g
  obtain ⟨g1, g2, g3, g4, g5, g6⟩ := g
  refine w7_save ?_
  rw [zm2, z0, z1]
  refine c7_in ha (by omega) (by omega) ?_
  show (¬ zI _ = zI 0 → mE M7_save 14 [vR 20 0 0, vI (zI a), vI (zI 0)] [] h Q) ∧ (zI _ = zI 0 → Q (vI (zI (-2))) h)
  rw [zb_ne0]
  refine ⟨fun q => ?_, fun q => hq0 (by omega)⟩
  have q := Decidable.not_not.mp q
  have hq1 := hq1 (by omega)
  obtain ⟨s, rfl⟩ : ∃ s : Nat, a = s := ⟨a.toNat, by omega⟩
  rw [Int.toNat_natCast] at hq1
  have loop : ∀ (f i : Nat) (g2 : mH), i + f = 470 → MR g2 (sU S 24 (fun x => if 470 * s ≤ x ∧ x < 470 * s + i then R (x - 470 * s) else S 24 x)) R C → FrK h g2 → mE M7_save 14 [vR 20 0 0, vI (zI s), vI (zI i)] [] g2 Q := by
    intro f
    induction f with
    | zero =>
      intro i g2 hi hMg hF
      refine w7_save_14 ?_
      rw [z470.1, z1, z_le (by omega) (by omega), z_clamp (by omega) (by omega), Int.toNat_natCast, show g2.1 21 0 0 ((2 : Int32).toNatClampNeg) = zI (R 2) from hMg.1 2 (by omega)]
      refine ⟨fun _ => ⟨z_in (by omega) (by omega) (by omega), vin 2 470 (by omega) (by omega) (by decide), ?_⟩, fun z => by omega⟩
      refine hq1 _ _ C ?_ (hMg.oth (k := 25) (j := s) (v := 1) (by decide) (by decide)) (hF.tr (FrK.put (by omega)))
      refine ⟨by rw [sU_ne (by decide), sU_ne (by decide)]; exact g1, gg.2.1, by rw [sU_ne (by decide), sU_ne (by decide)]; exact g3, fun j hj i hi => by rw [sU_ne (by decide), sU_ne (by decide)]; exact g4 j hj i hi, fun t ht => ?_, ⟨g6.1, by rw [sU_ne (by decide), sU_ne (by decide)]; exact g6.2.1, fun i hi => by rw [sU_ne (by decide), sU_ne (by decide)]; exact g6.2.2.1 i hi, g6.2.2.2⟩⟩
      obtain ⟨a1, a2, a3⟩ := g5 t ht
      rw [sU_at, sU_ne (by decide), sU_ne (by decide), sU_at]
      unfold upH
      by_cases y : t = s
      · rw [y, up_at, up_at, if_pos rfl]
        exact ⟨Or.inr rfl, rfl, fun _ j hj => by rw [if_pos (by omega), show 470 * s + j - 470 * s = j by omega]⟩
      · rw [up_ne y, up_ne y, if_neg y]
        exact ⟨a1, a2, fun z j hj => by rw [if_neg (by omega)]; exact a3 z j hj⟩
    | succ f ih =>
      intro i g2 hi hMg hF
      refine w7_save_14 ?_
      rw [z470.1, z1, z_mul, z_add, z_add, z_le (by omega) (by omega), z_clamp (by omega) (by omega), z_clamp (by omega) (by omega), z_clamp (by omega) (by omega), Int.toNat_natCast, Int.toNat_natCast, show ((s : Int) * 470 + (i : Int)).toNat = 470 * s + i by omega, hMg.1 i (by omega)]
      refine ⟨fun z => by omega, fun _ => ⟨z_in (by omega) (by omega) (by omega), z_in (by omega) (by omega) (by omega), ?_⟩⟩
      rw [show (i : Int) + 1 = ((i + 1 : Nat) : Int) by omega]
      refine ih (i + 1) _ (by omega) (MR.eqS (hMg.oth (k := 24) (j := 470 * s + i) (by decide) (by decide)) (fun k2 t _ _ _ _ _ _ => ?_)) (hF.tr (FrK.put (by omega)))
      by_cases y : k2 = 24
      · subst y
        rw [sU_at, sU_at, sU_at]
        by_cases q2 : t = 470 * s + i
        · rw [q2, up_at, if_pos (by omega), show 470 * s + i - 470 * s = i by omega]
        · rw [up_ne q2]
          by_cases q3 : 470 * s ≤ t ∧ t < 470 * s + i
          · rw [if_pos q3, if_pos (by omega)]
          · rw [if_neg q3, if_neg (by omega)]
      · rw [sU_ne y, sU_ne y, sU_ne y]
  refine loop 470 0 h (by omega) (hM.eqS (fun k2 t _ _ _ _ _ _ => ?_)) FrK.rf
  by_cases y : k2 = 24
  · subst y
    rw [sU_at, if_neg (by omega)]
  · rw [sU_ne y]
theorem c7_restore {a : Int} (ha : i32 a) (g : SG S k H V W P n) (hM : MR h S R C) (hq : ∀ h2 S2 (C1 : rw_), SG S2 (nxK k (rsS R C1 V W a).2) (nxH k H (R, C1) (rsS R C1 V W a).2) V W P n → MR h2 S2 (rsS R C1 V W a).1.1 C → FrK h h2 → Q (vI (zI (rsS R C1 V W a).2)) h2) (hb : ∀ s, s < 2 → V s = 1 → 0 ≤ (W s).1 2) : mC M7_restore [.inr (.inr (some (20, 0, 0))), .inl (zI a)] h Q := by
  have gg := g
  obtain ⟨g1, g2, g3, g4, g5, g6⟩ := g
  refine w7_restore ?_
  rw [zm2, zm5, z0, z1]
  unfold rsS at hq
  refine c7_in ha (by omega) (by omega) ?_
  show (¬ zI _ = zI 0 → vp_in (zI a) 2 ∧ ((¬ (h.1 25 0 0 (zI a).toNatClampNeg) = zI 0 → mC M7_record [.inr (.inr (some (20, 0, 0)))] h (kV (fun h778 => mE M7_restore 30 [vR 20 0 0, vI (zI a), vI (zI 0)] [] h778 Q))) ∧ ((h.1 25 0 0 (zI a).toNatClampNeg) = zI 0 → Q (vI (zI (-5))) h))) ∧ (zI _ = zI 0 → Q (vI (zI (-2))) h)
  rw [zb_ne0]
  refine ⟨fun q => ?_, fun q => ?_⟩
  · have q := Decidable.not_not.mp q
    obtain ⟨s, rfl⟩ : ∃ s : Nat, a = s := ⟨a.toNat, by omega⟩
    obtain ⟨a1, a2, a3⟩ := g5 s (by omega)
    have e25 := hM.2.2 25 s (by decide) (by decide) (by decide) (by decide) (by decide) (show s < 2 by omega)
    rw [z_clamp (by omega) (by omega), Int.toNat_natCast, e25, a2, z_eq (by omega) (by omega)]
    refine ⟨z_in (by omega) (by omega) (by omega), fun y => ?_, fun y => ?_⟩
    · have v1 : V s = 1 := by omega
      have b2 := hb s (by omega) v1
      have hq := fun h2 S2 => hq h2 S2 C
      rw [if_pos (by omega), Int.toNat_natCast, if_pos v1] at hq
      unfold nxK nxH at hq
      dsimp only at hq
      rw [if_pos b2, if_pos b2] at hq
      refine c7_record hM gg.ok (fun h1 hM1 hF1 => ?_)
      have sg := gg.rec (R := R) (X := (R, C)) (fun _ _ => rfl)
      have loop : ∀ (f i : Nat) (g2 : mH), i + f = 470 → MR g2 (recS S R) (fun x => if x < i then (W s).1 x else R x) C → FrK h g2 → mE M7_restore 30 [vR 20 0 0, vI (zI s), vI (zI i)] [] g2 Q := by
        intro f
        induction f with
        | zero =>
          intro i g2 hi hMg hF
          have hMw : MR g2 (recS S R) (W s).1 C := hMg.eqv (fun j hj => by rw [if_pos (by omega)]) (fun _ _ => rfl)
          refine w7_restore_30 ?_
          rw [z470.1, z_le (by omega) (by omega), show g2.1 21 0 0 ((2 : Int32).toNatClampNeg) = zI ((W s).1 2) from hMw.1 2 (by omega)]
          exact ⟨fun _ => ⟨vin 2 470 (by omega) (by omega) (by decide), hq g2 _ sg hMw hF⟩, fun z => by omega⟩
        | succ f ih =>
          intro i g2 hi hMg hF
          have e24 := hMg.2.2 24 (470 * s + i) (by decide) (by decide) (by decide) (by decide) (by decide) (show 470 * s + i < 940 by omega)
          obtain ⟨b1, b3, b4⟩ := sg.2.2.2.2.1 s (by omega)
          rw [b4 v1 i (by omega)] at e24
          refine w7_restore_30 ?_
          rw [z470.1, z1, z_mul, z_add, z_add, z_le (by omega) (by omega), z_clamp (by omega) (by omega), z_clamp (by omega) (by omega), Int.toNat_natCast, show ((s : Int) * 470 + (i : Int)).toNat = 470 * s + i by omega, e24]
          refine ⟨fun z => by omega, fun _ => ⟨z_in (by omega) (by omega) (by omega), z_in (by omega) (by omega) (by omega), ?_⟩⟩
          rw [show (i : Int) + 1 = ((i + 1 : Nat) : Int) by omega]
          refine ih (i + 1) _ (by omega) (hMg.row.eqv (fun j hj => ?_) (fun _ _ => rfl)) (hF.tr (FrK.put (by omega)))
          by_cases q2 : j = i
          · rw [q2, if_pos (by omega), up_at]
          · rw [up_ne q2]
            by_cases q3 : j < i
            · rw [if_pos q3, if_pos (by omega)]
            · rw [if_neg q3, if_neg (by omega)]
      refine loop 470 0 h1 (by omega) (hM1.eqv (fun j hj => ?_) (fun _ _ => rfl)) hF1.K
      rw [if_neg (by omega)]
    · have hq := fun h2 S2 => hq h2 S2 C
      rw [if_pos (by omega), Int.toNat_natCast, if_neg (by omega)] at hq
      exact hq h S gg hM FrK.rf
  · have hq := fun h2 S2 => hq h2 S2 C
    rw [if_neg (by omega)] at hq
    exact hq h S gg hM FrK.rf
end ROP
