/-! a road becomes another one -/
section BECOME
variable {r r2 : Nat} {h : mH} {Q : mV → mH → Prop} {R C : rw_}
theorem c0_become {c : Nat} (hP : RPc h r2 R c) (w : (R (75 + 10 * c) = 0 ∨ R (75 + 10 * c) = 1) ∧ (R (76 + 10 * c) = 0 ∨ R (76 + 10 * c) = 1)) (hq : ∀ h2, RPc h2 r R c → (∀ k r3 i s, ¬ (k = 5 ∧ r3 = r ∧ i = c) → h2.1 k r3 i s = h.1 k r3 i s) → Q vU h2) : mC M0_become [.inr (.inr (some (5, r, c))), .inr (.inr (some (5, r2, c)))] h Q := by
  obtain ⟨c0, c1, c2, c3, c4, c5, c6, c7, c8, c9⟩ := hP
  refine w0_become ?_
  rw [c0, c1, c2, c3, c4, c5, c6, c7, c8, c9]
  refine ⟨z_01 w.1, z_01 w.2, hq _ ?_ (fun k r3 i s n => ?_)⟩
  · unfold RPc
    simp [pI]
  · have e : ∀ {g : mH} {j : Nat} {x : Int32}, (pI g 5 r c j x).1 k r3 i s = g.1 k r3 i s := fun {g j x} => pI_ne (fun z => n ⟨z.1, z.2.2.1, z.2.2.2⟩)
    simp only [e]
theorem c2_become {l l2 : Nat} (hP : RPl h r2 R l) (w : R (15 + 10 * l) = 0 ∨ R (15 + 10 * l) = 1) (hq : ∀ h2, (∀ s, s < 9 → h2.1 6 r l2 s = h.1 6 r2 l s) → (∀ k r3 i s, ¬ (k = 6 ∧ r3 = r ∧ i = l2) → h2.1 k r3 i s = h.1 k r3 i s) → Q vU h2) : mC M2_become [.inr (.inr (some (6, r, l2))), .inr (.inr (some (6, r2, l)))] h Q := by
  have c5 := hP.2.2.2.2.2.1
  refine w2_become ?_
  refine ⟨by rw [c5]; exact z_01 w, hq _ (fun s hs => ?_) (fun k r3 i s n => ?_)⟩
  · rcases (by omega : s = 0 ∨ s = 1 ∨ s = 2 ∨ s = 3 ∨ s = 4 ∨ s = 5 ∨ s = 6 ∨ s = 7 ∨ s = 8) with rfl | rfl | rfl | rfl | rfl | rfl | rfl | rfl | rfl <;> simp [pI]
  · have e : ∀ {g : mH} {j : Nat} {x : Int32}, (pI g 6 r l2 j x).1 k r3 i s = g.1 k r3 i s := fun {g j x} => pI_ne (fun z => n ⟨z.1, z.2.2.1, z.2.2.2⟩)
    simp only [e]
theorem RPl.copy {h h2 : mH} {l : Nat} (hP : RPl h r2 R l) (e : ∀ s, s < 9 → h2.1 6 r l s = h.1 6 r2 l s) : RPl h2 r R l := by
  unfold RPl at *
  rw [e 0 (by omega), e 1 (by omega), e 2 (by omega), e 3 (by omega), e 4 (by omega), e 5 (by omega), e 6 (by omega), e 7 (by omega), e 8 (by omega)]
  exact hP
theorem c4_become (hr : r ≠ r2) (hr1 : r ≠ 11) (hP : RP h r2 R C) (hW : WF R) (hq : ∀ h2, RP h2 r R C → FrR r h h2 → Q vU h2) : mC M4_become [.inr (.inr (some (0, r, 0))), .inr (.inr (some (0, r2, 0)))] h Q := by
  have hb := hW.c
  have hl := hW.l
  -- the cells
  have cells : ∀ (n k : Nat) (g : mH), k + n = 80 → RPs g r R → (∀ c : Nat, (c : Int) < R 4 → RPc g r R c) → (∀ l : Nat, (l : Int) < R 3 → RPl g r R l) → (∀ j, j < k → g.1 3 r 0 j = zI (C j)) → RP g r2 R C → FrR r h g → mE M4_become 130 [vR 0 r 0, vR 0 r2 0, vI (zI k), vU, vU] [] g Q := by
    intro n
    induction n with
    | zero =>
      intro k g hk a1 a2 a3 a4 a5 hF
      refine w4_become_130 ?_
      simp (disch := omega) only [z_lit, z_le]
      rw [Nat.add_zero] at hk
      subst hk
      exact ⟨fun _ => hq g ⟨a1, a2, a3, a4⟩ hF, fun _ => by omega⟩
    | succ n ih =>
      intro k g hk a1 a2 a3 a4 a5 hF
      refine w4_become_130 ?_
      simp (disch := omega) only [z_lit, z_le, z_add, z_clamp, Int.toNat_natCast]
      refine ⟨fun _ => by omega, fun _ => ⟨fun _ => by omega, fun _ => ⟨z_in (by omega) (by omega) (by omega), z_in (by omega) (by omega) (by omega), ?_⟩⟩⟩
      rw [a5.2.2.2 k (by omega)]
      have ne : ∀ k2 r3 i s, ¬ (k2 = 3 ∧ r3 = r) → (pI g 3 r 0 k (zI (C k))).1 k2 r3 i s = g.1 k2 r3 i s := fun k2 r3 i s n => pI_ne (fun z => n ⟨z.1, z.2.2.1⟩)
      refine ih (k + 1) _ (by omega) (a1.cong (fun s => ne 0 r 0 s (by omega)) (fun _ _ => rfl)) (fun c hc => (a2 c hc).cong (fun s => ne 5 r c s (by omega)) (fun _ _ _ => rfl)) (fun l hl => (a3 l hl).cong (fun s => ne 6 r l s (by omega)) (fun _ _ _ => rfl)) (fun j hj => ?_) (a5.otherRoad (FrR.put (k := 3) (by omega)) (by omega)) (hF.tr (FrR.put (Or.inr (Or.inl rfl))))
      by_cases q : j = k
      · rw [q, pI_at]
      · rw [pI_ne (fun z => q z.2.1)]; exact a4 j (by omega)
  have loops : ∀ (n l : Nat) (g : mH), l + n = (R 3).toNat → RPs g r R → (∀ c : Nat, (c : Int) < R 4 → RPc g r R c) → (∀ l2 : Nat, l2 < l → RPl g r R l2) → RP g r2 R C → FrR r h g → mE M4_become 86 [vR 0 r 0, vR 0 r2 0, vI (zI l), vU, vU] [] g Q := by
    intro n
    induction n with
    | zero =>
      intro l g hk a1 a2 a3 a5 hF
      refine w4_become_86 ?_
      rw [a1.2.1]
      simp (disch := omega) only [z_le]
      exact ⟨fun _ => cells 80 0 g (by omega) a1 a2 (fun l2 h2 => a3 l2 (by omega)) (fun j hj => by omega) a5 hF, fun _ => by omega⟩
    | succ n ih =>
      intro l g hk a1 a2 a3 a5 hF
      have hl3 : (l : Int) < R 3 := by omega
      have w := hW.2.2.1 l hl3
      unfold WFl at w
      refine w4_become_86 ?_
      rw [a1.2.1]
      simp (disch := omega) only [z_le]
      refine ⟨fun _ => by omega, fun _ => ?_⟩
      refine c4_loopN a1.2.1 hl3 (by omega) ?_
      refine c4_loopN a5.l3 hl3 (by omega) ?_
      refine c2_become (RPl.of a5 hl3) w.2.2.2.2.2.2.2.2.2 (fun g2 e2 n2 => ?_)
      have hF2 : FrR r g g2 := fun k r3 i s n => n2 k r3 i s (by omega)
      have e := ih (l + 1) g2 (by omega) (a1.cong (fun s => n2 0 r 0 s (by omega)) (fun _ _ => rfl)) (fun c hc => (a2 c hc).cong (fun s => n2 5 r c s (by omega)) (fun _ _ _ => rfl)) (fun l2 h2 => ?_) (a5.otherRoad hF2 (by omega)) (hF.tr hF2)
      · rw [show ((l + 1 : Nat) : Int) = (l : Int) + 1 by omega, ← z_add, ← z1] at e
        exact e
      · by_cases q : l2 = l
        · rw [q]; exact (RPl.of a5 hl3).copy e2
        · exact (a3 l2 (by omega)).cong (fun s => n2 6 r l2 s (by omega)) (fun _ _ _ => rfl)
  have cars : ∀ (n c : Nat) (g : mH), c + n = (R 4).toNat → RPs g r R → (∀ c2 : Nat, c2 < c → RPc g r R c2) → RP g r2 R C → FrR r h g → mE M4_become 42 [vR 0 r 0, vR 0 r2 0, vI (zI c), vU, vU] [] g Q := by
    intro n
    induction n with
    | zero =>
      intro c g hk a1 a2 a5 hF
      refine w4_become_42 ?_
      rw [a1.1]
      simp (disch := omega) only [z_le]
      refine ⟨fun _ => ?_, fun _ => by omega⟩
      exact loops (R 3).toNat 0 g (by omega) a1 (fun c2 h2 => a2 c2 (by omega)) (fun l2 h2 => by omega) a5 hF
    | succ n ih =>
      intro c g hk a1 a2 a5 hF
      have hc4 : (c : Int) < R 4 := by omega
      have w := hW.2.1 c hc4
      unfold WFc at w
      refine w4_become_42 ?_
      rw [a1.1]
      simp (disch := omega) only [z_le]
      refine ⟨fun _ => by omega, fun _ => ?_⟩
      refine c4_carN a1.1 hc4 (by omega) ?_
      refine c4_carN a5.c4 hc4 (by omega) ?_
      refine c0_become (RPc.of a5 hc4) ⟨w.2.2.2.2.2.2.2.2.2.1, w.2.2.2.2.2.2.2.2.2.2.1⟩ (fun g2 e2 n2 => ?_)
      have hF2 : FrR r g g2 := fun k r3 i s n => n2 k r3 i s (by omega)
      have e := ih (c + 1) g2 (by omega) (a1.cong (fun s => n2 0 r 0 s (by omega)) (fun _ _ => rfl)) (fun c2 h2 => ?_) (a5.otherRoad hF2 (by omega)) (hF.tr hF2)
      · rw [show ((c + 1 : Nat) : Int) = (c : Int) + 1 by omega, ← z_add, ← z1] at e
        exact e
      · by_cases q : c2 = c
        · rw [q]; exact e2
        · exact (a2 c2 (by omega)).cong (fun s => n2 5 r c2 s (by omega)) (fun _ _ _ => rfl)
  refine w4_become ?_
  obtain ⟨b1, b2, b3, b4, b5⟩ := hP.1
  rw [b1, b2, b3, b4, b5]
  have fr : FrR r h (pI (pI (pI (pI (pI h 0 r 0 6 (zI (R 2))) 0 r 0 7 (zI (R 0))) 0 r 0 8 (zI (R 1))) 0 r 0 4 (zI (R 4))) 0 r 0 5 (zI (R 3))) := (FrR.put (Or.inl rfl)).tr ((FrR.put (Or.inl rfl)).tr ((FrR.put (Or.inl rfl)).tr ((FrR.put (Or.inl rfl)).tr (FrR.put (Or.inl rfl)))))
  refine cars (R 4).toNat 0 _ (by omega) ?_ (fun c2 h2 => by omega) (hP.otherRoad fr (by omega)) fr
  unfold RPs
  simp [pI]
end BECOME
