/-! the reference: put, wipe, fault -/
def Kp7 (S S2 : Nat → rw_) : Prop := (∀ k, k ≠ 20 → k ≠ 26 → S2 k = S k) ∧ ∀ j, j ≠ 7 → S2 20 j = S 20 j
theorem Kp7.rf {S : Nat → rw_} : Kp7 S S := ⟨fun _ _ _ => rfl, fun _ _ => rfl⟩
section RPUT
variable {h : mH} {Q : mV → mH → Prop} {R C : rw_} {S : Nat → rw_} {P : rw_} {n : Nat}
theorem c7_put {N : Nat} (hN : N < 2 ^ 64) (hS : SP S P n) (hM : MR h S R C) (hq0 : ¬ ptY n (nbF N 8 0) → Q (vI (zI (ptA n (nbF N 8 0)))) h) (hq1 : ptY n (nbF N 8 0) → ∀ h2 S2, SP S2 (ptP P n N (nbF N 8 0)) (n + nbF N 8 0) → Kp7 S S2 → MR h2 S2 R C → FrC h h2 → Q (vI (zI (ptA n (nbF N 8 0)))) h2) : mC M7_put [.inr (.inr (some (20, 0, 0))), .inr (.inl (lF N))] h Q := by
  obtain ⟨s1, s2, s3, s4⟩ := hS
  obtain ⟨b1, b2⟩ := nb_ok (N := N) 8 0 rfl (fun j z => by omega)
  have i7 : h.1 20 0 0 7 = zI n := by rw [hM.i 7 (by decide), s2]
  refine w7_put ?_
  -- the second loop
  have store : ∀ m, nbF N 8 0 = m → m ≠ 0 → n + m ≤ 60 → mE M7_put 85 [vR 20 0 0, vU, vU, vI (zI m), vL (lF N), vU, vI (zI ((m : Int) - 1))] [] h Q := by
    intro m hm m0 m60
    rw [hm] at hq1 b1 b2
    unfold ptY ptA at hq1
    rw [if_neg m0, if_pos m60] at hq1
    have hq1 := hq1 ⟨m0, m60⟩
    have loop : ∀ (j i : Nat) (g : mH), j + i = m → MR g (sU S 26 (fun x => if n + i ≤ x ∧ x < n + m then ptP P n N m x else S 26 x)) R C → FrC h g → mE M7_put 85 [vR 20 0 0, vU, vU, vI (zI m), vL (lF (N / 256 ^ j)), vU, vI (zI ((i : Int) - 1))] [] g Q := by
      intro j i
      induction i generalizing j with
      | zero =>
        intro g hj hMg hF
        have g7 : g.1 20 0 0 7 = zI n := by rw [hMg.i 7 (by decide), sU_ne (by decide), s2]
        refine w7_put_85 ?_
        rw [g7, z0, z_add, z_lt (by omega) (by omega), show (n : Int) + (m : Int) = ((n + m : Nat) : Int) by omega]
        refine ⟨fun _ => ?_, fun z => by omega⟩
        refine hq1 _ _ ⟨m60, ?_, fun x hx => ?_, fun x hx => ?_⟩ ⟨fun k h1 h2 => ?_, fun j2 h1 => ?_⟩ (hMg.oth (k := 20) (j := 7) (by decide) (by decide)) (hF.tr (FrC.put (by omega)))
        · rw [sU_at, up_at]
        · rw [sU_ne (by decide), sU_at]
          by_cases y : n ≤ x
          · rw [if_pos (by omega)]
          · rw [if_neg (by omega), s3 x (by omega)]
            unfold ptP
            rw [if_neg (by omega)]
        · unfold ptP
          by_cases y : n ≤ x ∧ x < n + m
          · rw [if_pos y]; exact b2 _ (by omega)
          · rw [if_neg y]; exact s4 x (by omega)
        · rw [sU_ne h1, sU_ne h2]
        · rw [sU_at, up_ne h1, sU_ne (by decide)]
      | succ i ih =>
        intro g hj hMg hF
        have hd := dv_lt (m := j) hN
        have g7 : g.1 20 0 0 7 = zI n := by rw [hMg.i 7 (by decide), sU_ne (by decide), s2]
        refine w7_put_85 ?_
        rw [show ((i + 1 : Nat) : Int) - 1 = (i : Int) by omega, l_and hd, l_i32 (by omega), l_shr hd, dv_s, g7, z0, z1, z_add, z_add, z_lt (by omega) (by omega), show (n : Int) + (i : Int) = ((n + i : Nat) : Int) by omega, z_clamp (by omega) (by omega), Int.toNat_natCast]
        refine ⟨fun z => by omega, fun _ => ⟨z_in (by omega) (by omega) (by omega), ?_⟩⟩
        rw [show -(zI 1) = zI (-1) from by decide, z_add, show (i : Int) + -1 = (i : Int) - 1 by omega]
        refine ih (j + 1) _ (by omega) (MR.eqS (hMg.oth (k := 26) (j := n + i) (by decide) (by decide)) (fun k2 s _ _ _ _ _ _ => ?_)) (hF.tr (FrC.put (by omega)))
        by_cases y : k2 = 26
        · subst y
          rw [sU_at, sU_at, sU_at]
          by_cases z : s = n + i
          · rw [z, if_pos (by omega), up_at]
            unfold ptP byF
            rw [if_pos (by omega), show m - 1 - (n + i - n) = j by omega]
          · rw [up_ne z]
            by_cases z2 : n + i ≤ s ∧ s < n + m
            · rw [if_pos z2, if_pos (by omega)]
            · rw [if_neg z2, if_neg (by omega)]
        · rw [sU_ne y, sU_ne y, sU_ne y]
    have e0 := loop 0 m h (Nat.zero_add _) (hM.eqS (fun k2 s _ _ _ _ _ _ => by
      by_cases y : k2 = 26
      · subst y
        rw [sU_at, if_neg (by omega)]
      · rw [sU_ne y])) FrC.rf
    rw [Nat.pow_zero, Nat.div_one] at e0
    exact e0
  -- the end of counting
  have ends : ∀ m, m ≤ 8 → nbF N 8 0 = m → (¬ zI (m : Int) = zI 0 → (((h.1 20 0 0 7) + zI (m : Int)) ≤ 60 → mE M7_put 85 [vR 20 0 0, vU, vU, vI (zI (m : Int)), vL (lF N), vU, vI (zI (m : Int) - zI 1)] [] h Q) ∧ (¬ ((h.1 20 0 0 7) + zI (m : Int)) ≤ 60 → Q (vI (zI (-4))) h)) ∧ (zI (m : Int) = zI 0 → Q (vI (zI (-2))) h) := by
    intro m m8 hm
    rw [i7, zs.2.2.2.2.2.1, z_add, z_sub, z_le (by omega) (by omega), z_eq (by omega) (by omega)]
    rw [hm] at hq0
    unfold ptY ptA at hq0
    refine ⟨fun q => ⟨fun q2 => store m hm (by omega) (by omega), fun q2 => ?_⟩, fun q => ?_⟩
    · rw [if_neg (by omega), if_neg (by omega)] at hq0
      exact hq0 (by omega)
    · rw [if_pos (by omega)] at hq0
      exact hq0 (by omega)
  have badv : nbF N 8 0 = 0 → Q (vI (zI (-2))) h := fun e => by
    rw [e] at hq0
    unfold ptY ptA at hq0
    rw [if_pos rfl] at hq0
    exact hq0 (by omega)
  have loop : ∀ (f m : Nat), f + m = 8 → nbF N f m = nbF N 8 0 → mE M7_put 5 [vR 20 0 0, vL (lF N), vU, vI (zI m), vL (lF (N / 256 ^ m)), vU, vU] [] h Q := by
    intro f
    induction f with
    | zero =>
      intro m hm e
      have m8 : m = 8 := by omega
      subst m8
      have e8 : nbF N 0 8 = 8 := rfl
      refine w7_put_5 ?_
      rw [l_and (dv_lt hN), l_cmp0 (by omega), l_cmp0 (dv_lt hN), dv_8 hN, zm2, zm4, z0, z1]
      exact ⟨fun _ => ⟨fun z => absurd rfl z, fun _ => ends 8 (Nat.le_refl 8) (by rw [← e, e8])⟩, fun z => absurd (by decide) z⟩
    | succ f ih =>
      intro m hm e
      rw [nb_s] at e
      have hd := dv_lt (m := m) hN
      refine w7_put_5 ?_
      rw [l_and hd, l_cmp0 hd, l_cmp0 (by omega), l_i32 (by omega), l_shr hd, dv_s, zm2, zm4, z0, z1, zs.2.2.2.2.2.2.2.2.2.1, zs.2.2.2.2.2.2.2.2.2.2.1]
      refine ⟨fun q => ⟨fun q2 => ?_, fun q2 => ?_⟩, fun q => ?_⟩
      · rw [if_pos q, if_neg q2] at e; exact badv e.symm
      · rw [if_pos q, if_pos q2] at e
        exact ends m (by omega) e.symm
      · rw [if_neg q] at e
        refine c7_in (by omega) (by omega) (by omega) ?_
        show (¬ zI _ = zI 0 → mE M7_put 5 [vR 20 0 0, vL (lF N), vU, vI (zI (m : Int) + zI 1), vL (lF (N / 256 ^ (m + 1))), vU, vU] [] h Q) ∧ (zI _ = zI 0 → Q (vI (zI (-2))) h)
        rw [zb_ne0, z_add]
        refine ⟨fun q2 => ?_, fun q2 => ?_⟩
        · have q2 := Decidable.not_not.mp q2
          rw [if_pos (by omega)] at e
          exact ih (m + 1) (by omega) e
        · rw [if_neg (by omega)] at e; exact badv e.symm
  have e0 := loop 8 0 rfl rfl
  rw [Nat.pow_zero, Nat.div_one] at e0
  exact e0
theorem c7_wipe (hS : SP S P n) (hM : MR h S R C) (hq : ∀ h2 S2, SP S2 P 0 → Kp7 S S2 → MR h2 S2 R C → FrC h h2 → Q (vI (zI n)) h2) : mC M7_wipe [.inr (.inr (some (20, 0, 0)))] h Q := by
  refine w7_wipe ?_
  rw [hM.i 7 (by decide), hS.2.1, z0]
  refine hq _ _ ⟨by omega, ?_, fun i hi => absurd hi (Nat.not_lt_zero _), fun i hi => absurd hi (Nat.not_lt_zero _)⟩ ⟨fun k h1 h2 => sU_ne h1, fun j hj => ?_⟩ (hM.oth (k := 20) (j := 7) (by decide) (by decide)) (FrC.put (by omega))
  · rw [sU_at, up_at]; rfl
  · rw [sU_at, up_ne hj]
theorem c7_fault (hS : SP S P n) (hM : MR h S R C) (hq : ∀ h2 S2, Kq S S2 → MR h2 S2 R C → FrC h h2 → Q (vI (zI (ffF P n n 0 0))) h2) : mC M7_fault [.inr (.inr (some (20, 0, 0)))] h Q :=
  w7_fault (c7_faultOf hS hM (fun h2 S2 k hM2 hF _ => hq h2 S2 k hM2 hF))
end RPUT
section CPUT
variable {h : mH} {Q : mV → mH → Prop} {P : rw_} {n : Nat}
theorem c3_empty (hC : CP h P n) (hq : ∀ h2, CP h2 P 0 → (∀ k r i s, k ≠ 9 → h2.1 k r i s = h.1 k r i s) → Q (vI (zI n)) h2) : mC M3_empty [.inr (.inr (some (9, 0, 0)))] h Q := by
  refine w3_empty ?_
  rw [hC.2.1, z0]
  refine hq _ ⟨by omega, ?_, fun i hi => absurd hi (Nat.not_lt_zero _), fun i hi => absurd hi (Nat.not_lt_zero _)⟩ (fun k r i s hk => pI_ne (fun z => hk z.1))
  rw [pI_at]; rfl
end CPUT
