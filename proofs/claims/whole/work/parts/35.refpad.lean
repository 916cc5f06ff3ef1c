/-! the reference: the reading of orders -/
def pS (S : Nat → rw_) (r p w : Int) (O : rw_) : Nat → rw_ := sU (sU S 29 O) 20 (up (up (up (S 20) 12 r) 13 p) 14 w)
/-- all but the reader's own numbers is as it was -/
def Kq (S S2 : Nat → rw_) : Prop := (∀ k, k ≠ 20 → k ≠ 29 → S2 k = S k) ∧ ∀ j, j < 12 → S2 20 j = S 20 j
/-- the reference's pad -/
def SP (S : Nat → rw_) (P : rw_) (n : Nat) : Prop := n ≤ 60 ∧ S 20 7 = n ∧ (∀ i, i < n → S 26 i = P i) ∧ ∀ i, i < n → 33 ≤ P i ∧ P i ≤ 126
def ffp (P : rw_) (n p : Nat) (d : Int) : Int := ffF P n (n - p) p d
def isD (x : Int) : Prop := 0 ≤ x ∧ x ≤ 9
def enF (P : rw_) (n p : Nat) : Nat := if sgF P n p = 99 then p + 5 else if dgF P n (p + 1) ≠ 0 ∧ 0 ≤ dgF P n (p + 2) ∧ dgF P n (p + 2) ≤ 9 then p + 3 else p + 2
def nuE (P : rw_) (n p : Nat) : Int := if dgF P n (p + 1) ≠ 0 ∧ 0 ≤ dgF P n (p + 2) ∧ dgF P n (p + 2) ≤ 9 then 10 * dgF P n (p + 1) + dgF P n (p + 2) else dgF P n (p + 1)
/-- a well formed order at a place -/
def gdF (P : rw_) (n p : Nat) : Prop := (sgF P n p = 99 ∧ (0 ≤ dgF P n (p + 1) ∧ dgF P n (p + 1) ≤ 1) ∧ (1 ≤ dgF P n (p + 2) ∧ dgF P n (p + 2) ≤ 4) ∧ (1 ≤ dgF P n (p + 3) ∧ dgF P n (p + 3) ≤ 4) ∧ (1 ≤ dgF P n (p + 4) ∧ dgF P n (p + 4) ≤ 9)) ∨ ((sgF P n p = 119 ∨ sgF P n p = 116) ∧ 0 ≤ dgF P n (p + 1) ∧ dgF P n (p + 1) ≤ 9)
/-- what the reference keeps of the order at a place -/
def agF (P : rw_) (n p : Nat) (O : rw_) (k : Nat) : Prop := O (5 * k) = sgF P n p ∧ (sgF P n p = 99 → O (5 * k + 1) = dgF P n (p + 1) ∧ O (5 * k + 2) = dgF P n (p + 2) ∧ O (5 * k + 3) = dgF P n (p + 3) ∧ O (5 * k + 4) = dgF P n (p + 4)) ∧ (sgF P n p ≠ 99 → O (5 * k + 1) = nuE P n p)
theorem Kq.rf {S : Nat → rw_} : Kq S S := ⟨fun _ _ _ => rfl, fun _ _ => rfl⟩
theorem pS_kq {S : Nat → rw_} {r p w : Int} {O : rw_} : Kq S (pS S r p w O) := ⟨fun k h1 h2 => by unfold pS; rw [sU_ne h1, sU_ne h2], fun j hj => by unfold pS; rw [sU_at, up_ne (by omega), up_ne (by omega), up_ne (by omega)]⟩
theorem pS_12 {S : Nat → rw_} {r p w : Int} {O : rw_} : pS S r p w O 20 12 = r := by unfold pS; rw [sU_at, up_ne (by decide), up_ne (by decide), up_at]
theorem pS_13 {S : Nat → rw_} {r p w : Int} {O : rw_} : pS S r p w O 20 13 = p := by unfold pS; rw [sU_at, up_ne (by decide), up_at]
theorem pS_14 {S : Nat → rw_} {r p w : Int} {O : rw_} : pS S r p w O 20 14 = w := by unfold pS; rw [sU_at, up_at]
theorem pS_29 {S : Nat → rw_} {r p w : Int} {O : rw_} : pS S r p w O 29 = O := by unfold pS; rw [sU_ne (by decide), sU_at]
theorem SP.kq {S S2 : Nat → rw_} {P : rw_} {n : Nat} (s : SP S P n) (k : Kq S S2) : SP S2 P n := ⟨s.1, (k.2 7 (by omega)).trans s.2.1, fun i hi => by rw [k.1 26 (by decide) (by decide)]; exact s.2.2.1 i hi, s.2.2.2⟩
section RPAD
variable {h : mH} {Q : mV → mH → Prop} {R C : rw_} {S : Nat → rw_} {P : rw_} {n : Nat}
theorem ffp_s {p : Nat} {d : Int} (hp : p < n) (hd : dueF d (sgF P n p) ≠ -1) : ffp P n p d = ffp P n (p + 1) (dueF d (sgF P n p)) := by
  unfold ffp
  rw [show n - p = (n - (p + 1)) + 1 by omega, ff_s, if_neg hd]
theorem ffp_b {p : Nat} {d : Int} (hp : p ≤ n) (h6 : d ≠ 6) (h7 : d ≠ 7) (hd : dueF d (sgF P n p) = -1) : ffp P n p d = p := by
  unfold ffp
  by_cases q : p < n
  · rw [show n - p = (n - (p + 1)) + 1 by omega, ff_s, if_pos hd]
  · rw [show n - p = 0 by omega, ff_0, if_neg (by omega), show n = p by omega]
theorem pS_i {g : mH} {r p w : Int} {O : rw_} (hM : MR g (pS S r p w O) R C) : g.1 20 0 0 12 = zI r ∧ g.1 20 0 0 13 = zI p ∧ g.1 20 0 0 14 = zI w ∧ g.1 20 0 0 7 = zI (S 20 7) := by
  refine ⟨?_, ?_, ?_, ?_⟩
  · rw [hM.i 12 (by decide), pS_12]
  · rw [hM.i 13 (by decide), pS_13]
  · rw [hM.i 14 (by decide), pS_14]
  · rw [hM.i 7 (by decide), pS_kq.2 7 (by decide)]
theorem pS_p {g : mH} {r p w p2 : Int} {O : rw_} (hM : MR g (pS S r p w O) R C) : MR (pI g 20 0 0 13 (zI p2)) (pS S r p2 w O) R C := by
  refine (hM.oth (k := 20) (j := 13) (by decide) (by decide)).eqS (fun k s _ _ _ _ _ _ => ?_)
  unfold pS
  by_cases q : k = 20
  · subst q
    rw [sU_at, sU_at, sU_at]
    unfold up
    (repeat' split) <;> first | rfl | omega
  · rw [sU_ne q, sU_ne q, sU_ne q]
theorem pS_w {g : mH} {r p w w2 : Int} {O : rw_} (hM : MR g (pS S r p w O) R C) : MR (pI g 20 0 0 14 (zI w2)) (pS S r p w2 O) R C := by
  refine (hM.oth (k := 20) (j := 14) (by decide) (by decide)).eqS (fun k s _ _ _ _ _ _ => ?_)
  unfold pS
  by_cases q : k = 20
  · subst q
    rw [sU_at, sU_at, sU_at]
    unfold up
    (repeat' split) <;> first | rfl | omega
  · rw [sU_ne q, sU_ne q, sU_ne q]
theorem pS_r {g : mH} {r p w r2 : Int} {O : rw_} (hM : MR g (pS S r p w O) R C) : MR (pI g 20 0 0 12 (zI r2)) (pS S r2 p w O) R C := by
  refine (hM.oth (k := 20) (j := 12) (by decide) (by decide)).eqS (fun k s _ _ _ _ _ _ => ?_)
  unfold pS
  by_cases q : k = 20
  · subst q
    rw [sU_at, sU_at, sU_at]
    unfold up
    (repeat' split) <;> first | rfl | omega
  · rw [sU_ne q, sU_ne q, sU_ne q]
theorem pS_o {g : mH} {r p w v : Int} {O : rw_} {j : Nat} (hM : MR g (pS S r p w O) R C) : MR (pI g 29 0 0 j (zI v)) (pS S r p w (up O j v)) R C := by
  refine (hM.oth (k := 29) (j := j) (by decide) (by decide)).eqS (fun k s _ _ _ _ _ _ => ?_)
  unfold pS
  by_cases q : k = 20
  · subst q
    rw [sU_at, sU_ne (by decide), sU_at]
  · rw [sU_ne q]
    by_cases q2 : k = 29
    · subst q2
      rw [sU_at, sU_at, sU_ne (by decide), sU_at]
    · rw [sU_ne q2, sU_ne q2, sU_ne q, sU_ne q2]
theorem c7_sign {g : mH} {r w : Int} {p : Nat} {O : rw_} (hp : p < 1000) (hS : SP S P n) (hM : MR g (pS S r p w O) R C) (hq : Q (vI (zI (sgF P n p))) g) : mC M7_sign [.inr (.inr (some (20, 0, 0)))] g Q := by
  obtain ⟨i1, i2, i3, i4⟩ := pS_i hM
  obtain ⟨s1, s2, s3, s4⟩ := hS
  refine w7_sign ?_
  unfold sgF at hq
  rw [i2, i4, s2, z0, z_le (by omega) (by omega)]
  refine ⟨fun q => ?_, fun q => ⟨z_in (by omega) (by omega) (by omega), ?_⟩⟩
  · rw [if_neg (by omega)] at hq; exact hq
  · rw [if_pos (by omega)] at hq
    rw [z_clamp (by omega) (by omega), Int.toNat_natCast]
    have e := hM.2.2 26 p (by decide) (by decide) (by decide) (by decide) (by decide) (show p < 60 by omega)
    rw [pS_kq.1 26 (by decide) (by decide), s3 p (by omega)] at e
    rw [e]
    exact hq
theorem c7_one {g : mH} {a1 a2 : Int32} {r w lo hi : Int} {p : Nat} {O : rw_} (e1 : a1 = zI lo) (e2 : a2 = zI hi) (hlo : i32 lo) (hhi : i32 hi) (hp : p < 1000) (hw : w = 0 ∨ w = 1) (hS : SP S P n) (hM : MR g (pS S r p w O) R C) (hq : ∀ h2 (p2 : Nat) (w2 : Int), ((w = 0 ∧ lo ≤ dgF P n p ∧ dgF P n p ≤ hi) ∧ p2 = p + 1 ∧ w2 = 0) ∨ (¬ (w = 0 ∧ lo ≤ dgF P n p ∧ dgF P n p ≤ hi) ∧ p2 = p ∧ w2 = 1) → MR h2 (pS S r p2 w2 O) R C → FrC g h2 → Q (vI (zI (dgF P n p))) h2) : mC M7_one [.inr (.inr (some (20, 0, 0))), .inl a1, .inl a2] g Q := by
  subst e1 e2
  obtain ⟨i1, i2, i3, i4⟩ := pS_i hM
  have r0 := sg_rng hS.2.2.2 p
  refine w7_one (c7_sign hp hS hM ?_)
  show (¬ (g.1 20 0 0 14) = 0 → Q (vI (zI _ - 48)) (pI (pI g 20 0 0 14 1) 20 0 0 13 ((g.1 20 0 0 13) + 0))) ∧ ((g.1 20 0 0 14) = 0 → mC M7_in [.inl (zI _ - 48), .inl (zI lo), .inl (zI hi)] g (kI (fun x732 h731 => (¬ x732 = 0 → Q (vI (zI _ - 48)) (pI (pI h731 20 0 0 14 0) 20 0 0 13 ((h731.1 20 0 0 13) + 1))) ∧ (x732 = 0 → Q (vI (zI _ - 48)) (pI (pI h731 20 0 0 14 1) 20 0 0 13 ((h731.1 20 0 0 13) + 0))))))
  have bad : ¬ (w = 0 ∧ lo ≤ dgF P n p ∧ dgF P n p ≤ hi) → Q (vI (zI (sgF P n p) - 48)) (pI (pI g 20 0 0 14 1) 20 0 0 13 ((g.1 20 0 0 13) + 0)) := fun nn => by
    rw [i2, z0, z1, z_add, Int.add_zero, zs.1, z_sub]
    exact hq _ p 1 (Or.inr ⟨nn, rfl, rfl⟩) (pS_p (pS_w hM)) ((FrC.put (by omega)).tr (FrC.put (by omega)))
  rw [i3, z0, z_eq (by omega) (by omega)]
  rw [z0] at bad
  refine ⟨fun q => bad (fun z => q z.1), fun q => ?_⟩
  rw [zs.1, z_sub]
  rw [zs.1, z_sub] at bad
  refine c7_in (by omega) hlo hhi ?_
  show (¬ zI _ = zI 0 → Q (vI (zI _)) (pI (pI g 20 0 0 14 (zI 0)) 20 0 0 13 ((g.1 20 0 0 13) + 1))) ∧ (zI _ = zI 0 → Q (vI (zI _)) (pI (pI g 20 0 0 14 1) 20 0 0 13 ((g.1 20 0 0 13) + zI 0)))
  rw [zb_ne0]
  refine ⟨fun q2 => ?_, fun q2 => bad (fun z => q2 z.2)⟩
  rw [i2, z1, z_add]
  exact hq _ (p + 1) 0 (Or.inl ⟨⟨q, Decidable.not_not.mp q2⟩, rfl, rfl⟩) (pS_p (pS_w hM)) ((FrC.put (by omega)).tr (FrC.put (by omega)))
theorem c7_number {g : mH} {r : Int} {p : Nat} {O : rw_} (hp : p < 900) (hS : SP S P n) (hM : MR g (pS S r p 0 O) R C)
    (hq0 : ¬ (0 ≤ dgF P n p ∧ dgF P n p ≤ 9) → ∀ h2, MR h2 (pS S r p 1 O) R C → FrC g h2 → Q (vI (zI (dgF P n p))) h2)
    (hq1 : (0 ≤ dgF P n p ∧ dgF P n p ≤ 9) → ¬ (dgF P n p ≠ 0 ∧ 0 ≤ dgF P n (p + 1) ∧ dgF P n (p + 1) ≤ 9) → ∀ h2, MR h2 (pS S r ((p + 1 : Nat) : Int) 0 O) R C → FrC g h2 → Q (vI (zI (dgF P n p))) h2)
    (hq2 : (0 ≤ dgF P n p ∧ dgF P n p ≤ 9) → (dgF P n p ≠ 0 ∧ 0 ≤ dgF P n (p + 1) ∧ dgF P n (p + 1) ≤ 9) → ∀ h2, MR h2 (pS S r ((p + 2 : Nat) : Int) 0 O) R C → FrC g h2 → Q (vI (zI (10 * dgF P n p + dgF P n (p + 1)))) h2) : mC M7_number [.inr (.inr (some (20, 0, 0)))] g Q := by
  have r0 := sg_rng hS.2.2.2 p
  have r1 := sg_rng hS.2.2.2 (p + 1)
  have r2 := sg_rng hS.2.2.2 (p + 2)
  have ed : ∀ i, dgF P n i = sgF P n i - 48 := fun _ => rfl
  have e0 := ed p
  have e1 := ed (p + 1)
  have e2 := ed (p + 2)
  refine w7_number (c7_one (by decide : (0 : Int32) = zI 0) zc.2.2.2.2.2.2.2.1 (by omega) (by omega) (by omega) (Or.inl rfl) hS hM (fun h1 p2 w2 st hM1 hF1 => ?_))
  show mE M7_number 8 [vR 20 0 0, vI (zI (dgF P n p))] [] h1 Q
  obtain ⟨i1, i2, i3, i4⟩ := pS_i hM1
  rcases st with ⟨⟨_, k1, k2⟩, rfl, rfl⟩ | ⟨k1, rfl, rfl⟩
  · refine w7_number_8 ?_
    rw [i3, z0, z_eq (by omega) (by omega), z_le (by omega) (by omega)]
    refine ⟨fun z => absurd rfl z, fun _ => ⟨fun q => hq1 ⟨k1, k2⟩ (by omega) h1 hM1 hF1, fun q => c7_sign (by omega) hS hM1 ?_⟩⟩
    show mC _ _ h1 (kI (fun x738 h737 => (x738 = zI 0 → Q (vI (zI (dgF P n p))) h737) ∧ (¬ x738 = zI 0 → mC M7_sign [.inr (.inr (some (20, 0, 0)))] h737 (kI (fun x740 h739 => (99 < (((10 * zI (dgF P n p)) + x740) - 48) → Q (vI (zI (dgF P n p))) h739) ∧ (¬ 99 < (((10 * zI (dgF P n p)) + x740) - 48) → mC M7_sign [.inr (.inr (some (20, 0, 0)))] h739 (kI (fun x742 h741 => mE M7_number 8 [vR 20 0 0, vI (((10 * zI (dgF P n p)) + x742) - 48)] [] (pI h741 20 0 0 13 ((h741.1 20 0 0 13) + 1)) Q))))))))
    rw [zs.1, zs.2.2.2.1]
    refine c7_in (by omega) (by omega) (by omega) ?_
    show (zI _ = zI 0 → Q (vI (zI (dgF P n p))) h1) ∧ (¬ zI _ = zI 0 → mC M7_sign [.inr (.inr (some (20, 0, 0)))] h1 (kI (fun x740 h739 => (99 < (((10 * zI (dgF P n p)) + x740) - zI 48) → Q (vI (zI (dgF P n p))) h739) ∧ (¬ 99 < (((10 * zI (dgF P n p)) + x740) - zI 48) → mC M7_sign [.inr (.inr (some (20, 0, 0)))] h739 (kI (fun x742 h741 => mE M7_number 8 [vR 20 0 0, vI (((10 * zI (dgF P n p)) + x742) - zI 48)] [] (pI h741 20 0 0 13 ((h741.1 20 0 0 13) + 1)) Q))))))
    rw [zb_ne0]
    refine ⟨fun q2 => hq1 ⟨k1, k2⟩ (by omega) h1 hM1 hF1, fun q2 => c7_sign (by omega) hS hM1 ?_⟩
    have q2 := Decidable.not_not.mp q2
    show (99 < (((10 * zI (dgF P n p)) + zI _) - zI 48) → Q (vI (zI (dgF P n p))) h1) ∧ (¬ 99 < (((10 * zI (dgF P n p)) + zI _) - zI 48) → mC M7_sign [.inr (.inr (some (20, 0, 0)))] h1 (kI (fun x742 h741 => mE M7_number 8 [vR 20 0 0, vI (((10 * zI (dgF P n p)) + x742) - zI 48)] [] (pI h741 20 0 0 13 ((h741.1 20 0 0 13) + 1)) Q)))
    rw [z10, zs.2.2.2.2.2.2.1, z_mul, z_add, z_sub, z_lt (by omega) (by omega)]
    refine ⟨fun q3 => by omega, fun q3 => c7_sign (by omega) hS hM1 ?_⟩
    show mE M7_number 8 [vR 20 0 0, vI ((zI (10 * dgF P n p) + zI _) - zI 48)] [] (pI h1 20 0 0 13 ((h1.1 20 0 0 13) + 1)) Q
    rw [z_add, z_sub, i2, z1, z_add, show 10 * dgF P n p + sgF P n (p + 1) - 48 = 10 * dgF P n p + dgF P n (p + 1) by omega, show ((p + 1 : Nat) : Int) + 1 = ((p + 2 : Nat) : Int) by omega]
    have hM2 : MR (pI h1 20 0 0 13 (zI ((p + 2 : Nat) : Int))) (pS S r ((p + 2 : Nat) : Int) 0 O) R C := pS_p hM1
    have hF2 : FrC g (pI h1 20 0 0 13 (zI ((p + 2 : Nat) : Int))) := hF1.tr (FrC.put (by omega))
    obtain ⟨j1, j2, j3, j4⟩ := pS_i hM2
    have fin := hq2 ⟨k1, k2⟩ ⟨by omega, by omega, by omega⟩ _ hM2 hF2
    refine w7_number_8 ?_
    rw [j3, z0, z_eq (by omega) (by omega), z_le (by omega) (by omega)]
    refine ⟨fun z => absurd rfl z, fun _ => ⟨fun q => fin, fun q => c7_sign (by omega) hS hM2 ?_⟩⟩
    show mC _ _ _ (kI (fun x738 h737 => (x738 = zI 0 → Q (vI (zI (10 * dgF P n p + dgF P n (p + 1)))) h737) ∧ (¬ x738 = zI 0 → mC M7_sign [.inr (.inr (some (20, 0, 0)))] h737 (kI (fun x740 h739 => (99 < (((10 * zI (10 * dgF P n p + dgF P n (p + 1))) + x740) - 48) → Q (vI (zI (10 * dgF P n p + dgF P n (p + 1)))) h739) ∧ (¬ 99 < (((10 * zI (10 * dgF P n p + dgF P n (p + 1))) + x740) - 48) → mC M7_sign [.inr (.inr (some (20, 0, 0)))] h739 (kI (fun x742 h741 => mE M7_number 8 [vR 20 0 0, vI (((10 * zI (10 * dgF P n p + dgF P n (p + 1))) + x742) - 48)] [] (pI h741 20 0 0 13 ((h741.1 20 0 0 13) + 1)) Q))))))))
    rw [zs.1, zs.2.2.2.1]
    refine c7_in (by omega) (by omega) (by omega) ?_
    show (zI _ = zI 0 → Q (vI (zI (10 * dgF P n p + dgF P n (p + 1)))) _) ∧ (¬ zI _ = zI 0 → mC M7_sign [.inr (.inr (some (20, 0, 0)))] _ (kI (fun x740 h739 => (99 < (((10 * zI (10 * dgF P n p + dgF P n (p + 1))) + x740) - zI 48) → Q (vI (zI (10 * dgF P n p + dgF P n (p + 1)))) h739) ∧ (¬ 99 < (((10 * zI (10 * dgF P n p + dgF P n (p + 1))) + x740) - zI 48) → mC M7_sign [.inr (.inr (some (20, 0, 0)))] h739 (kI (fun x742 h741 => mE M7_number 8 [vR 20 0 0, vI (((10 * zI (10 * dgF P n p + dgF P n (p + 1))) + x742) - zI 48)] [] (pI h741 20 0 0 13 ((h741.1 20 0 0 13) + 1)) Q))))))
    rw [zb_ne0]
    refine ⟨fun q4 => fin, fun q4 => c7_sign (by omega) hS hM2 ?_⟩
    have q4 := Decidable.not_not.mp q4
    show (99 < (((10 * zI (10 * dgF P n p + dgF P n (p + 1))) + zI _) - zI 48) → Q (vI (zI (10 * dgF P n p + dgF P n (p + 1)))) _) ∧ (¬ 99 < (((10 * zI (10 * dgF P n p + dgF P n (p + 1))) + zI _) - zI 48) → mC _ _ _ _)
    rw [z10, zs.2.2.2.2.2.2.1, z_mul, z_add, z_sub, z_lt (by omega) (by omega)]
    exact ⟨fun _ => fin, fun z => by omega⟩
  · refine w7_number_8 ?_
    rw [i3, z0, z_eq (by omega) (by omega)]
    exact ⟨fun _ => hq0 (fun z => k1 ⟨rfl, z⟩) h1 hM1 hF1, fun z => by omega⟩
end RPAD
