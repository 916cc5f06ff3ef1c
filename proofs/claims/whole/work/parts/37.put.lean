/-! characters put into the pad: a long as a number below 2^64 -/
def lF (N : Nat) : Int64 := (UInt64.ofNat N).toInt64
theorem l_ex (y : Int64) : ∃ N, N < 2 ^ 64 ∧ y = lF N := ⟨y.toUInt64.toNat, y.toUInt64.toNat_lt, by unfold lF; simp⟩
theorem l_u {N : Nat} : (lF N).toUInt64 = UInt64.ofNat N := by unfold lF; simp
theorem l_shr {N : Nat} (h : N < 2 ^ 64) : ((lF N).toUInt64 >>> ((8 : Int32).toInt64.toUInt64 &&& Int64.toUInt64 63)).toInt64 = lF (N / 256) := by
  unfold lF
  have e : ((8 : Int32).toInt64.toUInt64 &&& Int64.toUInt64 63) = 8 := by decide
  rw [e]
  congr 1
  apply UInt64.toNat_inj.mp
  simp [UInt64.toNat_shiftRight, Nat.shiftRight_eq_div_pow]
  omega
theorem l_inj {N M : Nat} (h : N < 2 ^ 64) (h2 : M < 2 ^ 64) : lF N = lF M ↔ N = M := by
  refine ⟨fun e => ?_, fun e => by rw [e]⟩
  have e2 : (lF N).toUInt64.toNat = (lF M).toUInt64.toNat := by rw [e]
  rw [l_u, l_u, UInt64.toNat_ofNat', UInt64.toNat_ofNat'] at e2
  omega
theorem l_and {N : Nat} (h : N < 2 ^ 64) : (lF N) &&& 255 = lF (N % 256) := by
  have e : (lF N &&& 255).toUInt64 = (lF (N % 256)).toUInt64 := by
    rw [Int64.toUInt64_and, l_u, l_u]
    apply UInt64.toNat_inj.mp
    rw [UInt64.toNat_and, UInt64.toNat_ofNat', UInt64.toNat_ofNat', show (Int64.toUInt64 255).toNat = 2 ^ 8 - 1 from by decide, Nat.and_two_pow_sub_one_eq_mod]
    omega
  have e2 := congrArg UInt64.toInt64 e
  simpa using e2
theorem l_i32 {M : Nat} (h : M < 256) : (lF M).toInt32 = zI M := by
  have : ∀ m : Fin 256, (lF m.val).toInt32 = zI (m.val : Int) := by decide +kernel
  exact this ⟨M, h⟩
theorem l_char {M : Nat} (h : M < 256) : ((lF M).toInt32.toUInt32 % 65536).toInt32 = zI M := by
  have : ∀ m : Fin 256, ((lF m.val).toInt32.toUInt32 % 65536).toInt32 = zI (m.val : Int) := by decide +kernel
  exact this ⟨M, h⟩
theorem l_cmp0 {N : Nat} (h : N < 2 ^ 64) : (lg_cmp (lF N) 0 = 0) ↔ N = 0 := by
  have e : lF N = 0 ↔ N = 0 := by
    rw [show (0 : Int64) = lF 0 from by decide]
    exact l_inj h (by decide)
  rw [← e]
  unfold lg_cmp
  refine ⟨fun q => ?_, fun q => by rw [q]; decide⟩
  by_cases y : lF N > 0
  · rw [if_pos y] at q; exact absurd q (by decide)
  · rw [if_neg y] at q
    by_cases z : lF N = 0
    · exact z
    · rw [if_neg z] at q; exact absurd q (by decide)
theorem l_shi {N i : Nat} (h : N < 2 ^ 64) (hi : i < 8) : ((lF N).toUInt64 >>> ((8 * zI (i : Int)).toInt64.toUInt64 &&& Int64.toUInt64 63)).toInt64 = lF (N / 256 ^ i) := by
  have e : ∀ j : Fin 8, ((8 * zI (j.val : Int)).toInt64.toUInt64 &&& Int64.toUInt64 63) = UInt64.ofNat (8 * j.val) := by decide +kernel
  rw [e ⟨i, hi⟩, l_u]
  unfold lF
  congr 1
  apply UInt64.toNat_inj.mp
  have e8 : (8 * i) % 2 ^ 64 = 8 * i := Nat.mod_eq_of_lt (by omega)
  rw [UInt64.toNat_shiftRight, UInt64.toNat_ofNat', UInt64.toNat_ofNat', UInt64.toNat_ofNat', Nat.mod_eq_of_lt h]
  dsimp only
  rw [e8, Nat.mod_eq_of_lt (a := 8 * i) (by omega), Nat.shiftRight_eq_div_pow, show (256 : Nat) = 2 ^ 8 from rfl, ← Nat.pow_mul]
  exact (Nat.mod_eq_of_lt (Nat.lt_of_le_of_lt (Nat.div_le_self _ _) h)).symm
def byF (N j : Nat) : Int := ((N / 256 ^ j % 256 : Nat) : Int)
def nbF (N : Nat) : Nat → Nat → Nat
  | 0, m => m
  | f + 1, m => if N / 256 ^ m % 256 = 0 then (if N / 256 ^ m = 0 then m else 0) else if 33 ≤ N / 256 ^ m % 256 ∧ N / 256 ^ m % 256 ≤ 126 then nbF N f (m + 1) else 0
theorem nb_s {N f m : Nat} : nbF N (f + 1) m = if N / 256 ^ m % 256 = 0 then (if N / 256 ^ m = 0 then m else 0) else if 33 ≤ N / 256 ^ m % 256 ∧ N / 256 ^ m % 256 ≤ 126 then nbF N f (m + 1) else 0 := rfl
theorem nb_ok {N : Nat} : ∀ f m, f + m = 8 → (∀ j, j < m → 33 ≤ byF N j ∧ byF N j ≤ 126) → nbF N f m ≤ 8 ∧ ∀ j, j < nbF N f m → 33 ≤ byF N j ∧ byF N j ≤ 126 := by
  intro f
  induction f with
  | zero => intro m hm hj; exact ⟨by show m ≤ 8; omega, hj⟩
  | succ f ih =>
    intro m hm hj
    rw [nb_s]
    split
    · split
      · exact ⟨by omega, hj⟩
      · exact ⟨by omega, fun j z => by omega⟩
    · split
      next q2 =>
        refine ih (m + 1) (by omega) (fun j z => ?_)
        by_cases y : j = m
        · rw [y]; unfold byF; omega
        · exact hj j (by omega)
      · exact ⟨by omega, fun j z => by omega⟩
theorem dv_s (N m : Nat) : N / 256 ^ m / 256 = N / 256 ^ (m + 1) := by rw [Nat.div_div_eq_div_mul, Nat.pow_succ]
theorem dv_lt {N m : Nat} (h : N < 2 ^ 64) : N / 256 ^ m < 2 ^ 64 := Nat.lt_of_le_of_lt (Nat.div_le_self _ _) h
theorem dv_8 {N : Nat} (h : N < 2 ^ 64) : N / 256 ^ 8 = 0 := Nat.div_eq_of_lt (by rw [show (256 : Nat) ^ 8 = 2 ^ 64 from by decide]; exact h)
/-- the pad with m characters more -/
def ptP (P : rw_) (n N m : Nat) : rw_ := fun i => if n ≤ i ∧ i < n + m then byF N (m - 1 - (i - n)) else P i
def ptA (n m : Nat) : Int := if m = 0 then -2 else if n + m ≤ 60 then ((n + m : Nat) : Int) else -4
def ptY (n m : Nat) : Prop := m ≠ 0 ∧ n + m ≤ 60
section PUTC
variable {h : mH} {Q : mV → mH → Prop} {P : rw_} {n : Nat}
theorem c3_signsIn {N : Nat} (hN : N < 2 ^ 64) (hq : Q (vI (zI (nbF N 8 0 : Nat))) h) : mC M3_signsIn [.inr (.inl (lF N))] h Q := by
  refine w3_signsIn ?_
  have loop : ∀ (f m : Nat), f + m = 8 → nbF N f m = nbF N 8 0 → mE M3_signsIn 5 [vL (lF N), vU, vL (lF (N / 256 ^ m)), vU, vI (zI m)] [] h Q := by
    intro f
    induction f with
    | zero =>
      intro m hm e
      have m8 : m = 8 := by omega
      subst m8
      have e8 : nbF N 0 8 = 8 := rfl
      refine w3_signsIn_5 ?_
      rw [l_cmp0 (dv_lt hN), dv_8 hN, zc.2.2.2.2.2.2.1, z_le (by omega) (by omega)]
      rw [← e, e8] at hq
      exact ⟨fun _ => ⟨fun z => absurd rfl z, fun _ => hq⟩, fun z => absurd (by omega) z⟩
    | succ f ih =>
      intro m hm e
      rw [nb_s] at e
      have hd := dv_lt (m := m) hN
      refine w3_signsIn_5 ?_
      rw [l_and hd, l_cmp0 hd, l_cmp0 (by omega), l_i32 (by omega), l_shr hd, dv_s, zc.2.2.2.2.2.2.1, z_le (by omega) (by omega), z0, z1, z_add, zs.2.2.2.2.2.2.2.2.2.1, zs.2.2.2.2.2.2.2.2.2.2.1]
      refine ⟨fun z => by omega, fun _ => ⟨fun q => ⟨fun q2 => ?_, fun q2 => ?_⟩, fun q => ?_⟩⟩
      · rw [if_pos q, if_neg q2] at e; rw [← e] at hq; exact hq
      · rw [if_pos q, if_pos q2] at e; rw [← e] at hq; exact hq
      · rw [if_neg q] at e
        refine c6_isWithin (by omega) (by omega) (by omega) ?_
        show (¬ zI _ = zI 0 → mE M3_signsIn 5 [vL (lF N), vU, vL (lF (N / 256 ^ (m + 1))), vU, vI (zI ((m : Int) + 1))] [] h Q) ∧ (zI _ = zI 0 → Q (vI (zI 0)) h)
        rw [zb_ne0]
        refine ⟨fun q2 => ?_, fun q2 => ?_⟩
        · have q2 := Decidable.not_not.mp q2
          rw [if_pos (by omega)] at e
          exact ih (m + 1) (by omega) e
        · rw [if_neg (by omega)] at e; rw [← e] at hq; exact hq
  have e0 := loop 8 0 rfl rfl
  rw [Nat.pow_zero, Nat.div_one] at e0
  exact e0
theorem c3_append {N : Nat} (hN : N < 2 ^ 64) (hC : CP h P n) (hq0 : ¬ ptY n (nbF N 8 0) → Q (vI (zI (ptA n (nbF N 8 0)))) h) (hq1 : ptY n (nbF N 8 0) → ∀ h2, CP h2 (ptP P n N (nbF N 8 0)) (n + nbF N 8 0) → (∀ k r i s, k ≠ 9 → k ≠ 10 → h2.1 k r i s = h.1 k r i s) → Q (vI (zI (ptA n (nbF N 8 0)))) h2) : mC M3_append [.inr (.inr (some (9, 0, 0))), .inr (.inl (lF N))] h Q := by
  obtain ⟨c1, c2, c3, c4⟩ := hC
  obtain ⟨b1, b2⟩ := nb_ok (N := N) 8 0 rfl (fun j z => by omega)
  refine w3_append (c3_signsIn hN ?_)
  generalize hm : nbF N 8 0 = m at hq0 hq1 b1 b2
  show (¬ zI (m : Nat) = 0 → (((h.1 9 0 0 1) + zI (m : Nat)) ≤ 60 → mE M3_append 34 [vR 9 0 0, vL (lF N), vU, vU, vI (zI (m : Nat) - 1)] [] h Q) ∧ (¬ ((h.1 9 0 0 1) + zI (m : Nat)) ≤ 60 → Q (vI (-4)) h)) ∧ (zI (m : Nat) = 0 → Q (vI (-2)) h)
  rw [c2, zm2, zm4, z0, z1, zs.2.2.2.2.2.1, z_add, z_sub, z_le (by omega) (by omega), z_eq (by omega) (by omega)]
  unfold ptY ptA at hq0 hq1
  refine ⟨fun q => ⟨fun q2 => ?_, fun q2 => ?_⟩, fun q => ?_⟩
  · rw [if_neg (by omega), if_pos (by omega)] at hq1
    have hq1 := hq1 ⟨by omega, by omega⟩
    have loop : ∀ (j i : Nat) (g : mH), j + i = m → g.1 9 0 0 1 = zI ((n + j : Nat) : Int) → (∀ x, x < n + j → g.1 10 0 0 x = zI (ptP P n N m x)) → (∀ k r i s, k ≠ 9 → k ≠ 10 → g.1 k r i s = h.1 k r i s) → mE M3_append 34 [vR 9 0 0, vL (lF N), vU, vU, vI (zI ((i : Int) - 1))] [] g Q := by
      intro j i
      induction i generalizing j with
      | zero =>
        intro g hj g1 g2 g3
        refine w3_append_34 ?_
        rw [g1, z0, z_lt (by omega) (by omega)]
        refine ⟨fun _ => ?_, fun z => by omega⟩
        rw [show j = m by omega] at g1 g2 ⊢
        refine hq1 g ⟨by omega, g1, g2, fun x hx => ?_⟩ g3
        unfold ptP
        by_cases y : n ≤ x ∧ x < n + m
        · rw [if_pos y]; exact b2 _ (by omega)
        · rw [if_neg y]; exact c4 x (by omega)
      | succ i ih =>
        intro g hj g1 g2 g3
        have hd := dv_lt (m := i) hN
        refine w3_append_34 ?_
        rw [show ((i + 1 : Nat) : Int) - 1 = (i : Int) by omega, l_shi hN (by omega), l_and hd, l_char (by omega), g1, z0, z1, zs.2.2.2.2.2.1, z_add, z_lt (by omega) (by omega), z_lt (by omega) (by omega), z_le (by omega) (by omega), z_clamp (by omega) (by omega), Int.toNat_natCast]
        refine ⟨fun z => by omega, fun _ => ⟨fun z => by omega, fun _ => ⟨fun z => by omega, fun _ => ⟨z_in (by omega) (by omega) (by omega), ?_⟩⟩⟩⟩
        rw [show -(zI 1) = zI (-1) from by decide, z_add, show (i : Int) + -1 = (i : Int) - 1 by omega]
        refine ih (j + 1) _ (by omega) (by rw [pI_at, show ((n + j : Nat) : Int) + 1 = ((n + (j + 1) : Nat) : Int) by omega]) (fun x hx => ?_) (fun k r i2 s h9 h10 => ?_)
        · rw [pI_ne (fun z => by omega)]
          by_cases y : x = n + j
          · rw [y, pI_at]
            unfold ptP byF
            rw [if_pos (by omega), show m - 1 - (n + j - n) = i by omega]
          · rw [pI_ne (fun z => y z.2.1)]; exact g2 x (by omega)
        · rw [pI_ne (fun z => h9 z.1), pI_ne (fun z => h10 z.1)]; exact g3 k r i2 s h9 h10
    refine loop 0 m h (Nat.zero_add _) c2 (fun x hx => ?_) (fun _ _ _ _ _ _ => rfl)
    unfold ptP
    rw [if_neg (by omega)]
    exact c3 x (by omega)
  · rw [if_neg (by omega), if_neg (by omega)] at hq0
    exact hq0 (by omega)
  · rw [if_pos (by omega)] at hq0
    exact hq0 (by omega)
end PUTC
