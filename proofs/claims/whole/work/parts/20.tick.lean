/-! a tick, ticks -/
theorem i32_rng (x : Int32) : -2147483648 ≤ x.toInt ∧ x.toInt < 2147483648 := ⟨by have := Int32.minValue_le_toInt x; simp at this; omega, by have := Int32.toInt_lt x; omega⟩
theorem met_rng {R C : rw_} (hW : WF R) (hL : LayOK R C) {L x : Int} (hL1 : L = 0 ∨ L = 1) (hx : 0 ≤ x) : ∀ n : Nat, x + n ≤ 40 → 0 ≤ metF R C L x n ∧ metF R C L x n ≤ 9 * n
  | 0, _ => ⟨Int.le_refl 0, Int.le_refl 0⟩
  | n + 1, hn => by
    obtain ⟨a, b⟩ := met_rng hW hL hL1 hx n (by omega)
    have hk : (40 * L + (x + n)).toNat < 80 := by omega
    unfold metF
    rcases Lay_val hL hk with q | ⟨q1, q2⟩
    · rw [q, if_pos (by omega)]; omega
    · rw [if_neg (by omega)]
      have w := hW.2.1 (C (40 * L + (x + n)).toNat).toNat (by omega)
      unfold WFc at w
      obtain ⟨y0, y1, y2, y3, y4, y5, y6, y7, y8, y9⟩ := w
      omega
theorem str_rng {R C : rw_} (hW : WF R) (hL : LayOK R C) {l : Nat} (hl : (l : Int) < R 3) : 0 ≤ strF R C l ∧ strF R C l ≤ 400 := by
  have w := hW.2.2.1 l hl
  unfold WFl at w
  obtain ⟨y0, y1, y2, y3, y4, y5⟩ := w
  have h8 := hW.1
  obtain ⟨a1, a2⟩ := met_rng hW hL (L := R (10 + 10 * l)) y0 y1 (R (12 + 10 * l)).toNat (by omega)
  obtain ⟨b1, b2⟩ := met_rng hW hL (L := 1 - R (10 + 10 * l)) (by omega) y1 (R (12 + 10 * l)).toNat (by omega)
  unfold strF
  generalize metF R C (1 - R (10 + 10 * l)) (R (11 + 10 * l)) (R (12 + 10 * l)).toNat = m2 at *
  generalize metF R C (R (10 + 10 * l)) (R (11 + 10 * l)) (R (12 + 10 * l)).toNat = m1 at *
  have hm : 0 ≤ R 0 * m2 ∧ R 0 * m2 ≤ 8 * 27 := by
    refine ⟨Int.mul_nonneg h8.2.2.2.2.2.2.1 b1, ?_⟩
    have := Int.mul_le_mul h8.2.2.2.2.2.2.2 (show m2 ≤ 27 by omega) b1 (by omega)
    omega
  omega
theorem pasN_lo {R : rw_} (hl : R 3 ≤ 6) {k : Nat} (hk : k < 10) : ∀ n : Nat, pasN R n k = R k
  | 0 => rfl
  | n + 1 => by
    have e := (pasN_4 hl n).2
    unfold pasN
    rw [pas_ne (by omega) (by omega) (fun j hj => by omega)]
    exact pasN_lo hl hk n
theorem c6_isWithin {h : mH} {Q : mV → mH → Prop} {a b c : Int} (ha : -2147483648 ≤ a ∧ a < 2147483648) (hb : -2147483648 ≤ b ∧ b < 2147483648) (hc : -2147483648 ≤ c ∧ c < 2147483648) (hq : Q (vI (zI (if b ≤ a ∧ a ≤ c then 1 else 0))) h) : mC M6_isWithin [.inl (zI a), .inl (zI b), .inl (zI c)] h Q := by
  refine w6_isWithin ?_
  simp (disch := omega) only [z_lt]
  refine ⟨fun _ => ?_, fun _ => ⟨fun _ => ?_, fun _ => ?_⟩⟩
  · rw [if_neg (by omega)] at hq; exact hq
  · rw [if_neg (by omega)] at hq; exact hq
  · rw [if_pos (by omega)] at hq; exact hq
theorem z100 : (100 : Int32) = zI 100 := by decide
theorem c6_isTicks {h : mH} {Q : mV → mH → Prop} {a : Int} (ha : -2147483648 ≤ a ∧ a < 2147483648) (hq : Q (vI (zI (if 1 ≤ a ∧ a ≤ 100 then 1 else 0))) h) : mC M6_isTicks [.inl (zI a)] h Q := by
  refine w6_isTicks ?_
  rw [z1, z100]
  refine c6_isWithin ha (by omega) (by omega) ?_
  refine ⟨?_, hq⟩
  split
  · exact Or.inr rfl
  · exact Or.inl rfl
section TICK
variable {r : Nat} {h : mH} {Q : mV → mH → Prop} {R C : rw_}
/-- behind the moves -/
theorem tick_end {a : Int} (hr : r ≠ 11) (ha : -2147483648 ≤ a ∧ a < 2147483648) (hW : WF R) (hL : LayOK R C) {g : mH} (hP : RP g r (maF R C).1 (maF R C).2) (hF : FrR r h g) (hq : ∀ h2, RP h2 r (psF R C a).1 (psF R C a).2 → FrR r h h2 → Q vU h2) : mC M4_notePassings [.inr (.inr (some (0, r, 0)))] g (kV (fun h124 => mC M4_loopNumbered [.inr (.inr (some (0, r, 0))), .inl (zI a)] h124 (kR6 (fun h125 => Q vU (pI h125 0 r 0 6 ((h125.1 0 r 0 6) + 1))) (fun r126 c127 h125 => mC M4_strengthOf [.inr (.inr (some (0, r, 0))), .inr (.inr (some (6, r126, c127)))] h125 (kI (fun x129 h128 => mC M2_hear [.inr (.inr (some (6, r126, c127))), .inl x129] h128 (kV (fun h130 => Q vU (pI h130 0 r 0 6 ((h130.1 0 r 0 6) + 1)))))))))) := by
  obtain ⟨a1, a2, a3, a4⟩ := ma_ok hW hL
  have hb := hW.c
  have hb3 := hW.l
  obtain ⟨b1, b2⟩ := pasN_ok a1 a2 (R 4).toNat (by omega)
  have b4 := (pasN_4 a1.l.2 (R 4).toNat).2
  have b5 : pasN (maF R C).1 (R 4).toNat 2 = R 2 := by rw [pasN_lo a1.l.2 (by decide), ma_low (by decide)]
  refine c4_notePassings hr hP a1 a2 (fun g2 hP2 hF2 => ?_)
  rw [a3] at hP2
  have e3 : pasN (maF R C).1 (R 4).toNat 3 = R 3 := b4.trans a4
  by_cases q : 0 ≤ a ∧ a < R 3
  · obtain ⟨l, rfl⟩ : ∃ l : Nat, a = l := ⟨a.toNat, by omega⟩
    refine c4_loopN hP2.l3 (by omega) (by omega) ?_
    have hl : (l : Int) < pasN (maF R C).1 (R 4).toNat 3 := by omega
    have sr := str_rng b1 b2 hl
    have wl := b1.2.2.1 l hl
    unfold WFl at wl
    refine c4_strengthOf hP2 b1 b2 hl ?_
    refine c2_hear (RPl.of hP2 hl) wl.2.2.2.2.2.2.2.2.2 (by omega) (by omega) (fun g3 hl3 hF3 hM3 => ?_)
    have hP3 : RP g3 r (heaF (pasN (maF R C).1 (R 4).toNat) l (strF (pasN (maF R C).1 (R 4).toNat) (maF R C).2 l)) (maF R C).2 := hP2.setl (by omega) (by omega) hl3 (fun k hk => heaF_ne hk) hF3
    show Q vU (pI g3 0 r 0 6 ((g3.1 0 r 0 6) + 1))
    have e : psF R C (l : Int) = (up (heaF (pasN (maF R C).1 (R 4).toNat) l (strF (pasN (maF R C).1 (R 4).toNat) (maF R C).2 l)) 2 (R 2 + 1), (maF R C).2) := by
      unfold psF; rw [if_pos q, Int.toNat_natCast]
    rw [e] at hq
    refine hq _ ?_ (hF.tr (hF2.tr (FrR.tr (h2 := g3) (fun k r2 i s n => hF3 k r2 i s (by omega)) (FrR.put (Or.inl rfl)))))
    have e2 : g3.1 0 r 0 6 + 1 = zI (R 2 + 1) := by rw [hP3.1.2.2.1, z1, z_add, heaF_ne (by omega), b5]
    rw [e2]
    exact hP3.tick (by rw [heaF_ne (by omega)]; omega) pI_at (fun k r2 i s n => pI_ne (fun z => n ⟨z.1, z.2.2.1, z.2.1⟩))
  · refine c4_loopNo hP2.l3 ha (by omega) (by omega) ?_
    show Q vU (pI g2 0 r 0 6 ((g2.1 0 r 0 6) + 1))
    have e : psF R C a = (up (pasN (maF R C).1 (R 4).toNat) 2 (R 2 + 1), (maF R C).2) := by unfold psF; rw [if_neg q]
    rw [e] at hq
    refine hq _ ?_ (hF.tr (hF2.tr (FrR.put (Or.inl rfl))))
    have e2 : g2.1 0 r 0 6 + 1 = zI (R 2 + 1) := by rw [hP2.1.2.2.1, z1, z_add, b5]
    rw [e2]
    exact hP2.tick (by omega) pI_at (fun k r2 i s n => pI_ne (fun z => n ⟨z.1, z.2.2.1, z.2.1⟩))
theorem c4_passTick {a : Int} (hr : r ≠ 11) (ha : -2147483648 ≤ a ∧ a < 2147483648) (hP : RP h r R C) (hW : WF R) (hL : LayOK R C) (hq : ∀ h2, RP h2 r (psF R C a).1 (psF R C a).2 → FrR r h h2 → Q vU h2) : mC M4_passTick [.inr (.inr (some (0, r, 0))), .inl (zI a)] h Q := by
  obtain ⟨o1, o2, o3⟩ := ord_rd hW
  refine w4_passTick (c4_orderMovers hP hW (fun g0 hg0 hM0 => ?_))
  have main : ∀ (n k : Nat) (g : mH), k + n = (ordF R (R 4).toNat).2 → RP g r (movN R C (ordF R (R 4).toNat).1 k).1 (movN R C (ordF R (R 4).toNat).1 k).2 → MvO g r (ordF R (R 4).toNat).1 (ordF R (R 4).toNat).2 → FrR r h g → mE M4_passTick 7 [vR 0 r 0, vI (zI a), vI (zI ((ordF R (R 4).toNat).2 : Int)), vI (zI k), vU] [] g Q := by
    intro n
    induction n with
    | zero =>
      intro k g hk hPg hM hF
      refine w4_passTick_7 ?_
      simp (disch := omega) only [z_le]
      refine ⟨fun _ => ?_, fun _ => by omega⟩
      rw [Nat.add_zero] at hk
      rw [hk] at hPg
      exact tick_end hr ha hW hL hPg hF hq
    | succ n ih =>
      intro k g hk hPg hM hF
      obtain ⟨m1, m2, m3, m4, m5⟩ := mov_ok hW hL o1 o2 k (by omega)
      have hk2 := hM k (by omega)
      refine w4_passTick_7 ?_
      simp (disch := omega) only [z_lit, z_le]
      refine ⟨fun _ => by omega, fun _ => ⟨fun _ => by omega, fun _ => ⟨z_in (by omega) (by omega) (by omega), fun q => ?_, fun r2 c2 q => ?_⟩⟩⟩
      · rw [z_clamp (by omega) (by omega), Int.toNat_natCast, hk2] at q
        cases q
      · rw [z_clamp (by omega) (by omega), Int.toNat_natCast, hk2] at q
        cases q
        refine c4_moveCar hPg m1 m2 (by rw [m3]; exact (o1 k (by omega)).1) (m5 k (Nat.le_refl k) (by omega)) (fun g2 hP2 hF2 hM2 => ?_)
        have e := ih (k + 1) g2 (by omega) hP2 (fun j hj => by rw [hM2]; exact hM j hj) (hF.tr hF2)
        rw [show ((k + 1 : Nat) : Int) = (k : Int) + 1 by omega, ← z_add, ← z1] at e
        exact e
  exact main _ 0 g0 (Nat.zero_add _) (hP.same1 hg0) hM0 (fun k r2 i s n => by rw [hg0])
theorem lst_rng {R : rw_} : -2147483648 ≤ lstF R ∧ lstF R < 2147483648 := by
  unfold lstF
  split
  · omega
  · exact i32_rng _
theorem c4_letPass {n : Nat} (hr : r ≠ 11) (hn : 1 ≤ n ∧ n ≤ 100) (hP : RP h r R C) (hW : WF R) (hL : LayOK R C) (hq : ∀ h2, RP h2 r (tkN R C n).1 (tkN R C n).2 → FrR r h h2 → Q (vI (zI ((tkN R C n).1 2))) h2) : mC M4_letPass [.inr (.inr (some (0, r, 0))), .inl (zI n)] h Q := by
  refine w4_letPass (c6_isTicks (by omega) ?_)
  rw [if_pos (by omega)]
  refine ⟨fun _ => ?_, fun z => absurd z (by decide)⟩
  have main : ∀ (m k : Nat) (g : mH), k + m = n → RP g r (tkN R C k).1 (tkN R C k).2 → FrR r h g → mE M4_letPass 12 [vR 0 r 0, vI (zI n), vI (zI k)] [] g Q := by
    intro m
    induction m with
    | zero =>
      intro k g hk hPg hF
      refine w4_letPass_12 ?_
      simp (disch := omega) only [z_le]
      refine ⟨fun _ => ?_, fun _ => by omega⟩
      rw [Nat.add_zero] at hk
      rw [hPg.1.2.2.1, hk]
      rw [hk] at hPg
      exact hq g hPg hF
    | succ m ih =>
      intro k g hk hPg hF
      obtain ⟨t1, t2⟩ := tk_ok hW hL k
      refine w4_letPass_12 ?_
      simp (disch := omega) only [z_le]
      refine ⟨fun _ => by omega, fun _ => ?_⟩
      refine c4_listener hPg.1 t1 ?_
      refine c4_passTick hr lst_rng hPg t1 t2 (fun g2 hP2 hF2 => ?_)
      have e := ih (k + 1) g2 (by omega) hP2 (hF.tr hF2)
      rw [show ((k + 1 : Nat) : Int) = (k : Int) + 1 by omega, ← z_add, ← z1] at e
      exact e
  exact main n 0 h (Nat.zero_add _) hP FrR.rf
theorem c4_letPassNo {a : Int} (ha : -2147483648 ≤ a ∧ a < 2147483648) (hn : ¬ (1 ≤ a ∧ a ≤ 100)) (hq : Q (vI (zI (-2))) h) : mC M4_letPass [.inr (.inr (some (0, r, 0))), .inl (zI a)] h Q := by
  refine w4_letPass (c6_isTicks ha ?_)
  rw [if_neg hn]
  exact ⟨fun z => absurd rfl z, fun _ => hq⟩
end TICK
