/-! the class: methods that only read a road -/
def gnF (R : rw_) : Nat → Int
  | 0 => 0
  | c + 1 => gnF R c + R (75 + 10 * c)
def smF (R : rw_) (j : Nat) : Nat → Int
  | 0 => 0
  | l + 1 => smF R j l + R (j + 10 * l)
def amF (x : Int32) : Int32 := if 0 ≤ x then x else 0 - x
def saF (R : rw_) : Nat → Int32
  | 0 => zI 0
  | l + 1 => saF R l + amF (zI (R (16 + 10 * l) - R (17 + 10 * l)))
theorem z1 : (1 : Int32) = zI 1 := by decide
theorem z0 : (0 : Int32) = zI 0 := by decide
theorem zm1 : (-1 : Int32) = zI (-1) := by decide
theorem zm6 : (-6 : Int32) = zI (-6) := by decide
section READS
variable {r : Nat} {h : mH} {Q : mV → mH → Prop} {R C : rw_}
theorem RPc.of (hP : RP h r R C) {c : Nat} (hc : (c : Int) < R 4) : RPc h r R c := hP.2.1 c hc
theorem RPl.of (hP : RP h r R C) {l : Nat} (hl : (l : Int) < R 3) : RPl h r R l := hP.2.2.1 l hl
theorem RP.c4 (hP : RP h r R C) : h.1 0 r 0 4 = zI (R 4) := hP.1.1
theorem RP.l3 (hP : RP h r R C) : h.1 0 r 0 5 = zI (R 3) := hP.1.2.1
theorem WF.c (hW : WF R) : 0 ≤ R 4 ∧ R 4 ≤ 40 := ⟨hW.1.1, hW.1.2.1⟩
theorem WF.l (hW : WF R) : 0 ≤ R 3 ∧ R 3 ≤ 6 := ⟨hW.1.2.2.1, hW.1.2.2.2.1⟩
theorem l4_carsGone (hP : RP h r R C) (hW : WF R) (hq : Q (vI (zI (gnF R (R 4).toNat))) h) : ∀ n c : Nat, c + n = (R 4).toNat → mE M4_carsGone 4 [vR 0 r 0, vI (zI (gnF R c)), vI (zI c), vU] [] h Q := by
  have hb := hW.c
  intro n
  induction n with
  | zero =>
    intro c hc
    refine w4_carsGone_4 ?_
    rw [hP.c4]
    simp (disch := omega) only [z_le]
    refine ⟨fun _ => ?_, fun _ => by omega⟩
    rw [Nat.add_zero] at hc
    rw [hc]; exact hq
  | succ n ih =>
    intro c hc
    have hc4 : (c : Int) < R 4 := by omega
    refine w4_carsGone_4 ?_
    rw [hP.c4]
    simp (disch := omega) only [z_le]
    refine ⟨fun _ => by omega, fun _ => ?_⟩
    refine c4_carN hP.c4 hc4 hb.2 ?_
    have e := ih (c + 1) (by omega)
    have g := (RPc.of hP hc4).2.2.2.2.2.1
    have w := hW.2.1 c hc4
    unfold WFc at w
    show (h.1 5 r c 6 = 0 → _) ∧ (¬ h.1 5 r c 6 = 0 → _)
    rw [g]
    simp (disch := omega) only [z_lit, z_eq, z_add]
    rw [gnF, show ((c + 1 : Nat) : Int) = (c : Int) + (1 : Nat) by omega] at e
    constructor
    · intro q
      rw [show gnF R c + R (75 + 10 * c) = gnF R c by omega] at e
      exact e
    · intro q
      rw [show gnF R c + R (75 + 10 * c) = gnF R c + (1 : Nat) by omega] at e
      exact e
theorem c4_carsGone (hP : RP h r R C) (hW : WF R) (hq : Q (vI (zI (gnF R (R 4).toNat))) h) : mC M4_carsGone [.inr (.inr (some (0, r, 0)))] h Q := w4_carsGone (l4_carsGone hP hW hq _ 0 (Nat.zero_add _))
theorem c2_about {i : Nat} {j : Nat} {x : Int32} (hj : j = 6 ∨ j = 7) (hx : h.1 6 r i j = x) (hq : Q (vI x) h) : mC M2_about [.inr (.inr (some (6, r, i))), .inl (zI j)] h Q := by
  refine w2_about ?_
  rcases hj with rfl | rfl <;> simp (disch := omega) only [z_lit, z_eq] <;> simp <;> rw [hx] <;> exact hq
theorem l4_sumOfLoops {j : Nat} (hj : j = 6 ∨ j = 7) (hP : RP h r R C) (hW : WF R) (hq : Q (vI (zI (smF R (10 + j) (R 3).toNat))) h) : ∀ n l : Nat, l + n = (R 3).toNat → mE M4_sumOfLoops 4 [vR 0 r 0, vI (zI j), vI (zI (smF R (10 + j) l)), vI (zI l), vU] [] h Q := by
  have hb := hW.l
  intro n
  induction n with
  | zero =>
    intro l hl
    refine w4_sumOfLoops_4 ?_
    rw [hP.l3]
    simp (disch := omega) only [z_le]
    refine ⟨fun _ => ?_, fun _ => by omega⟩
    rw [Nat.add_zero] at hl
    rw [hl]; exact hq
  | succ n ih =>
    intro l hl
    have hl3 : (l : Int) < R 3 := by omega
    refine w4_sumOfLoops_4 ?_
    rw [hP.l3]
    simp (disch := omega) only [z_le]
    refine ⟨fun _ => by omega, fun _ => ?_⟩
    refine c4_loopN hP.l3 hl3 hb.2 ?_
    have e := ih (l + 1) (by omega)
    have g := RPl.of hP hl3
    have gx : h.1 6 r l j = zI (R (10 + j + 10 * l)) := by
      rcases hj with rfl | rfl
      · exact g.2.2.2.2.2.2.1
      · exact g.2.2.2.2.2.2.2.1
    refine c2_about hj gx ?_
    show mE _ _ [_, _, vI (zI (smF R (10 + j) l) + zI (R (10 + j + 10 * l))), vI (zI l + 1), _] _ _ _
    simp only [z_lit, z_add]
    rw [smF, show ((l + 1 : Nat) : Int) = (l : Int) + (1 : Nat) by omega] at e
    exact e
theorem c4_sumOfLoops {j : Nat} (hj : j = 6 ∨ j = 7) (hP : RP h r R C) (hW : WF R) (hq : Q (vI (zI (smF R (10 + j) (R 3).toNat))) h) : mC M4_sumOfLoops [.inr (.inr (some (0, r, 0))), .inl (zI j)] h Q := w4_sumOfLoops (l4_sumOfLoops hj hP hW hq _ 0 (Nat.zero_add _))
theorem l4_allAmounts (hP : RP h r R C) (hW : WF R) (hq : Q (vI (saF R (R 3).toNat)) h) : ∀ n l : Nat, l + n = (R 3).toNat → mE M4_allAmounts 4 [vR 0 r 0, vI (saF R l), vI (zI l), vU] [] h Q := by
  have hb := hW.l
  intro n
  induction n with
  | zero =>
    intro l hl
    refine w4_allAmounts_4 ?_
    rw [hP.l3]
    simp (disch := omega) only [z_le]
    refine ⟨fun _ => ?_, fun _ => by omega⟩
    rw [Nat.add_zero] at hl
    rw [hl]; exact hq
  | succ n ih =>
    intro l hl
    have hl3 : (l : Int) < R 3 := by omega
    refine w4_allAmounts_4 ?_
    rw [hP.l3]
    simp (disch := omega) only [z_le]
    refine ⟨fun _ => by omega, fun _ => ?_⟩
    refine c4_loopN hP.l3 hl3 hb.2 ?_
    have e := ih (l + 1) (by omega)
    have g := RPl.of hP hl3
    refine w2_falselyCounted ?_
    rw [g.2.2.2.2.2.2.1, g.2.2.2.2.2.2.2.1, z_sub]
    rw [saF, show ((l + 1 : Nat) : Int) = (l : Int) + (1 : Nat) by omega, ← z_add, ← z_lit] at e
    exact e
theorem c4_allAmounts (hP : RP h r R C) (hW : WF R) (hq : Q (vI (saF R (R 3).toNat)) h) : mC M4_allAmounts [.inr (.inr (some (0, r, 0)))] h Q := w4_allAmounts (l4_allAmounts hP hW hq _ 0 (Nat.zero_add _))
theorem Lay_val (hL : LayOK R C) {k : Nat} (hk : k < 80) : C k = -6 ∨ (0 ≤ C k ∧ C k < R 4) := by
  rcases hL.2 k hk with e | ⟨c, h1, -, -, h4⟩
  · exact Or.inl e
  · exact Or.inr (by omega)
theorem l4_metalIn {l : Nat} {L : Int} (hL1 : 0 ≤ L ∧ L ≤ 1) (hP : RP h r R C) (hW : WF R) (hL : LayOK R C) (hl : (l : Int) < R 3) (hq : Q (vI (zI (metF R C L (R (11 + 10 * l)) (R (12 + 10 * l)).toNat))) h) : ∀ n j : Nat, j + n = (R (12 + 10 * l)).toNat → mE M4_metalIn 5 [vR 0 r 0, vI (zI L), vR 6 r l, vI (zI (metF R C L (R (11 + 10 * l)) j)), vI (zI j), vU] [] h Q := by
  have hb := hW.c
  have g := RPl.of hP hl
  have wl := hW.2.2.1 l hl
  unfold WFl at wl
  intro n
  induction n with
  | zero =>
    intro j hj
    refine w4_metalIn_5 ?_
    rw [g.2.2.1]
    simp (disch := omega) only [z_le]
    refine ⟨fun _ => ?_, fun _ => by omega⟩
    rw [Nat.add_zero] at hj
    rw [hj]; exact hq
  | succ n ih =>
    intro j hj
    refine w4_metalIn_5 ?_
    rw [g.2.2.1, g.2.1]
    simp (disch := omega) only [z_le, z_add]
    refine ⟨fun _ => by omega, fun _ => ?_⟩
    refine c4_takerOf hL1 (by omega) hP.2.2.2 ?_
    have hk : (40 * L + (R (11 + 10 * l) + j)).toNat < 80 := by omega
    rw [tkF, if_pos (by omega)]
    have e := ih (j + 1) (by omega)
    rw [metF, show ((j + 1 : Nat) : Int) = (j : Int) + (1 : Nat) by omega] at e
    rcases Lay_val hL hk with q | ⟨q1, q2⟩
    · rw [q] at e ⊢
      refine c4_carNo hP.c4 (by omega) (by omega) hb ?_
      rw [if_pos (by omega), Int.add_zero, ← z_add, ← z_lit] at e
      exact e
    · obtain ⟨c, hc⟩ : ∃ c : Nat, C (40 * L + (R (11 + 10 * l) + j)).toNat = c := ⟨_, (Int.toNat_of_nonneg q1).symm⟩
      rw [hc] at e q2 ⊢
      refine c4_carN hP.c4 q2 hb.2 ?_
      rw [if_neg (by omega), ← z_add, ← z_add, ← z_lit, Int.toNat_natCast, ← (RPc.of hP q2).2.2.2.2.1] at e
      exact e
theorem c4_metalIn {l : Nat} {L : Int} (hL1 : 0 ≤ L ∧ L ≤ 1) (hP : RP h r R C) (hW : WF R) (hL : LayOK R C) (hl : (l : Int) < R 3) (hq : Q (vI (zI (metF R C L (R (11 + 10 * l)) (R (12 + 10 * l)).toNat))) h) : mC M4_metalIn [.inr (.inr (some (0, r, 0))), .inl (zI L), .inr (.inr (some (6, r, l)))] h Q := w4_metalIn (l4_metalIn hL1 hP hW hL hl hq _ 0 (Nat.zero_add _))
theorem c4_strengthOf {l : Nat} (hP : RP h r R C) (hW : WF R) (hL : LayOK R C) (hl : (l : Int) < R 3) (hq : Q (vI (zI (strF R C l))) h) : mC M4_strengthOf [.inr (.inr (some (0, r, 0))), .inr (.inr (some (6, r, l)))] h Q := by
  have g := RPl.of hP hl
  have wl := hW.2.2.1 l hl
  unfold WFl at wl
  refine w4_strengthOf ?_
  rw [g.1]
  refine c4_metalIn (by omega) hP hW hL hl ?_
  show mC _ [_, .inl (1 - h.1 6 r l 0), _] _ _
  rw [g.1, z1, z_sub]
  refine c4_metalIn (by omega) hP hW hL hl ?_
  show Q (vI (4 * _ + h.1 0 r 0 7 * _)) h
  rw [hP.1.2.2.2.1, z_lit, z_mul, z_mul, z_add]
  exact hq
theorem c2_isUnder {c l : Nat} (hP : RP h r R C) (hW : WF R) (hc : (c : Int) < R 4) (hl : (l : Int) < R 3) (hq : Q (vI (zI (if isOv R c l then 1 else 0))) h) : mC M2_isUnder [.inr (.inr (some (6, r, l))), .inr (.inr (some (5, r, c)))] h Q := by
  have g := RPl.of hP hl
  have gc := RPc.of hP hc
  have wl := hW.2.2.1 l hl
  have wc := hW.2.1 c hc
  unfold WFl at wl
  unfold WFc at wc
  refine w2_isUnder ?_
  rw [g.1, g.2.1, g.2.2.1, gc.1, gc.2.1, gc.2.2.1]
  simp (disch := omega) only [z_lit, z_le, z_lt, z_eq, z_add, z_sub]
  have e0 : ¬ isOv R c l → Q (vI (zI (0 : Nat))) h := fun n => by rw [if_neg n] at hq; exact hq
  have e1 : isOv R c l → Q (vI (zI (1 : Nat))) h := fun n => by rw [if_pos n] at hq; exact hq
  refine ⟨fun _ => e0 ?_, fun _ => ⟨fun _ => e0 ?_, fun _ => ⟨fun _ => e0 ?_, fun _ => e1 ?_⟩⟩⟩
  all_goals (unfold isOv lasF at *; omega)
end READS
