/-! numbers that stay small: what loops counted, passings, changes of lane -/
def tsF (f : Nat → Int) : Nat → Int
  | 0 => 0
  | n + 1 => tsF f n + f n
theorem ts_s {f : Nat → Int} {n : Nat} : tsF f (n + 1) = tsF f n + f n := rfl
theorem ts_le {f g : Nat → Int} : ∀ n : Nat, (∀ c, c < n → f c ≤ g c) → tsF f n ≤ tsF g n := by
  intro n
  induction n with
  | zero => intro _; exact Int.le_refl 0
  | succ n ih =>
    intro h
    have a := ih (fun c hc => h c (by omega))
    have b := h n (by omega)
    rw [ts_s, ts_s]
    omega
theorem ts_eq {f g : Nat → Int} (n : Nat) (h : ∀ c, c < n → f c = g c) : tsF f n = tsF g n := by
  have a := ts_le (f := f) (g := g) n (fun c hc => by rw [h c hc]; exact Int.le_refl _)
  have b := ts_le (f := g) (g := f) n (fun c hc => by rw [h c hc]; exact Int.le_refl _)
  omega
theorem ts_add {f g : Nat → Int} : ∀ n : Nat, tsF (fun c => f c + g c) n = tsF f n + tsF g n := by
  intro n
  induction n with
  | zero => rfl
  | succ n ih =>
    rw [ts_s, ts_s, ts_s, ih]
    omega
theorem ts_one {f g : Nat → Int} {a : Nat} {d : Int} (hd : 0 ≤ d) (ha : g a ≤ f a + d) (h : ∀ c, c ≠ a → g c ≤ f c) : ∀ n : Nat, tsF g n ≤ tsF f n + (if a < n then d else 0) := by
  intro n
  induction n with
  | zero => rw [if_neg (by omega)]; exact Int.le_refl 0
  | succ n ih =>
    rw [ts_s, ts_s]
    by_cases q : n = a
    · rw [if_neg (by omega)] at ih
      rw [if_pos (by omega), q]
      rw [q] at ih
      omega
    · have b := h n q
      by_cases q2 : a < n
      · rw [if_pos q2] at ih
        rw [if_pos (by omega)]
        omega
      · rw [if_neg q2] at ih
        rw [if_neg (by omega)]
        omega
theorem ts_nn {f : Nat → Int} (n : Nat) (h : ∀ c, c < n → 0 ≤ f c) : 0 ≤ tsF f n := by
  induction n with
  | zero => exact Int.le_refl 0
  | succ n ih =>
    have a := ih (fun c hc => h c (by omega))
    have b := h n (by omega)
    rw [ts_s]
    omega
theorem ts_up {f : Nat → Int} {n : Nat} : ∀ d : Nat, (∀ c, c < n + d → 0 ≤ f c) → tsF f n ≤ tsF f (n + d) := by
  intro d
  induction d with
  | zero => intro _; exact Int.le_refl _
  | succ d ih =>
    intro h
    have a := ih (fun c hc => h c (by omega))
    have b := h (n + d) (by omega)
    rw [show n + (d + 1) = n + d + 1 by omega, ts_s]
    omega
theorem ts_bd {f : Nat → Int} {K : Int} (n : Nat) (h : ∀ c, c < n → f c ≤ K) : tsF f n ≤ K * n := by
  induction n with
  | zero => rw [show ((0 : Nat) : Int) = 0 by omega, Int.mul_zero]; exact Int.le_refl 0
  | succ n ih =>
    have a := ih (fun c hc => h c (by omega))
    have b := h n (by omega)
    rw [ts_s, show ((n + 1 : Nat) : Int) = (n : Int) + 1 by omega, Int.mul_add, Int.mul_one]
    omega
/-- how far a car came and how often it changed its lane, and 1 if the loop is not just ahead of being passed -/
def ptF (R : rw_) (l c : Nat) : Int := R (71 + 10 * c) + R (77 + 10 * c) + (if isOv R c l ∧ (R (79 + 10 * c)).toNat.testBit l = false then 0 else 1)
theorem pt_rng {R : rw_} {l c : Nat} : R (71 + 10 * c) + R (77 + 10 * c) ≤ ptF R l c ∧ ptF R l c ≤ R (71 + 10 * c) + R (77 + 10 * c) + 1 := by
  unfold ptF
  split <;> omega
theorem pt_one {R : rw_} {l c : Nat} (h : ¬ (isOv R c l ∧ (R (79 + 10 * c)).toNat.testBit l = false)) : ptF R l c = R (71 + 10 * c) + R (77 + 10 * c) + 1 := by
  unfold ptF
  rw [if_neg h]
theorem pt_nul {R : rw_} {l c : Nat} (h : isOv R c l ∧ (R (79 + 10 * c)).toNat.testBit l = false) : ptF R l c = R (71 + 10 * c) + R (77 + 10 * c) := by
  unfold ptF
  rw [if_pos h, Int.add_zero]
def wcF (R : rw_) (c : Nat) : Int := R (77 + 10 * c) + R (76 + 10 * c)
def c6F (R : rw_) : Int := R 16 + R 26 + R 36 + R 46 + R 56 + R 66
/-- all counts together are within the tick, passings within what cars came and changed, changes within B -/
def nuX (B : Int) (R : rw_) : Prop := c6F R ≤ R 2 ∧ (∀ l : Nat, l < 6 → 0 ≤ R (16 + 10 * l) ∧ 0 ≤ R (17 + 10 * l)) ∧ (∀ l : Nat, (l : Int) < R 3 → R (17 + 10 * l) ≤ tsF (ptF R l) (R 4).toNat) ∧ (∀ c : Nat, c < 40 → 0 ≤ R (77 + 10 * c)) ∧ 75 * tsF (wcF R) (R 4).toNat ≤ B
theorem nuX.mono {B B2 : Int} {R : rw_} (o : nuX B R) (hB : B ≤ B2) : nuX B2 R := ⟨o.1, o.2.1, o.2.2.1, o.2.2.2.1, by have := o.2.2.2.2; omega⟩
/-- the numbers that don't matter here -/
def nuK (k : Nat) : Prop := k = 0 ∨ k = 1 ∨ (k < 70 ∧ 10 ≤ k ∧ (k % 10 = 3 ∨ k % 10 = 4 ∨ k % 10 = 5 ∨ k % 10 = 8 ∨ k % 10 = 9)) ∨ (70 ≤ k ∧ (k % 10 = 3 ∨ k % 10 = 4 ∨ k % 10 = 8))
theorem pt_cg {R R2 : rw_} {l c : Nat} (g0 : R2 (10 + 10 * l) = R (10 + 10 * l)) (g1 : R2 (11 + 10 * l) = R (11 + 10 * l)) (g2 : R2 (12 + 10 * l) = R (12 + 10 * l)) (h0 : R2 (70 + 10 * c) = R (70 + 10 * c)) (h1 : R2 (71 + 10 * c) = R (71 + 10 * c)) (h2 : R2 (72 + 10 * c) = R (72 + 10 * c)) (h5 : R2 (75 + 10 * c) = R (75 + 10 * c)) (h7 : R2 (77 + 10 * c) = R (77 + 10 * c)) (h9 : (R2 (79 + 10 * c)).toNat.testBit l = (R (79 + 10 * c)).toNat.testBit l) : ptF R2 l c = ptF R l c := by
  unfold ptF isOv lasF
  rw [g0, g1, g2, h0, h1, h2, h5, h7, h9]
theorem nu_cg {B : Int} {R R2 : rw_} (h3 : R 3 ≤ 6) (h4 : R 4 ≤ 40) (e : ∀ k, k < 470 → ¬ nuK k → R2 k = R k) (hN : nuX B R) : nuX B R2 := by
  obtain ⟨n1, n2, n3, n4, n5⟩ := hN
  have lo : ∀ l j : Nat, l < 6 → (j = 0 ∨ j = 1 ∨ j = 2 ∨ j = 6 ∨ j = 7) → R2 (10 + j + 10 * l) = R (10 + j + 10 * l) := fun l j hl hj => e _ (by omega) (fun z => by unfold nuK at z; omega)
  have ca : ∀ c j : Nat, c < 40 → (j = 0 ∨ j = 1 ∨ j = 2 ∨ j = 5 ∨ j = 6 ∨ j = 7 ∨ j = 9) → R2 (70 + j + 10 * c) = R (70 + j + 10 * c) := fun c j hc hj => e _ (by omega) (fun z => by unfold nuK at z; omega)
  have e2 : R2 2 = R 2 := e 2 (by omega) (fun z => by unfold nuK at z; omega)
  have e3 : R2 3 = R 3 := e 3 (by omega) (fun z => by unfold nuK at z; omega)
  have e4 : R2 4 = R 4 := e 4 (by omega) (fun z => by unfold nuK at z; omega)
  refine ⟨?_, fun l hl => ?_, fun l hl => ?_, fun c hc => ?_, ?_⟩
  · have q0 : R2 16 = R 16 := lo 0 6 (by omega) (by omega)
    have q1 : R2 26 = R 26 := lo 1 6 (by omega) (by omega)
    have q2 : R2 36 = R 36 := lo 2 6 (by omega) (by omega)
    have q3 : R2 46 = R 46 := lo 3 6 (by omega) (by omega)
    have q4 : R2 56 = R 56 := lo 4 6 (by omega) (by omega)
    have q5 : R2 66 = R 66 := lo 5 6 (by omega) (by omega)
    unfold c6F at n1 ⊢
    rw [q0, q1, q2, q3, q4, q5, e2]
    exact n1
  · have q6 : R2 (16 + 10 * l) = R (16 + 10 * l) := lo l 6 hl (by omega)
    have q7 : R2 (17 + 10 * l) = R (17 + 10 * l) := lo l 7 hl (by omega)
    rw [q6, q7]
    exact n2 l hl
  · rw [e3] at hl
    have q7 : R2 (17 + 10 * l) = R (17 + 10 * l) := lo l 7 (by omega) (by omega)
    rw [q7, e4, ts_eq (f := ptF R2 l) (g := ptF R l) (R 4).toNat (fun c hc => pt_cg (lo l 0 (by omega) (by omega)) (lo l 1 (by omega) (by omega)) (lo l 2 (by omega) (by omega)) (ca c 0 (by omega) (by omega)) (ca c 1 (by omega) (by omega)) (ca c 2 (by omega) (by omega)) (ca c 5 (by omega) (by omega)) (ca c 7 (by omega) (by omega)) (by
      have q9 : R2 (79 + 10 * c) = R (79 + 10 * c) := ca c 9 (by omega) (by omega)
      rw [q9]))]
    exact n3 l hl
  · have q7 : R2 (77 + 10 * c) = R (77 + 10 * c) := ca c 7 hc (by omega)
    rw [q7]
    exact n4 c hc
  · rw [e4, ts_eq (f := wcF R2) (g := wcF R) (R 4).toNat (fun c hc => ?_)]
    · exact n5
    · have q6 : R2 (76 + 10 * c) = R (76 + 10 * c) := ca c 6 (by omega) (by omega)
      have q7 : R2 (77 + 10 * c) = R (77 + 10 * c) := ca c 7 (by omega) (by omega)
      unfold wcF
      rw [q6, q7]
/-! moves -/
def gwF (R R2 : rw_) (c : Nat) : Prop := R2 (72 + 10 * c) = R (72 + 10 * c) ∧ R2 (79 + 10 * c) = R (79 + 10 * c) ∧ R2 (77 + 10 * c) + R2 (76 + 10 * c) ≤ R (77 + 10 * c) + R (76 + 10 * c) ∧ R (77 + 10 * c) ≤ R2 (77 + 10 * c) ∧ R (71 + 10 * c) + R (77 + 10 * c) ≤ R2 (71 + 10 * c) + R2 (77 + 10 * c) ∧ (R2 (71 + 10 * c) + R2 (77 + 10 * c) = R (71 + 10 * c) + R (77 + 10 * c) → R2 (70 + 10 * c) = R (70 + 10 * c) ∧ R2 (71 + 10 * c) = R (71 + 10 * c) ∧ (R2 (75 + 10 * c) = 0 → R (75 + 10 * c) = 0))
theorem gw_rf {R : rw_} {c : Nat} : gwF R R c := ⟨rfl, rfl, Int.le_refl _, Int.le_refl _, Int.le_refl _, fun _ => ⟨rfl, rfl, fun z => z⟩⟩
theorem gw_tr {R R2 R3 : rw_} {c : Nat} (a : gwF R R2 c) (b : gwF R2 R3 c) : gwF R R3 c := by
  obtain ⟨a1, a2, a3, a4, a5, a6⟩ := a
  obtain ⟨b1, b2, b3, b4, b5, b6⟩ := b
  refine ⟨b1.trans a1, b2.trans a2, by omega, by omega, by omega, fun q => ?_⟩
  have x := a6 (by omega)
  have y := b6 (by omega)
  exact ⟨y.1.trans x.1, y.2.1.trans x.2.1, fun z => x.2.2 (y.2.2 z)⟩
theorem mv_gw {R C : rw_} {c : Nat} (hon : R (75 + 10 * c) = 0) (c2 : Nat) : gwF R (mvF R C c).1 c2 := by
  by_cases q : c2 = c
  · subst q
    unfold mvF
    split
    next hc =>
      obtain ⟨a0, a1, a2, a3, a4, a5, a6, a7, a8, a9⟩ := chg_at (R := R) (c := c2)
      have w := hc.1
      show gwF R (chgF R c2) c2
      unfold gwF
      rw [a0, a1, a2, a5, a6, a7, a9]
      exact ⟨rfl, rfl, by omega, by omega, by omega, fun z => by omega⟩
    next =>
      obtain ⟨a0, a1, a2, a3, a4, a5, a6, a7, a8, a9⟩ := on_at (R := R) (c := c2) (m := adv R C c2)
      show gwF R (onF R c2 (adv R C c2)) c2
      unfold gwF
      rw [a0, a1, a2, a6, a7, a9]
      exact ⟨rfl, rfl, Int.le_refl _, Int.le_refl _, by omega, fun z => ⟨rfl, by omega, fun _ => hon⟩⟩
  · have e : ∀ k, 70 + 10 * c2 ≤ k → k < 80 + 10 * c2 → (mvF R C c).1 k = R k := fun k h1 h2 => mvF_ne (by omega)
    unfold gwF
    rw [e (70 + 10 * c2) (by omega) (by omega), e (71 + 10 * c2) (by omega) (by omega), e (72 + 10 * c2) (by omega) (by omega), e (75 + 10 * c2) (by omega) (by omega), e (76 + 10 * c2) (by omega) (by omega), e (77 + 10 * c2) (by omega) (by omega), e (79 + 10 * c2) (by omega) (by omega)]
    exact gw_rf
theorem mov_gw {R C : rw_} {O : Nat → Nat} {n : Nat} (hW : WF R) (hL : LayOK R C) (h2 : ∀ j, j < n → (O j : Int) < R 4 ∧ R (75 + 10 * O j) = 0) (h3 : ∀ i j, i < n → j < n → i ≠ j → O i ≠ O j) (c : Nat) : ∀ k, k ≤ n → gwF R (movN R C O k).1 c := by
  intro k
  induction k with
  | zero => intro _; exact gw_rf
  | succ k ih =>
    intro hk
    rw [mov_s]
    exact gw_tr (ih (by omega)) (mv_gw ((mov_ok hW hL h2 h3 k (by omega)).2.2.2.2 k (Nat.le_refl k) (by omega)) c)
theorem ma_gw {R C : rw_} (hW : WF R) (hL : LayOK R C) (c : Nat) : gwF R (maF R C).1 c := by
  obtain ⟨a, b, d⟩ := ord_rd hW
  exact mov_gw hW hL a b c _ (Nat.le_refl _)
/-! the set of the loops that a car is over, passings -/
theorem tb_A : ∀ n : Fin 6, ∀ a : Fin 64, a.val < 2 ^ n.val → ∀ l : Fin 6, (a.val + 2 ^ n.val).testBit l.val = (if l.val = n.val then true else a.val.testBit l.val) := by decide +kernel
theorem tb_O : ∀ n : Fin 6, ∀ a : Fin 64, ∀ l : Fin 6, l.val ≠ n.val → (a.val ||| 2 ^ n.val).testBit l.val = a.val.testBit l.val := by decide +kernel
theorem ov_bit {R : rw_} {c l : Nat} : ∀ n, n ≤ 6 → l < n → ((ovF R c n).testBit l = true ↔ isOv R c l) := by
  intro n
  induction n with
  | zero => intro _ h; omega
  | succ n ih =>
    intro hn hl
    have lt := ovF_lt R c n
    have p6 := pow6 (l := n) (by omega)
    have t := tb_A ⟨n, by omega⟩ ⟨ovF R c n, by omega⟩ lt ⟨l, by omega⟩
    dsimp only at t
    rw [ovF]
    by_cases e : l = n
    · rw [if_pos e] at t
      by_cases q : isOv R c n
      · rw [if_pos q, t, e]
        exact ⟨fun _ => q, fun _ => rfl⟩
      · rw [if_neg q, Nat.add_zero, e, Nat.testBit_lt_two_pow lt]
        exact ⟨fun z => absurd z (by decide), fun z => absurd z q⟩
    · rw [if_neg e] at t
      have i := ih (by omega) (by omega)
      by_cases q : isOv R c n
      · rw [if_pos q, t]; exact i
      · rw [if_neg q, Nat.add_zero]; exact i
theorem pc_at {R : rw_} {b : Nat → Int} {l : Nat} : ∀ n : Nat, l < n → pcF R b n (17 + 10 * l) = R (17 + 10 * l) + b l := by
  intro n
  induction n with
  | zero => intro h; omega
  | succ n ih =>
    intro h
    rw [pc_s]
    by_cases e : l = n
    · rw [e, up_at, pc_ne (fun j hj => by omega)]
    · rw [up_ne (by omega), ih (by omega)]
theorem pas_17 {R : rw_} {c l : Nat} (hl : l < (R 3).toNat) : pasF R c (17 + 10 * l) = R (17 + 10 * l) + pbF (ovF R c (R 3).toNat) (R (79 + 10 * c)) l := by
  unfold pasF
  rw [up_ne (by omega), psl_pc, pc_at _ hl]
theorem pasN_ne {R : rw_} (hl : R 3 ≤ 6) {k : Nat} (h9 : ∀ c, k ≠ 79 + 10 * c) (h7 : ∀ j, j < 6 → k ≠ 17 + 10 * j) : ∀ n, pasN R n k = R k := by
  intro n
  induction n with
  | zero => rfl
  | succ n ih => rw [pasN, pas_ne (by rw [(pasN_4 hl n).2]; exact hl) (h9 n) h7, ih]
theorem ov_cg {R R2 : rw_} {c : Nat} (g : ∀ l j : Nat, j < 3 → R2 (10 + j + 10 * l) = R (10 + j + 10 * l)) (h5 : R2 (75 + 10 * c) = R (75 + 10 * c)) (h0 : R2 (70 + 10 * c) = R (70 + 10 * c)) (h1 : R2 (71 + 10 * c) = R (71 + 10 * c)) (h2 : R2 (72 + 10 * c) = R (72 + 10 * c)) : ∀ n : Nat, ovF R2 c n = ovF R c n := by
  intro n
  induction n with
  | zero => rfl
  | succ n ih =>
    have g0 : R2 (10 + 10 * n) = R (10 + 10 * n) := g n 0 (by omega)
    have g1 : R2 (11 + 10 * n) = R (11 + 10 * n) := g n 1 (by omega)
    have g2 : R2 (12 + 10 * n) = R (12 + 10 * n) := g n 2 (by omega)
    rw [ovF, ovF, ih]
    unfold isOv lasF
    rw [h0, h1, h2, h5, g0, g1, g2]
theorem pasN_ov {R : rw_} (hl : R 3 ≤ 6) {c n : Nat} (m : Nat) : ovF (pasN R n) c m = ovF R c m := ov_cg (fun l j hj => pasN_ne hl (by omega) (by omega) n) (pasN_ne hl (by omega) (by omega) n) (pasN_ne hl (by omega) (by omega) n) (pasN_ne hl (by omega) (by omega) n) (pasN_ne hl (by omega) (by omega) n) m
theorem pasN_79 {R : rw_} (hl : R 3 ≤ 6) {c : Nat} : ∀ n : Nat, pasN R n (79 + 10 * c) = if c < n then ((ovF R c (R 3).toNat : Nat) : Int) else R (79 + 10 * c) := by
  intro n
  induction n with
  | zero => rw [if_neg (by omega)]; rfl
  | succ n ih =>
    rw [pasN]
    by_cases e : c = n
    · rw [e, pas_at, (pasN_4 hl n).2, pasN_ov hl, if_pos (by omega)]
    · rw [pas_ne (by rw [(pasN_4 hl n).2]; exact hl) (by omega) (by omega), ih]
      by_cases q : c < n
      · rw [if_pos q, if_pos (by omega)]
      · rw [if_neg q, if_neg (by omega)]
theorem pasN_17 {R : rw_} (hl : R 3 ≤ 6) {l : Nat} (h : l < (R 3).toNat) : ∀ n : Nat, pasN R n (17 + 10 * l) = R (17 + 10 * l) + tsF (fun c => pbF (ovF R c (R 3).toNat) (R (79 + 10 * c)) l) n := by
  intro n
  induction n with
  | zero => exact (Int.add_zero _).symm
  | succ n ih =>
    rw [pasN, pas_17 (by rw [(pasN_4 hl n).2]; exact h), ih, ts_s, (pasN_4 hl n).2, pasN_ov hl, pasN_79 hl n, if_neg (by omega)]
    omega
theorem pb_01 {a b : Int} {l : Nat} : 0 ≤ pbF a b l ∧ pbF a b l ≤ 1 := by
  unfold pbF
  split <;> omega
theorem nu_pass {B : Int} {R A : rw_} (hW : WF R) (hA : WF A) (lo : ∀ k, k < 70 → A k = R k) (gw : ∀ c, gwF R A c) (hN : nuX B R) : nuX B (pasN A (R 4).toNat) := by
  obtain ⟨n1, n2, n3, n4, n5⟩ := hN
  have hb := hW.c
  have hl := hW.l
  have hl2 := hA.l
  have e2 := lo 2 (by omega)
  have e3 := lo 3 (by omega)
  have e4 := lo 4 (by omega)
  have ne : ∀ k, (∀ c, k ≠ 79 + 10 * c) → (∀ j, j < 6 → k ≠ 17 + 10 * j) → pasN A (R 4).toNat k = A k := fun k h9 h7 => pasN_ne hl2.2 h9 h7 _
  have p3 := (pasN_4 hl2.2 (R 4).toNat).2
  have p4 := (pasN_4 hl2.2 (R 4).toNat).1
  have at17 : ∀ l : Nat, (l : Int) < R 3 → pasN A (R 4).toNat (17 + 10 * l) = R (17 + 10 * l) + tsF (fun c => pbF (ovF A c (A 3).toNat) (A (79 + 10 * c)) l) (R 4).toNat := fun l h => by
    rw [pasN_17 hl2.2 (by rw [e3]; omega), lo (17 + 10 * l) (by omega)]
  refine ⟨?_, fun l h => ?_, fun l h => ?_, fun c hc => ?_, ?_⟩
  · unfold c6F at n1 ⊢
    rw [ne 16 (by omega) (by omega), ne 26 (by omega) (by omega), ne 36 (by omega) (by omega), ne 46 (by omega) (by omega), ne 56 (by omega) (by omega), ne 66 (by omega) (by omega), ne 2 (by omega) (by omega), lo 16 (by omega), lo 26 (by omega), lo 36 (by omega), lo 46 (by omega), lo 56 (by omega), lo 66 (by omega), e2]
    exact n1
  · have x := n2 l h
    rw [ne (16 + 10 * l) (by omega) (by omega), lo (16 + 10 * l) (by omega)]
    refine ⟨x.1, ?_⟩
    by_cases q : (l : Int) < R 3
    · rw [at17 l q]
      have y := ts_nn (f := fun c => pbF (ovF A c (A 3).toNat) (A (79 + 10 * c)) l) (R 4).toNat (fun c _ => pb_01.1)
      omega
    · have w := hA.2.2.2.2 l 7 (by omega) h (by omega)
      have z : ∀ n : Nat, pasN A n (17 + 10 * l) = A (17 + 10 * l) := by
        intro n
        induction n with
        | zero => rfl
        | succ n ih =>
          rw [pasN]
          unfold pasF
          rw [up_ne (by omega), psl_pc, pc_ne (fun j hj => by rw [(pasN_4 hl2.2 n).2, e3] at hj; omega), ih]
      rw [z, lo (17 + 10 * l) (by omega)]
      exact x.2
  · rw [p3, e3] at h
    rw [at17 l h, p4, e4]
    have a := n3 l h
    have s := ts_add (f := ptF R l) (g := fun c => pbF (ovF A c (A 3).toNat) (A (79 + 10 * c)) l) (R 4).toNat
    have t := ts_le (f := fun c => ptF R l c + pbF (ovF A c (A 3).toNat) (A (79 + 10 * c)) l) (g := ptF (pasN A (R 4).toNat) l) (R 4).toNat (fun c hc => ?_)
    · omega
    · obtain ⟨g1, g2, g3, g4, g5, g6⟩ := gw c
      have ob := ov_bit (R := A) (c := c) (l := l) (A 3).toNat (by omega) (by omega)
      have l0 := lo (10 + 10 * l) (by omega)
      have l1 := lo (11 + 10 * l) (by omega)
      have l2 := lo (12 + 10 * l) (by omega)
      -- behind the passings the car is over what it was said to be over
      have right : ptF (pasN A (R 4).toNat) l c = A (71 + 10 * c) + A (77 + 10 * c) + 1 := by
        rw [← ne (71 + 10 * c) (by omega) (by omega), ← ne (77 + 10 * c) (by omega) (by omega)]
        refine pt_one (fun z => ?_)
        have z2 := z.2
        rw [pasN_79 hl2.2, if_pos hc, Int.toNat_natCast] at z2
        have o2 : isOv A c l := by
          have z1 := z.1
          unfold isOv lasF at z1 ⊢
          rw [ne (70 + 10 * c) (by omega) (by omega), ne (71 + 10 * c) (by omega) (by omega), ne (72 + 10 * c) (by omega) (by omega), ne (75 + 10 * c) (by omega) (by omega), ne (10 + 10 * l) (by omega) (by omega), ne (11 + 10 * l) (by omega) (by omega), ne (12 + 10 * l) (by omega) (by omega)] at z1
          exact z1
        have o3 := ob.mpr o2
        rw [z2] at o3
        cases o3
      have rg := pt_rng (R := R) (l := l) (c := c)
      rw [right]
      unfold pbF
      rw [Int.toNat_natCast, g2]
      by_cases q : (ovF A c (A 3).toNat).testBit l = true
      · have o2 := ob.mp q
        by_cases q2 : (R (79 + 10 * c)).toNat.testBit l = true
        · rw [q, q2]
          show _ + (if (true && !true) = true then (1 : Int) else 0) ≤ _
          rw [if_neg (by decide)]
          omega
        · have q3 : (R (79 + 10 * c)).toNat.testBit l = false := by
            cases hh : (R (79 + 10 * c)).toNat.testBit l
            · rfl
            · exact absurd hh q2
          rw [q, q3]
          show _ + (if (true && !false) = true then (1 : Int) else 0) ≤ _
          rw [if_pos (by decide)]
          by_cases q4 : A (71 + 10 * c) + A (77 + 10 * c) = R (71 + 10 * c) + R (77 + 10 * c)
          · have x := g6 q4
            have o4 : isOv R c l := by
              unfold isOv lasF at o2 ⊢
              rw [x.1, x.2.1, g1, l0, l1, l2] at o2
              exact ⟨x.2.2 o2.1, o2.2⟩
            rw [pt_nul ⟨o4, q3⟩]
            omega
          · omega
      · have q1 : (ovF A c (A 3).toNat).testBit l = false := by
          cases hh : (ovF A c (A 3).toNat).testBit l
          · rfl
          · exact absurd hh q
        rw [q1]
        show _ + (if (false && !(R (79 + 10 * c)).toNat.testBit l) = true then (1 : Int) else 0) ≤ _
        rw [Bool.false_and, if_neg (by decide)]
        omega
  · have g := gw c
    rw [ne (77 + 10 * c) (by omega) (by omega)]
    have := g.2.2.2.1
    have := n4 c hc
    omega
  · rw [p4, e4]
    have t := ts_le (f := wcF (pasN A (R 4).toNat)) (g := wcF R) (R 4).toNat (fun c hc => by
      unfold wcF
      rw [ne (77 + 10 * c) (by omega) (by omega), ne (76 + 10 * c) (by omega) (by omega)]
      exact (gw c).2.2.1)
    omega
/-! listening, ticks -/
theorem hea_16 {R : rw_} {l : Nat} {s : Int} : R (16 + 10 * l) ≤ heaF R l s (16 + 10 * l) ∧ heaF R l s (16 + 10 * l) ≤ R (16 + 10 * l) + 1 := by
  unfold heaF
  split
  · rw [up_at]; omega
  · split
    · rw [up_ne (by omega), up_ne (by omega)]; omega
    · rw [up_ne (by omega)]; omega
theorem hea_c6 {R : rw_} {l : Nat} {s : Int} (hl : l < 6) : c6F (heaF R l s) ≤ c6F R + 1 := by
  have a := hea_16 (R := R) (l := l) (s := s)
  have e : ∀ j, j ≠ l → heaF R l s (16 + 10 * j) = R (16 + 10 * j) := fun j hj => heaF_ne2 (by omega) (by omega) (by omega)
  unfold c6F
  rcases (by omega : l = 0 ∨ l = 1 ∨ l = 2 ∨ l = 3 ∨ l = 4 ∨ l = 5) with rfl | rfl | rfl | rfl | rfl | rfl
  · have a2 : R 16 ≤ heaF R 0 s 16 ∧ heaF R 0 s 16 ≤ R 16 + 1 := a
    have e1 : heaF R 0 s 26 = R 26 := e 1 (by omega)
    have e2 : heaF R 0 s 36 = R 36 := e 2 (by omega)
    have e3 : heaF R 0 s 46 = R 46 := e 3 (by omega)
    have e4 : heaF R 0 s 56 = R 56 := e 4 (by omega)
    have e5 : heaF R 0 s 66 = R 66 := e 5 (by omega)
    omega
  · have a2 : R 26 ≤ heaF R 1 s 26 ∧ heaF R 1 s 26 ≤ R 26 + 1 := a
    have e0 : heaF R 1 s 16 = R 16 := e 0 (by omega)
    have e2 : heaF R 1 s 36 = R 36 := e 2 (by omega)
    have e3 : heaF R 1 s 46 = R 46 := e 3 (by omega)
    have e4 : heaF R 1 s 56 = R 56 := e 4 (by omega)
    have e5 : heaF R 1 s 66 = R 66 := e 5 (by omega)
    omega
  · have a2 : R 36 ≤ heaF R 2 s 36 ∧ heaF R 2 s 36 ≤ R 36 + 1 := a
    have e0 : heaF R 2 s 16 = R 16 := e 0 (by omega)
    have e1 : heaF R 2 s 26 = R 26 := e 1 (by omega)
    have e3 : heaF R 2 s 46 = R 46 := e 3 (by omega)
    have e4 : heaF R 2 s 56 = R 56 := e 4 (by omega)
    have e5 : heaF R 2 s 66 = R 66 := e 5 (by omega)
    omega
  · have a2 : R 46 ≤ heaF R 3 s 46 ∧ heaF R 3 s 46 ≤ R 46 + 1 := a
    have e0 : heaF R 3 s 16 = R 16 := e 0 (by omega)
    have e1 : heaF R 3 s 26 = R 26 := e 1 (by omega)
    have e2 : heaF R 3 s 36 = R 36 := e 2 (by omega)
    have e4 : heaF R 3 s 56 = R 56 := e 4 (by omega)
    have e5 : heaF R 3 s 66 = R 66 := e 5 (by omega)
    omega
  · have a2 : R 56 ≤ heaF R 4 s 56 ∧ heaF R 4 s 56 ≤ R 56 + 1 := a
    have e0 : heaF R 4 s 16 = R 16 := e 0 (by omega)
    have e1 : heaF R 4 s 26 = R 26 := e 1 (by omega)
    have e2 : heaF R 4 s 36 = R 36 := e 2 (by omega)
    have e3 : heaF R 4 s 46 = R 46 := e 3 (by omega)
    have e5 : heaF R 4 s 66 = R 66 := e 5 (by omega)
    omega
  · have a2 : R 66 ≤ heaF R 5 s 66 ∧ heaF R 5 s 66 ≤ R 66 + 1 := a
    have e0 : heaF R 5 s 16 = R 16 := e 0 (by omega)
    have e1 : heaF R 5 s 26 = R 26 := e 1 (by omega)
    have e2 : heaF R 5 s 36 = R 36 := e 2 (by omega)
    have e3 : heaF R 5 s 46 = R 46 := e 3 (by omega)
    have e4 : heaF R 5 s 56 = R 56 := e 4 (by omega)
    omega
theorem nu_hea {B : Int} {R : rw_} {l : Nat} {s v : Int} (h3 : R 3 ≤ 6) (h4 : R 4 ≤ 40) (hl : l < 6) (hv : v = R 2 + 1) (hN : nuX B R) : nuX B (up (heaF R l s) 2 v) := by
  obtain ⟨n1, n2, n3, n4, n5⟩ := hN
  have ne : ∀ k, k ≠ 2 → k ≠ 15 + 10 * l → k ≠ 16 + 10 * l → k ≠ 19 + 10 * l → up (heaF R l s) 2 v k = R k := fun k h1 h2 h3 h4 => by rw [up_ne h1, heaF_ne2 h2 h3 h4]
  have e3 := ne 3 (by omega) (by omega) (by omega) (by omega)
  have e4 := ne 4 (by omega) (by omega) (by omega) (by omega)
  have c6 := hea_c6 (R := R) (s := s) hl
  refine ⟨?_, fun j hj => ?_, fun j hj => ?_, fun c hc => ?_, ?_⟩
  · unfold c6F at *
    rw [up_ne (k := 2) (j := 16) (by omega), up_ne (k := 2) (j := 26) (by omega), up_ne (k := 2) (j := 36) (by omega), up_ne (k := 2) (j := 46) (by omega), up_ne (k := 2) (j := 56) (by omega), up_ne (k := 2) (j := 66) (by omega), up_at]
    omega
  · rw [ne (17 + 10 * j) (by omega) (by omega) (by omega) (by omega)]
    refine ⟨?_, (n2 j hj).2⟩
    have x := (n2 j hj).1
    by_cases q : j = l
    · have a := (hea_16 (R := R) (l := l) (s := s)).1
      rw [up_ne (by omega), q]
      rw [q] at x
      omega
    · rw [ne (16 + 10 * j) (by omega) (by omega) (by omega) (by omega)]
      exact x
  · rw [e3] at hj
    rw [ne (17 + 10 * j) (by omega) (by omega) (by omega) (by omega), e4, ts_eq (f := ptF (up (heaF R l s) 2 v) j) (g := ptF R j) (R 4).toNat (fun c hc => pt_cg (ne _ (by omega) (by omega) (by omega) (by omega)) (ne _ (by omega) (by omega) (by omega) (by omega)) (ne _ (by omega) (by omega) (by omega) (by omega)) (ne _ (by omega) (by omega) (by omega) (by omega)) (ne _ (by omega) (by omega) (by omega) (by omega)) (ne _ (by omega) (by omega) (by omega) (by omega)) (ne _ (by omega) (by omega) (by omega) (by omega)) (ne _ (by omega) (by omega) (by omega) (by omega)) (by rw [ne (79 + 10 * c) (by omega) (by omega) (by omega) (by omega)]))]
    exact n3 j hj
  · rw [ne (77 + 10 * c) (by omega) (by omega) (by omega) (by omega)]
    exact n4 c hc
  · rw [e4, ts_eq (f := wcF (up (heaF R l s) 2 v)) (g := wcF R) (R 4).toNat (fun c hc => by
      unfold wcF
      rw [ne (77 + 10 * c) (by omega) (by omega) (by omega) (by omega), ne (76 + 10 * c) (by omega) (by omega) (by omega) (by omega)])]
    exact n5
theorem nu_2 {B : Int} {R : rw_} {v : Int} (h3 : R 3 ≤ 6) (h4 : R 4 ≤ 40) (hv : R 2 ≤ v) (hN : nuX B R) : nuX B (up R 2 v) := by
  obtain ⟨n1, n2, n3, n4, n5⟩ := hN
  have ne : ∀ k, k ≠ 2 → up R 2 v k = R k := fun k h1 => up_ne h1
  have e3 := ne 3 (by omega)
  have e4 := ne 4 (by omega)
  refine ⟨?_, fun j hj => ?_, fun j hj => ?_, fun c hc => ?_, ?_⟩
  · unfold c6F at *
    rw [ne 16 (by omega), ne 26 (by omega), ne 36 (by omega), ne 46 (by omega), ne 56 (by omega), ne 66 (by omega), up_at]
    omega
  · rw [ne (17 + 10 * j) (by omega), ne (16 + 10 * j) (by omega)]
    exact n2 j hj
  · rw [e3] at hj
    rw [ne (17 + 10 * j) (by omega), e4, ts_eq (f := ptF (up R 2 v) j) (g := ptF R j) (R 4).toNat (fun c hc => pt_cg (ne _ (by omega)) (ne _ (by omega)) (ne _ (by omega)) (ne _ (by omega)) (ne _ (by omega)) (ne _ (by omega)) (ne _ (by omega)) (ne _ (by omega)) (by rw [ne (79 + 10 * c) (by omega)]))]
    exact n3 j hj
  · rw [ne (77 + 10 * c) (by omega)]
    exact n4 c hc
  · rw [e4, ts_eq (f := wcF (up R 2 v)) (g := wcF R) (R 4).toNat (fun c hc => by
      unfold wcF
      rw [ne (77 + 10 * c) (by omega), ne (76 + 10 * c) (by omega)])]
    exact n5
theorem ps_nu {B : Int} {R C : rw_} (hW : WF R) (hL : LayOK R C) (hN : nuX B R) (l : Int) : nuX B (psF R C l).1 := by
  obtain ⟨m1, m2, m3, m4⟩ := ma_ok hW hL
  have hl := m1.l
  have hc := m1.c
  have p := nu_pass hW m1 (fun k hk => ma_low hk) (ma_gw hW hL) hN
  have q4 := pasN_4 hl.2 (R 4).toNat
  have q2 : pasN (maF R C).1 (R 4).toNat 2 = R 2 := by rw [pasN_lo hl.2 (by omega), ma_low (by omega)]
  unfold psF
  dsimp only
  by_cases q : 0 ≤ l ∧ l < R 3
  · rw [if_pos q]
    exact nu_hea (by omega) (by omega) (by omega) (by omega) p
  · rw [if_neg q]
    exact nu_2 (by omega) (by omega) (by omega) p
theorem tk_nu {B : Int} {R C : rw_} (hW : WF R) (hL : LayOK R C) (hN : nuX B R) : ∀ n, nuX B (tkN R C n).1 := by
  intro n
  induction n with
  | zero => exact hN
  | succ n ih =>
    obtain ⟨a, b⟩ := tk_ok hW hL n
    rw [tk_s]
    exact ps_nu a b ih _
/-! changes -/
theorem spS_nu {B : Int} {R : rw_} (hW : WF R) (hN : nuX B R) (s v : Int) : nuX B (spS R s v).1 := by
  have hc := hW.c
  have hl := hW.l
  unfold spS
  split
  · exact nu_cg hl.2 hc.2 (fun k _ hk => up_ne (fun z => hk (by unfold nuK; omega))) hN
  · split
    · exact nu_cg hl.2 hc.2 (fun k _ hk => up_ne (fun z => hk (by unfold nuK; omega))) hN
    · exact hN
theorem spB_nu {B : Int} {R : rw_} (hW : WF R) (hN : nuX B R) (l u lo : Int) : nuX B (spB R l u lo).1 := by
  have hc := hW.c
  have hl := hW.l
  unfold spB
  split
  next q =>
    split
    · exact nu_cg hl.2 hc.2 (fun k _ hk => by
        dsimp only
        rw [up_ne (fun z => hk (by unfold nuK; omega)), up_ne (fun z => hk (by unfold nuK; omega))]) hN
    · exact hN
  next => exact hN
theorem spV_nu {B : Int} {R : rw_} (hW : WF R) (hN : nuX B R) (a v : Int) : nuX B (spV R a v).1 := by
  have hc := hW.c
  have hl := hW.l
  unfold spV
  split
  · split
    · split
      · exact nu_cg hl.2 hc.2 (fun k _ hk => up_ne (fun z => hk (by unfold nuK; omega))) hN
      · exact hN
    · exact hN
  · exact hN
theorem spW_nu {B : Int} {R : rw_} (hW : WF R) (hN : nuX B R) (a : Int) : nuX (B + 75) (spW R a).1 := by
  have hc := hW.c
  have hl := hW.l
  unfold spW
  split
  next q =>
    split
    next q2 =>
      have w := hW.2.1 a.toNat (by omega)
      unfold WFc at w
      dsimp only
      obtain ⟨n1, n2, n3, n4, n5⟩ := hN
      have ne : ∀ k, k ≠ 76 + 10 * a.toNat → up R (76 + 10 * a.toNat) (1 - R (76 + 10 * a.toNat)) k = R k := fun k hk => up_ne hk
      have e3 := ne 3 (by omega)
      have e4 := ne 4 (by omega)
      refine ⟨?_, fun j hj => ?_, fun j hj => ?_, fun c hc => ?_, ?_⟩
      · unfold c6F at *
        rw [ne 16 (by omega), ne 26 (by omega), ne 36 (by omega), ne 46 (by omega), ne 56 (by omega), ne 66 (by omega), ne 2 (by omega)]
        exact n1
      · rw [ne (17 + 10 * j) (by omega), ne (16 + 10 * j) (by omega)]
        exact n2 j hj
      · rw [e3] at hj
        rw [ne (17 + 10 * j) (by omega), e4, ts_eq (f := ptF (up R (76 + 10 * a.toNat) (1 - R (76 + 10 * a.toNat))) j) (g := ptF R j) (R 4).toNat (fun c hc => pt_cg (ne _ (by omega)) (ne _ (by omega)) (ne _ (by omega)) (ne _ (by omega)) (ne _ (by omega)) (ne _ (by omega)) (ne _ (by omega)) (ne _ (by omega)) (by rw [ne (79 + 10 * c) (by omega)]))]
        exact n3 j hj
      · rw [ne (77 + 10 * c) (by omega)]
        exact n4 c hc
      · have o := ts_one (f := wcF R) (g := wcF (up R (76 + 10 * a.toNat) (1 - R (76 + 10 * a.toNat)))) (a := a.toNat) (d := 1) (by omega) (by
          unfold wcF
          rw [ne (77 + 10 * a.toNat) (by omega), up_at]
          omega) (fun c hc => by
          unfold wcF
          rw [ne (77 + 10 * c) (by omega), ne (76 + 10 * c) (by omega)]
          exact Int.le_refl _) (R 4).toNat
        rw [e4]
        have o2 : (if a.toNat < (R 4).toNat then (1 : Int) else 0) ≤ 1 := by split <;> omega
        omega
    next => exact hN.mono (by omega)
  next => exact hN.mono (by omega)
theorem spC_nu {B : Int} {R C : rw_} (hW : WF R) (hL : LayOK R C) (hN : nuX B R) (L len sp me : Int) : nuX B (spC R C L len sp me).1.1 := by
  have hc := hW.c
  have hl := hW.l
  unfold spC
  split
  next q =>
    split
    next q1 =>
      split
      next q2 =>
        obtain ⟨-, -, e4, hu, v0, v1, v2, v3, v4, vz⟩ := newC_ok hW hL q q1 q2
        have v6 : newC R L len sp me (76 + 10 * (R 4).toNat) = 0 := by
          have := vz 6 (by omega) (by omega)
          rw [show 70 + 10 * (R 4).toNat + 6 = 76 + 10 * (R 4).toNat by omega] at this
          exact this
        have v7 : newC R L len sp me (77 + 10 * (R 4).toNat) = 0 := by
          have := vz 7 (by omega) (by omega)
          rw [show 70 + 10 * (R 4).toNat + 7 = 77 + 10 * (R 4).toNat by omega] at this
          exact this
        dsimp only
        obtain ⟨n1, n2, n3, n4, n5⟩ := hN
        have n : (R 4 + 1).toNat = (R 4).toNat + 1 := by omega
        have e3 := hu 3 (by omega) (by omega)
        refine ⟨?_, fun j hj => ?_, fun j hj => ?_, fun c hc => ?_, ?_⟩
        · unfold c6F at *
          rw [hu 16 (by omega) (by omega), hu 26 (by omega) (by omega), hu 36 (by omega) (by omega), hu 46 (by omega) (by omega), hu 56 (by omega) (by omega), hu 66 (by omega) (by omega), hu 2 (by omega) (by omega)]
          exact n1
        · rw [hu (17 + 10 * j) (by omega) (by omega), hu (16 + 10 * j) (by omega) (by omega)]
          exact n2 j hj
        · rw [e3] at hj
          rw [hu (17 + 10 * j) (by omega) (by omega), e4, n, ts_s, ts_eq (f := ptF (newC R L len sp me) j) (g := ptF R j) (R 4).toNat (fun c hc => pt_cg (hu _ (by omega) (by omega)) (hu _ (by omega) (by omega)) (hu _ (by omega) (by omega)) (hu _ (by omega) (by omega)) (hu _ (by omega) (by omega)) (hu _ (by omega) (by omega)) (hu _ (by omega) (by omega)) (hu _ (by omega) (by omega)) (by rw [hu (79 + 10 * c) (by omega) (by omega)]))]
          have x := n3 j hj
          have y : 0 ≤ ptF (newC R L len sp me) j (R 4).toNat := by
            have rg := pt_rng (R := newC R L len sp me) (l := j) (c := (R 4).toNat)
            rw [v1, v7] at rg
            omega
          omega
        · by_cases e : c = (R 4).toNat
          · rw [e, v7]; exact Int.le_refl 0
          · rw [hu (77 + 10 * c) (by omega) (by omega)]
            exact n4 c hc
        · rw [e4, n, ts_s, ts_eq (f := wcF (newC R L len sp me)) (g := wcF R) (R 4).toNat (fun c hc => by
            unfold wcF
            rw [hu (77 + 10 * c) (by omega) (by omega), hu (76 + 10 * c) (by omega) (by omega)])]
          have y : wcF (newC R L len sp me) (R 4).toNat = 0 := by
            unfold wcF
            rw [v6, v7]
            rfl
          omega
      next => exact hN
    next => exact hN
  next => exact hN
theorem ovB_bit {R : rw_} {c l j : Nat} (h : 0 ≤ R (79 + 10 * c) ∧ R (79 + 10 * c) < 64) (hl : l < 6) (hj : j < 6) (hn : j ≠ l) : (ovB R c l).toNat.testBit j = (R (79 + 10 * c)).toNat.testBit j := by
  unfold ovB
  split
  · rw [Int.toNat_natCast]
    exact tb_O ⟨l, hl⟩ ⟨(R (79 + 10 * c)).toNat, by omega⟩ ⟨j, hj⟩ hn
  · rfl
theorem ovA_bit {R : rw_} {l j c : Nat} (h : ∀ c : Nat, c < 40 → 0 ≤ R (79 + 10 * c) ∧ R (79 + 10 * c) < 64) (hl : l < 6) (hj : j < 6) (hn : j ≠ l) (hc : c < 40) : ∀ n : Nat, n ≤ 40 → (0 ≤ ovA R l n (79 + 10 * c) ∧ ovA R l n (79 + 10 * c) < 64) ∧ (ovA R l n (79 + 10 * c)).toNat.testBit j = (R (79 + 10 * c)).toNat.testBit j := by
  intro n
  induction n with
  | zero => intro _; exact ⟨h c hc, rfl⟩
  | succ n ih =>
    intro hn2
    obtain ⟨a, b⟩ := ih (by omega)
    rw [ovA_s]
    by_cases e : c = n
    · rw [e, up_at]
      rw [e] at a b
      exact ⟨ovB_rng a hl, by rw [ovB_bit a hl hj hn]; exact b⟩
    · rw [up_ne (by omega)]
      exact ⟨a, b⟩
theorem spL_nu {B : Int} {R C : rw_} (hW : WF R) (hL : LayOK R C) (hN : nuX B R) (L x m u lo : Int) : nuX B (spL R L x m u lo).1 := by
  have hc := hW.c
  have hl := hW.l
  unfold spL
  split
  next q =>
    split
    next q1 =>
      obtain ⟨-, -, e3, hu⟩ := newL_ok hW hL q q1
      dsimp only
      obtain ⟨n1, n2, n3, n4, n5⟩ := hN
      have ne : ∀ k, k ≠ 3 → ¬ (10 + 10 * (R 3).toNat ≤ k ∧ k < 15 + 10 * (R 3).toNat) → (∀ c, k ≠ 79 + 10 * c) → ovA (newL R L x m u lo) (R 3).toNat (R 4).toNat k = R k := fun k h1 h2 h3 => by rw [ovA_ne (fun c _ => h3 c), hu k h1 h2]
      have e4 := ne 4 (by omega) (by omega) (by omega)
      have e3b : ovA (newL R L x m u lo) (R 3).toNat (R 4).toNat 3 = R 3 + 1 := by rw [ovA_ne (fun c _ => by omega), e3]
      have r79 : ∀ c : Nat, c < 40 → 0 ≤ newL R L x m u lo (79 + 10 * c) ∧ newL R L x m u lo (79 + 10 * c) < 64 := fun c hc => by
        rw [hu (79 + 10 * c) (by omega) (by omega)]
        by_cases y : (c : Int) < R 4
        · have w := hW.2.1 c y
          unfold WFc at w
          exact w.2.2.2.2.2.2.2.2.2.2.2.2
        · have w := hW.2.2.2.1 c 9 (by omega) hc (by omega)
          rw [show 70 + 10 * c + 9 = 79 + 10 * c by omega] at w
          rw [w]
          omega
      refine ⟨?_, fun j hj => ?_, fun j hj => ?_, fun c hc => ?_, ?_⟩
      · unfold c6F at *
        rw [ne 16 (by omega) (by omega) (by omega), ne 26 (by omega) (by omega) (by omega), ne 36 (by omega) (by omega) (by omega), ne 46 (by omega) (by omega) (by omega), ne 56 (by omega) (by omega) (by omega), ne 66 (by omega) (by omega) (by omega), ne 2 (by omega) (by omega) (by omega)]
        exact n1
      · rw [ne (17 + 10 * j) (by omega) (by omega) (by omega), ne (16 + 10 * j) (by omega) (by omega) (by omega)]
        exact n2 j hj
      · rw [e3b] at hj
        rw [ne (17 + 10 * j) (by omega) (by omega) (by omega), e4]
        by_cases e : j = (R 3).toNat
        · have w := hW.2.2.2.2 j 7 (by omega) (by omega) (by omega)
          rw [show 10 + 10 * j + 7 = 17 + 10 * j by omega] at w
          rw [w]
          refine ts_nn _ (fun c hc => ?_)
          have wc := hW.2.1 c (by omega)
          unfold WFc at wc
          have x7 := n4 c (by omega)
          have rg := pt_rng (R := ovA (newL R L x m u lo) (R 3).toNat (R 4).toNat) (l := j) (c := c)
          rw [ne (71 + 10 * c) (by omega) (by omega) (by omega), ne (77 + 10 * c) (by omega) (by omega) (by omega)] at rg
          omega
        · rw [ts_eq (f := ptF (ovA (newL R L x m u lo) (R 3).toNat (R 4).toNat) j) (g := ptF R j) (R 4).toNat (fun c hc => pt_cg (ne _ (by omega) (by omega) (by omega)) (ne _ (by omega) (by omega) (by omega)) (ne _ (by omega) (by omega) (by omega)) (ne _ (by omega) (by omega) (by omega)) (ne _ (by omega) (by omega) (by omega)) (ne _ (by omega) (by omega) (by omega)) (ne _ (by omega) (by omega) (by omega)) (ne _ (by omega) (by omega) (by omega)) (by
            rw [(ovA_bit r79 (l := (R 3).toNat) (j := j) (c := c) (by omega) (by omega) e (by omega) (R 4).toNat (by omega)).2, hu (79 + 10 * c) (by omega) (by omega)]))]
          exact n3 j (by omega)
      · rw [ne (77 + 10 * c) (by omega) (by omega) (by omega)]
        exact n4 c hc
      · rw [e4, ts_eq (f := wcF (ovA (newL R L x m u lo) (R 3).toNat (R 4).toNat)) (g := wcF R) (R 4).toNat (fun c hc => by
          unfold wcF
          rw [ne (77 + 10 * c) (by omega) (by omega) (by omega), ne (76 + 10 * c) (by omega) (by omega) (by omega)])]
        exact n5
    next => exact hN
  next => exact hN
/-! the errors stay below what the class begins with -/
theorem zM : (1000000 : Int32) = zI 1000000 := by decide
theorem pass_bd {B : Int} {R : rw_} (hW : WF R) (hN : nuX B R) (hB : B ≤ 785000) {l : Nat} (hl : (l : Int) < R 3) : 0 ≤ R (17 + 10 * l) ∧ R (17 + 10 * l) ≤ 12226 := by
  obtain ⟨n1, n2, n3, n4, n5⟩ := hN
  have hc := hW.c
  have h6 := hW.l
  refine ⟨(n2 l (by omega)).2, ?_⟩
  have a := n3 l hl
  have s := ts_add (f := fun _ => (44 : Int)) (g := wcF R) (R 4).toNat
  have t := ts_le (f := ptF R l) (g := fun c => 44 + wcF R c) (R 4).toNat (fun c hc => by
    have wc := hW.2.1 c (by omega)
    unfold WFc at wc
    unfold ptF wcF
    have p01 : (if isOv R c l ∧ (R (79 + 10 * c)).toNat.testBit l = false then (0 : Int) else 1) ≤ 1 := by split <;> omega
    omega)
  have b := ts_bd (f := fun _ => (44 : Int)) (K := 44) (R 4).toNat (fun _ _ => Int.le_refl _)
  omega
theorem cnt_bd {B : Int} {R : rw_} (hN : nuX B R) {l : Nat} (hl : l < 6) : 0 ≤ R (16 + 10 * l) ∧ R (16 + 10 * l) ≤ R 2 := by
  obtain ⟨n1, n2, n3, n4, n5⟩ := hN
  have a0 : 0 ≤ R 16 := (n2 0 (by omega)).1
  have a1 : 0 ≤ R 26 := (n2 1 (by omega)).1
  have a2 : 0 ≤ R 36 := (n2 2 (by omega)).1
  have a3 : 0 ≤ R 46 := (n2 3 (by omega)).1
  have a4 : 0 ≤ R 56 := (n2 4 (by omega)).1
  have a5 : 0 ≤ R 66 := (n2 5 (by omega)).1
  refine ⟨(n2 l hl).1, ?_⟩
  unfold c6F at n1
  rcases (by omega : l = 0 ∨ l = 1 ∨ l = 2 ∨ l = 3 ∨ l = 4 ∨ l = 5) with rfl | rfl | rfl | rfl | rfl | rfl
  · show R 16 ≤ R 2; omega
  · show R 26 ≤ R 2; omega
  · show R 36 ≤ R 2; omega
  · show R 46 ≤ R 2; omega
  · show R 56 ≤ R 2; omega
  · show R 66 ≤ R 2; omega
theorem am_z {d : Int} (h1 : -1000000000 ≤ d) (h2 : d ≤ 1000000000) : amF (zI d) = zI (if 0 ≤ d then d else -d) := by
  unfold amF
  rw [z0]
  by_cases q : 0 ≤ d
  · rw [if_pos q, if_pos ((z_le (by omega) (by omega)).mpr q)]
  · rw [if_neg q, if_neg (fun z => q ((z_le (by omega) (by omega)).mp z)), z_sub, Int.zero_sub]
def adF (R : rw_) (l : Nat) : Int := if 0 ≤ R (16 + 10 * l) - R (17 + 10 * l) then R (16 + 10 * l) - R (17 + 10 * l) else -(R (16 + 10 * l) - R (17 + 10 * l))
theorem ad_le {R : rw_} {l : Nat} (h1 : 0 ≤ R (16 + 10 * l)) (h2 : 0 ≤ R (17 + 10 * l)) : 0 ≤ adF R l ∧ adF R l ≤ R (16 + 10 * l) + R (17 + 10 * l) := by
  unfold adF
  split <;> omega
theorem sa_z {R : rw_} {t : Int} (ht : t ≤ 100000000) (h : ∀ l : Nat, (l : Int) < R 3 → 0 ≤ R (16 + 10 * l) ∧ R (16 + 10 * l) ≤ t ∧ 0 ≤ R (17 + 10 * l) ∧ R (17 + 10 * l) ≤ t) : ∀ n : Nat, (n : Int) ≤ R 3 → saF R n = zI (tsF (adF R) n) := by
  intro n
  induction n with
  | zero => intro _; rfl
  | succ n ih =>
    intro hn
    have a := h n (by omega)
    rw [sa_s, ih (by omega), am_z (by omega) (by omega), z_add, ts_s]
    rfl
section OWN
variable {R C : rw_}
theorem ownU_lt {c n u : Nat} {B : Int} (hN : nuX B R) (hB : B ≤ 785000) (h2 : R 2 ≤ 785000) (hW : WF R) (hc : (c : Int) < R 3) (o1 : WF (up R (13 + 10 * c) u)) (o2 : LayOK (up R (13 + 10 * c) u) C) (hn : n ≤ 100) : ¬ (1000000 : Int32) ≤ ownU R C c n u := by
  have hl := hW.l
  have hb := hW.c
  have N2 : nuX B (up R (13 + 10 * c) u) := nu_cg hl.2 hb.2 (fun k _ hk => up_ne (fun z => hk (by unfold nuK; omega))) hN
  have N3 := tk_nu o1 o2 N2 n
  have t := tk_lo o1 o2 n
  have w := (tk_ok o1 o2 n).1
  have e2 : up R (13 + 10 * c) u 2 = R 2 := up_ne (by omega)
  have e3 : up R (13 + 10 * c) u 3 = R 3 := up_ne (by omega)
  have p := pass_bd w N3 hB (l := c) (by omega)
  have q := cnt_bd N3 (l := c) (by omega)
  unfold ownU
  rw [am_z (by omega) (by omega), zM]
  intro z
  rw [z_le (by omega) (by split <;> omega)] at z
  revert z
  split <;> omega
theorem ownT_lt {n u : Nat} {B : Int} (hN : nuX B R) (hB : B ≤ 785000) (h2 : R 2 ≤ 785000) (hW : WF R) (o1 : WF (up R 1 u)) (o2 : LayOK (up R 1 u) C) (hn : n ≤ 100) : ¬ (1000000 : Int32) ≤ ownT R C n u := by
  have hl := hW.l
  have hb := hW.c
  have N2 : nuX B (up R 1 u) := nu_cg hl.2 hb.2 (fun k _ hk => up_ne (fun z => hk (by unfold nuK; omega))) hN
  have N3 := tk_nu o1 o2 N2 n
  have t := tk_lo o1 o2 n
  have w := (tk_ok o1 o2 n).1
  have e2 : up R 1 u 2 = R 2 := up_ne (by omega)
  have e3 : up R 1 u 3 = R 3 := up_ne (by omega)
  unfold ownT
  obtain ⟨A, hA⟩ : ∃ A, A = (tkN (up R 1 u) C n).1 := ⟨_, rfl⟩
  rw [← hA] at N3 t w ⊢
  have bd : ∀ l : Nat, (l : Int) < A 3 → 0 ≤ A (16 + 10 * l) ∧ A (16 + 10 * l) ≤ 785100 ∧ 0 ≤ A (17 + 10 * l) ∧ A (17 + 10 * l) ≤ 12226 := fun l h => by
    have p := pass_bd w N3 hB (l := l) h
    have q := cnt_bd N3 (l := l) (by omega)
    omega
  rw [sa_z (t := 785100) (by omega) (fun l h => by have := bd l h; omega) (R 3).toNat (by omega), zM]
  have nn := ts_nn (f := adF A) (R 3).toNat (fun l h => by have := bd l (by omega); exact (ad_le this.1 this.2.2.1).1)
  have s := ts_add (f := fun l => A (16 + 10 * l)) (g := fun l => A (17 + 10 * l)) (R 3).toNat
  have le := ts_le (f := adF A) (g := fun l => A (16 + 10 * l) + A (17 + 10 * l)) (R 3).toNat (fun l h => by have := bd l (by omega); exact (ad_le this.1 this.2.2.1).2)
  have b1 := ts_up (f := fun l => A (16 + 10 * l)) (n := (R 3).toNat) (6 - (R 3).toNat) (fun l h => (N3.2.1 l (by omega)).1)
  have b2 := ts_bd (f := fun l => A (17 + 10 * l)) (K := 12226) (R 3).toNat (fun l h => (bd l (by omega)).2.2.2)
  have six : tsF (fun l => A (16 + 10 * l)) 6 = 0 + A 16 + A 26 + A 36 + A 46 + A 56 + A 66 := rfl
  have c6 := N3.1
  unfold c6F at c6
  rw [show (R 3).toNat + (6 - (R 3).toNat) = 6 by omega, six] at b1
  intro z
  rw [z_le (by omega) (by omega)] at z
  omega
end OWN
