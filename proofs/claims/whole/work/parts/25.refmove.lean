/-! the reference: cells laid anew, a move -/
def layN (R : rw_) : Nat → rw_
  | 0 => fun _ => -6
  | c + 1 => if R (75 + 10 * c) = 0 then markF R (layN R c) c c else layN R c
theorem lay_s {R : rw_} {c : Nat} : layN R (c + 1) = if R (75 + 10 * c) = 0 then markF R (layN R c) c c else layN R c := rfl
theorem lay_eq {R C : rw_} (hL : LayOK R C) {k : Nat} (hk : k < 80) : ∀ n : Nat, (n : Int) ≤ R 4 → layN R n k = if C k ≠ -6 ∧ C k < n then C k else -6
  | 0, _ => by
    show (-6 : Int) = _
    rcases hL.2 k hk with z | ⟨c, z1, z2, z3, z4⟩
    · rw [if_neg (by omega)]
    · rw [if_neg (by omega)]
  | n + 1, h => by
    have ih := lay_eq hL hk n (by omega)
    rw [lay_s]
    rcases hL.2 k hk with z | ⟨c, z1, z2, z3, z4⟩
    · rw [if_neg (c := C k ≠ -6 ∧ C k < ((n + 1 : Nat) : Int)) (by omega)]
      rw [if_neg (by omega)] at ih
      split
      next hg =>
        unfold markF
        by_cases q : cov R n k
        · have := hL.1 n k (by omega) hg hk q
          omega
        · rw [if_neg q]; exact ih
      next hg => exact ih
    · by_cases e : c = n
      · subst e
        rw [if_pos z2]
        unfold markF
        rw [if_pos z3, if_pos (by omega), z4]
      · have hno : ∀ hg : R (75 + 10 * n) = 0, ¬ cov R n k := fun hg q => by
          have := hL.1 n k (by omega) hg hk q
          omega
        have e2 : (if C k ≠ -6 ∧ C k < ((n + 1 : Nat) : Int) then C k else -6) = if C k ≠ -6 ∧ C k < (n : Int) then C k else -6 := by
          by_cases y : c < n
          · rw [if_pos (by omega), if_pos (by omega)]
          · rw [if_neg (by omega), if_neg (by omega)]
        rw [e2, ← ih]
        split
        next hg =>
          unfold markF
          rw [if_neg (hno hg)]
        next hg => rfl
theorem lay_all {R C : rw_} (hb : 0 ≤ R 4 ∧ R 4 ≤ 40) (hL : LayOK R C) {k : Nat} (hk : k < 80) : layN R (R 4).toNat k = C k := by
  rw [lay_eq hL hk _ (by omega)]
  rcases Lay_val hL hk with q | q
  · rw [if_neg (by omega), q]
  · rw [if_pos (by omega)]
theorem Lay_i32 {R C : rw_} (hb : 0 ≤ R 4 ∧ R 4 ≤ 40) (hL : LayOK R C) : ∀ k, k < 80 → i32 (C k) := fun k hk => by
  rcases Lay_val hL hk with q | q <;> omega
theorem zb_ne0 {c : Prop} [Decidable c] : (zI (if c then 1 else 0) = zI 0) ↔ ¬ c := zb_ne
section REFM
variable {h : mH} {Q : mV → mH → Prop} {R C C0 : rw_} {S : Nat → rw_}
theorem mr4 (hM : MR h S R C) : h.1 21 0 0 ((4 : Int32).toNatClampNeg) = zI (R 4) := hM.1 4 (by omega)
theorem mr3 (hM : MR h S R C) : h.1 21 0 0 ((3 : Int32).toNatClampNeg) = zI (R 3) := hM.1 3 (by omega)
theorem vin (n N : Nat) (h : n < N) (hN : N < 2147483648) {x : Int32} (e : x = zI n) : vp_in x N := e ▸ z_in (by omega) (by omega) hN
theorem c7_layCells (hM : MR h S R C) (hW : WF R) (hL : LayOK R C0) (hq : ∀ h2, MR h2 S R C0 → FrC h h2 → Q vU h2) : mC M7_layCells [.inr (.inr (some (20, 0, 0)))] h Q := by
  have hb := hW.c
  have cars : ∀ (n c : Nat) (g : mH), c + n = (R 4).toNat → MR g S R (layN R c) → FrC h g → mE M7_layCells 24 [vR 20 0 0, vI (zI c)] [] g Q := by
    intro n
    induction n with
    | zero =>
      intro c g hc hM hF
      refine w7_layCells_24 ⟨vin 4 470 (by omega) (by omega) (by decide), ?_⟩
      rw [mr4 hM, z_le (by omega) (by omega)]
      rw [Nat.add_zero] at hc
      rw [hc] at hM
      exact ⟨fun _ => hq g (hM.eqv (fun _ _ => rfl) (fun k hk => (lay_all hb hL hk).symm)) hF, fun _ => by omega⟩
    | succ n ih =>
      intro c g hc hM hF
      have hc4 : (c : Int) < R 4 := by omega
      have w := hW.2.1 c hc4
      refine w7_layCells_24 ⟨vin 4 470 (by omega) (by omega) (by decide), ?_⟩
      rw [mr4 hM, z_le (by omega) (by omega)]
      refine ⟨fun _ => by omega, fun _ => ?_⟩
      refine c7_isOn rfl hM (by omega) w.2.2.2.2.2.2.2.2.2.1 ?_
      have e := ih (c + 1)
      rw [lay_s, show ((c + 1 : Nat) : Int) = (c : Int) + 1 by omega, ← z_add, ← z1] at e
      show (zI _ = 0 → _) ∧ (¬ zI _ = 0 → _)
      rw [zb_ne]
      refine ⟨fun q => ?_, fun q => ?_⟩
      · rw [if_neg q] at e
        exact e g (by omega) hM hF
      · rw [if_pos (Decidable.not_not.mp q)] at e
        exact c7_mark rfl rfl hM (by omega) w.okM (fun g2 hM2 hF2 => e g2 (by omega) hM2 (hF.tr hF2))
  have clear : ∀ (n k : Nat) (g : mH), k + n = 80 → MR g S R (fun j => if j < k then -6 else C j) → FrC h g → mE M7_layCells 2 [vR 20 0 0, vI (zI k)] [] g Q := by
    intro n
    induction n with
    | zero =>
      intro k g hk hM hF
      refine w7_layCells_2 ?_
      rw [show (80 : Int32) = zI 80 by decide, z_le (by omega) (by omega)]
      refine ⟨fun _ => cars (R 4).toNat 0 g (by omega) (hM.eqv (fun _ _ => rfl) (fun j hj => ?_)) hF, fun _ => by omega⟩
      show (-6 : Int) = _
      rw [if_pos (by omega)]
    | succ n ih =>
      intro k g hk hM hF
      refine w7_layCells_2 ?_
      rw [show (80 : Int32) = zI 80 by decide, z_le (by omega) (by omega), zm6, z1, z_add, z_clamp (by omega) (by omega), Int.toNat_natCast]
      refine ⟨fun _ => by omega, fun _ => ⟨z_in (by omega) (by omega) (by omega), ?_⟩⟩
      refine ih (k + 1) _ (by omega) (MR.eqv hM.cell (fun _ _ => rfl) (fun j hj => ?_)) (hF.tr (FrC.put (by omega)))
      unfold up
      dsimp only
      by_cases q : j = k
      · rw [if_pos q, if_pos (by omega)]
      · rw [if_neg q]
        by_cases q2 : j < k
        · rw [if_pos q2, if_pos (by omega)]
        · rw [if_neg q2, if_neg (by omega)]
  exact w7_layCells (clear 80 0 h (by omega) (hM.eqv (fun _ _ => rfl) (fun j hj => by rw [if_neg (by omega)])) FrC.rf)
theorem l7_canChange {c : Nat} (hc : c < 40) (w : okM R c) (hv : ∀ k, k < 80 → i32 (C k)) : ∀ (n : Nat) (f : Bool) (x : Int), x + n = R (71 + 10 * c) + 1 → lasF R c ≤ x → MR h S R C → Q (vI (zI (if f = true ∧ besF C (1 - R (70 + 10 * c)) x n = true then 1 else 0))) h → mE M7_canChange 23 [vR 20 0 0, vI (zI c), vI (zI (if f = true then 1 else 0)), vI (zI x)] [] h Q := by
  obtain ⟨w0, w1, w2, w3, w4⟩ := w
  intro n
  induction n with
  | zero =>
    intro f x hx hl hM hq
    unfold lasF at hl
    refine w7_canChange_23 (c7_ofC (j := 1) (k := 71 + 10 * c) rfl (by decide) hM (by omega) (by omega) ?_)
    show (zI _ < zI x → (zI _ = 0 ∨ zI _ = 1) ∧ Q (vI (zI _)) h) ∧ (¬ zI _ < zI x → _)
    rw [z_lt (by omega) (by omega)]
    refine ⟨fun _ => ⟨?_, ?_⟩, fun _ => by omega⟩
    · cases f
      · exact Or.inl rfl
      · exact Or.inr rfl
    · unfold besF at hq
      rw [show (if f = true ∧ true = true then (1 : Int) else 0) = if f = true then 1 else 0 by cases f <;> rfl] at hq
      exact hq
  | succ n ih =>
    intro f x hx hl hM hq
    unfold lasF at hl
    refine w7_canChange_23 (c7_ofC (j := 1) (k := 71 + 10 * c) rfl (by decide) hM (by omega) (by omega) ?_)
    show (zI _ < zI x → _) ∧ (¬ zI _ < zI x → (zI _ = 0 → mE _ _ [_, _, vI 0, vI (zI x + 1)] _ h Q) ∧ (¬ zI _ = 0 → mC _ _ h _))
    rw [z_lt (by omega) (by omega), zb_ne, z1, z_add]
    have i0 := ih false (x + 1) (by omega) (by unfold lasF; omega) hM
    refine ⟨fun _ => by omega, fun _ => ⟨fun q => ?_, fun q => ?_⟩⟩
    · refine i0 ?_
      rw [if_neg (fun z => absurd z.1 (by decide))]
      rw [if_neg (fun z => q z.1)] at hq
      exact hq
    · have hf : f = true := Decidable.not_not.mp q
      refine c7_ofC (j := 0) (k := 70 + 10 * c) rfl (by decide) hM (by omega) (by omega) ?_
      show mC _ [_, .inl (zI 1 - zI _), .inl (zI x)] h _
      rw [z_sub]
      refine c7_isFree rfl rfl hM (by omega) (by omega) hv ?_
      show (zI _ = 0 → _) ∧ (¬ zI _ = 0 → mE _ _ [_, _, vI (zI 1), _] _ h Q)
      rw [zb_ne]
      refine ⟨fun q2 => ?_, fun q2 => ?_⟩
      · refine i0 ?_
        rw [if_neg (fun z => absurd z.1 (by decide))]
        unfold besF at hq
        rw [decide_eq_false q2] at hq
        rw [if_neg (fun z => by simp at z)] at hq
        exact hq
      · refine ih true (x + 1) (by omega) (by unfold lasF; omega) hM ?_
        unfold besF at hq
        rw [decide_eq_true (Decidable.not_not.mp q2), hf] at hq
        simpa using hq
theorem c7_canChange {a1 : Int32} {c : Nat} (e1 : a1 = zI c) (hM : MR h S R C) (hc : c < 40) (w : okM R c) (ww : R (76 + 10 * c) = 0 ∨ R (76 + 10 * c) = 1) (hv : ∀ k, k < 80 → i32 (C k)) (hq : Q (vI (zI (if canF R C c then 1 else 0))) h) : mC M7_canChange [.inr (.inr (some (20, 0, 0))), .inl a1] h Q := by
  subst e1
  obtain ⟨w0, w1, w2, w3, w4⟩ := id w
  refine w7_canChange (c7_ofC (j := 6) (k := 76 + 10 * c) rfl (by decide) hM (by omega) (by omega) ?_)
  show (¬ zI _ = 1 → _) ∧ (zI _ = 1 → mC _ _ h (kI (fun x421 h420 => mE M7_canChange 23 [vR 20 0 0, vI (zI c), vI 1, vI x421] [] h420 Q)))
  rw [z1, z_eq (by omega) (by omega)]
  have key : ∀ f : Bool, (f = true ↔ R (76 + 10 * c) = 1) → mE M7_canChange 23 [vR 20 0 0, vI (zI c), vI (zI (if f = true then 1 else 0)), vI (zI (lasF R c))] [] h Q := by
    intro f hf
    refine l7_canChange hc w hv (R (72 + 10 * c)).toNat f (lasF R c) (by unfold lasF; omega) (Int.le_refl _) hM ?_
    have e : (f = true ∧ besF C (1 - R (70 + 10 * c)) (lasF R c) (R (72 + 10 * c)).toNat = true) ↔ canF R C c := ⟨fun z => ⟨hf.mp z.1, z.2⟩, fun z => ⟨hf.mpr z.1, z.2⟩⟩
    by_cases q : canF R C c
    · rw [if_pos q] at hq
      rw [if_pos (e.mpr q)]; exact hq
    · rw [if_neg q] at hq
      rw [if_neg (fun z => q (e.mp z))]; exact hq
  refine ⟨fun q => c7_lastCell rfl hM hc (key false ⟨fun z => absurd z (by decide), fun z => absurd z q⟩), fun q => c7_lastCell rfl hM hc (key true ⟨fun _ => q, fun _ => rfl⟩)⟩
/-- the end of a move: a car that isn't gone takes its cells -/
theorem l7_move180 {c : Nat} {R2 C1 : rw_} (hM : MR h S R2 C1) (hc : c < 40) (w : R2 (75 + 10 * c) = 0 ∨ R2 (75 + 10 * c) = 1) (wm : okM R2 c) (hq : ∀ h2, MR h2 S R2 (if R2 (75 + 10 * c) = 0 then markF R2 C1 c c else C1) → FrC h h2 → Q vU h2) : mE M7_move 180 [vR 20 0 0, vI (zI c), vU, vU, vU] [] h Q := by
  refine w7_move_180 (c7_isOn rfl hM hc w ?_)
  show (zI _ = 0 → Q vU h) ∧ (¬ zI _ = 0 → _)
  rw [zb_ne]
  refine ⟨fun q => ?_, fun q => ?_⟩
  · rw [if_neg q] at hq; exact hq h hM FrC.rf
  · rw [if_pos (Decidable.not_not.mp q)] at hq
    exact c7_mark rfl rfl hM hc wm hq
theorem c7_move {a1 : Int32} {c : Nat} (e1 : a1 = zI c) (hM : MR h S R C) (hW : WF R) (hL : LayOK R C) (hc : (c : Int) < R 4) (hon : R (75 + 10 * c) = 0) (hq : ∀ h2, MR h2 S (mvF R C c).1 (mvF R C c).2 → FrC h h2 → Q vU h2) : mC M7_move [.inr (.inr (some (20, 0, 0))), .inl a1] h Q := by
  subst e1
  have hb := hW.c
  have w := hW.2.1 c hc
  have wm := w.okM
  unfold WFc lasF at w
  obtain ⟨w0, w1, w2, w3, w4, w5, w6, w7, w8, w9, w10, w11, w12, w13⟩ := w
  have hc40 : c < 40 := by omega
  refine w7_move (c7_canChange rfl hM hc40 wm w10 (Lay_i32 hb hL) ?_)
  refine c7_ofC (j := 0) (k := 70 + 10 * c) rfl (by decide) hM (by omega) (by omega) ?_
  refine c7_mark rfl zm6 hM hc40 wm (fun g1 hM1 hF1 => ?_)
  show (zI _ = 0 → mE _ _ [_, _, _, vI (zI _), vI 0] _ g1 Q) ∧ (¬ zI _ = 0 → mC _ [_, _, _, .inl (1 - zI _)] g1 _)
  rw [zb_ne, z1, z_sub]
  refine ⟨fun hno => ?_, fun hyes => ?_⟩
  · -- it moves on
    have e : mvF R C c = (onF R c (adv R C c), if gonF R c (adv R C c) = 0 then markF (onF R c (adv R C c)) (markF R C c (-6)) c c else markF R C c (-6)) := by unfold mvF; rw [if_neg hno]
    rw [e] at hq
    have hg01 : ∀ m, gonF R c m = 0 ∨ gonF R c m = 1 := fun m => by unfold gonF; split <;> simp
    have fin : ∀ (m : Nat) (g : mH), adv R C c = m → R (71 + 10 * c) + m - R (72 + 10 * c) + 1 ≤ 40 → (m : Int) ≤ R (73 + 10 * c) → MR g S (up R (71 + 10 * c) (R (71 + 10 * c) + m)) (markF R C c (-6)) → FrC h g → mE M7_move 120 [vR 20 0 0, vI (zI c), vU, vU, vI (zI m)] [] g Q := by
      intro m g em hlast hms hMg hFg
      have el : lasF (up R (71 + 10 * c) (R (71 + 10 * c) + m)) c = R (71 + 10 * c) + m - R (72 + 10 * c) + 1 := by unfold lasF; rw [up_at, up_ne (by omega)]
      obtain ⟨a0, a1, a2, a3, a4, a5, a6, a7, a8, a9⟩ := on_at (R := R) (c := c) (m := m)
      have hg := hg01 m
      rw [em] at hq
      -- the end, with the waits added
      have tail : ∀ (g2 : mH) (v : Int), MR g2 S (up (up (up R (71 + 10 * c) (R (71 + 10 * c) + m)) (75 + 10 * c) (gonF R c m)) (78 + 10 * c) (R (78 + 10 * c) + v)) (markF R C c (-6)) → FrC h g2 → v = (if (m : Int) < R (73 + 10 * c) ∧ gonF R c m = 0 then 1 else 0) → mE M7_move 180 [vR 20 0 0, vI (zI c), vU, vU, vU] [] g2 Q := by
        intro g2 v hM2 hF2 ev
        have eo : up (up (up R (71 + 10 * c) (R (71 + 10 * c) + m)) (75 + 10 * c) (gonF R c m)) (78 + 10 * c) (R (78 + 10 * c) + v) = onF R c m := by rw [ev]; rfl
        rw [eo] at hM2
        refine l7_move180 hM2 hc40 (by rw [a5]; exact hg) ?_ (fun h2 hM3 hF3 => hq h2 ?_ (hF2.tr hF3))
        · unfold okM
          rw [a0, a1, a2]; omega
        · rw [a5] at hM3; exact hM3
      have mid : ∀ (g2 : mH), MR g2 S (up (up R (71 + 10 * c) (R (71 + 10 * c) + m)) (75 + 10 * c) (gonF R c m)) (markF R C c (-6)) → FrC h g2 → mE M7_move 141 [vR 20 0 0, vI (zI c), vU, vU, vI (zI m)] [] g2 Q := by
        intro g2 hM2 hF2
        refine w7_move_141 (c7_ofC (j := 8) (k := 78 + 10 * c) rfl (by decide) hM2 (by omega) (by omega) ?_)
        refine c7_ofC (j := 3) (k := 73 + 10 * c) rfl (by decide) hM2 (by omega) (by omega) ?_
        have e78 : up (up R (71 + 10 * c) (R (71 + 10 * c) + m)) (75 + 10 * c) (gonF R c m) (78 + 10 * c) = R (78 + 10 * c) := by rw [up_ne (by omega), up_ne (by omega)]
        have e73 : up (up R (71 + 10 * c) (R (71 + 10 * c) + m)) (75 + 10 * c) (gonF R c m) (73 + 10 * c) = R (73 + 10 * c) := by rw [up_ne (by omega), up_ne (by omega)]
        have e75 : up (up R (71 + 10 * c) (R (71 + 10 * c) + m)) (75 + 10 * c) (gonF R c m) (75 + 10 * c) = gonF R c m := up_at
        rw [e78, e73]
        show (zI _ ≤ zI m → mC _ [_, _, .inl 8, .inl (zI _ + 0)] g2 _) ∧ (¬ zI _ ≤ zI m → _)
        rw [z_le (by omega) (by omega), z0, z_add]
        refine ⟨fun q => ?_, fun q => ?_⟩
        · exact c7_bookC (j := 8) (k := 78 + 10 * c) rfl (by decide) rfl hM2 (by omega) (by omega) (fun g3 hM3 hF3 => tail g3 0 hM3 (hF2.tr hF3) (by rw [if_neg (by omega)]))
        · refine c7_isOn rfl hM2 hc40 (by rw [e75]; exact hg) ?_
          rw [e75]
          show (zI _ = zI 0 → mC _ [_, _, .inl 8, .inl (zI _)] g2 _) ∧ (¬ zI _ = zI 0 → mC _ [_, _, .inl 8, .inl (zI _ + 1)] g2 _)
          rw [zb_ne0, z1, z_add]
          refine ⟨fun q2 => ?_, fun q2 => ?_⟩
          · exact c7_bookC (j := 8) (k := 78 + 10 * c) rfl (by decide) rfl hM2 (by omega) (by omega) (fun g3 hM3 hF3 => tail g3 0 hM3 (hF2.tr hF3) (by rw [if_neg (fun z => q2 z.2)]))
          · exact c7_bookC (j := 8) (k := 78 + 10 * c) rfl (by decide) rfl hM2 (by omega) (by omega) (fun g3 hM3 hF3 => tail g3 1 hM3 (hF2.tr hF3) (by rw [if_pos ⟨by omega, Decidable.not_not.mp q2⟩]))
      refine w7_move_120 (c7_lastCell rfl hMg hc40 ?_)
      rw [el]
      show (zI _ ≤ 39 → mC _ [_, _, .inl 5, .inl 0] g _) ∧ (¬ zI _ ≤ 39 → mC _ [_, _, .inl 5, .inl 1] g _)
      rw [z39, z_le (by omega) (by omega)]
      refine ⟨fun q => ?_, fun q => ?_⟩
      · have eg : gonF R c m = 0 := by unfold gonF; rw [if_neg (by omega)]
        rw [eg] at mid
        exact c7_bookC (j := 5) (k := 75 + 10 * c) rfl (by decide) z0 hMg (by omega) (by omega) (fun g3 hM3 hF3 => mid g3 hM3 (hFg.tr hF3))
      · have eg : gonF R c m = 1 := by unfold gonF; rw [if_pos (by omega)]
        rw [eg] at mid
        exact c7_bookC (j := 5) (k := 75 + 10 * c) rfl (by decide) z1 hMg (by omega) (by omega) (fun g3 hM3 hF3 => mid g3 hM3 (hFg.tr hF3))
    have loop : ∀ (n m : Nat) (g : mH), (m : Int) + n = R (73 + 10 * c) → adv R C c = m + advF (R (70 + 10 * c)) (R (72 + 10 * c)) C (R (71 + 10 * c) + m) n → R (71 + 10 * c) + m - R (72 + 10 * c) + 1 ≤ 40 → MR g S (up R (71 + 10 * c) (R (71 + 10 * c) + m)) (markF R C c (-6)) → FrC h g → mE M7_move 63 [vR 20 0 0, vI (zI c), vU, vI (zI (R (70 + 10 * c))), vI (zI m)] [] g Q := by
      intro n
      induction n with
      | zero =>
        intro m g hm ha hlast hMg hFg
        refine w7_move_63 (c7_ofC (j := 3) (k := 73 + 10 * c) rfl (by decide) hMg (by omega) (by omega) ?_)
        rw [up_ne (by omega)]
        show (zI _ ≤ zI m → _) ∧ (¬ zI _ ≤ zI m → _)
        rw [z_le (by omega) (by omega)]
        exact ⟨fun _ => fin m g (by simpa [advF] using ha) hlast (by omega) hMg hFg, fun _ => by omega⟩
      | succ n ih =>
        intro m g hm ha hlast hMg hFg
        rw [advF_s] at ha
        have e71 : up R (71 + 10 * c) (R (71 + 10 * c) + m) (71 + 10 * c) = R (71 + 10 * c) + m := up_at
        have el : lasF (up R (71 + 10 * c) (R (71 + 10 * c) + m)) c = R (71 + 10 * c) + m - R (72 + 10 * c) + 1 := by unfold lasF; rw [up_at, up_ne (by omega)]
        refine w7_move_63 (c7_ofC (j := 3) (k := 73 + 10 * c) rfl (by decide) hMg (by omega) (by omega) ?_)
        rw [up_ne (by omega)]
        show (zI _ ≤ zI m → _) ∧ (¬ zI _ ≤ zI m → _)
        rw [z_le (by omega) (by omega)]
        refine ⟨fun _ => by omega, fun _ => ?_⟩
        refine c7_lastCell rfl hMg hc40 ?_
        rw [el]
        show (40 ≤ zI _ → _) ∧ (¬ 40 ≤ zI _ → _)
        rw [z40, z_le (by omega) (by omega)]
        refine ⟨fun q => ?_, fun q => ?_⟩
        · rw [if_neg (by omega)] at ha
          exact fin m g (by omega) hlast (by omega) hMg hFg
        · refine c7_ofC (j := 1) (k := 71 + 10 * c) rfl (by decide) hMg (by omega) (by omega) ?_
          rw [e71]
          show mC _ [_, _, .inl (zI _ + 1)] g _
          rw [z1, z_add]
          have efr : freeP (markF R C c (-6)) (R (70 + 10 * c)) (R (71 + 10 * c) + m + 1) ↔ freeP C (R (70 + 10 * c)) (R (71 + 10 * c) + m + 1) := by
            unfold freeP
            by_cases y : 0 ≤ R (71 + 10 * c) + m + 1 ∧ R (71 + 10 * c) + m + 1 ≤ 39
            · have : markF R C c (-6) (40 * R (70 + 10 * c) + (R (71 + 10 * c) + m + 1)).toNat = C (40 * R (70 + 10 * c) + (R (71 + 10 * c) + m + 1)).toNat := by
                unfold markF
                rw [if_neg (by unfold cov lasF; omega)]
              rw [this]
            · exact ⟨fun _ => Or.inl y, fun _ => Or.inl y⟩
          have hvv : ∀ k, k < 80 → i32 (markF R C c (-6) k) := fun k hk => by
            unfold markF
            split
            · omega
            · exact Lay_i32 hb hL k hk
          refine c7_isFree rfl rfl hMg w0 (by omega) hvv ?_
          show (zI _ = 0 → _) ∧ (¬ zI _ = 0 → _)
          rw [zb_ne]
          refine ⟨fun q2 => ?_, fun q2 => ?_⟩
          · rw [if_neg (fun z => q2 (efr.mpr z.2))] at ha
            exact fin m g (by omega) hlast (by omega) hMg hFg
          · have hyf := efr.mp (Decidable.not_not.mp q2)
            rw [if_pos ⟨by omega, hyf⟩] at ha
            refine c7_ofC (j := 1) (k := 71 + 10 * c) rfl (by decide) hMg (by omega) (by omega) ?_
            rw [e71]
            show mC _ [_, _, _, .inl (zI _ + zI 1)] g (kV (fun h448 => mE _ _ [_, _, _, _, vI (zI m + zI 1)] _ h448 Q))
            rw [z_add, z_add]
            refine c7_bookC (j := 1) (k := 71 + 10 * c) rfl (by decide) rfl hMg (by omega) (by omega) (fun g3 hM3 hF3 => ?_)
            have e1 : R (71 + 10 * c) + ((m + 1 : Nat) : Int) = R (71 + 10 * c) + m + 1 := by omega
            have e2 : (m : Int) + 1 = ((m + 1 : Nat) : Int) := by omega
            show mE _ _ [_, _, _, _, vI (zI ((m : Int) + 1))] _ g3 Q
            rw [e2]
            refine ih (m + 1) g3 (by omega) (by rw [e1]; omega) (by omega) (hM3.eqv (fun k hk => ?_) (fun _ _ => rfl)) (hFg.tr hF3)
            rw [e1]
            by_cases y : k = 71 + 10 * c
            · rw [y, up_at, up_at]
            · rw [up_ne y, up_ne y, up_ne y]
    refine loop (R (73 + 10 * c)).toNat 0 g1 (by omega) (by simp) (by omega) (hM1.eqv (fun k hk => ?_) (fun _ _ => rfl)) hF1
    by_cases y : k = 71 + 10 * c
    · rw [y, up_at]; omega
    · rw [up_ne y]
  · -- it changes its lane
    have hcan : canF R C c := Decidable.not_not.mp hyes
    have e : mvF R C c = (chgF R c, markF (chgF R c) (markF R C c (-6)) c c) := by unfold mvF; rw [if_pos hcan]
    rw [e] at hq
    obtain ⟨a0, a1, a2, a3, a4, a5, a6, a7, a8, a9⟩ := chg_at (R := R) (c := c)
    refine c7_bookC (j := 0) (k := 70 + 10 * c) rfl (by decide) rfl hM1 (by omega) (by omega) (fun g2 hM2 hF2 => ?_)
    refine c7_bookC (j := 6) (k := 76 + 10 * c) rfl (by decide) z0 hM2 (by omega) (by omega) (fun g3 hM3 hF3 => ?_)
    refine c7_ofC (j := 7) (k := 77 + 10 * c) rfl (by decide) hM3 (by omega) (by omega) ?_
    rw [up_ne (by omega), up_ne (by omega)]
    show mC _ [_, _, _, .inl (zI _ + zI 1)] g3 _
    rw [z_add]
    refine c7_bookC (j := 7) (k := 77 + 10 * c) rfl (by decide) rfl hM3 (by omega) (by omega) (fun g4 hM4 hF4 => ?_)
    have hM5 : MR g4 S (chgF R c) (markF R C c (-6)) := hM4
    refine l7_move180 hM5 hc40 (by rw [a5]; exact Or.inl hon) ?_ (fun h2 hM6 hF6 => hq h2 ?_ (hF1.tr (hF2.tr (hF3.tr (hF4.tr hF6)))))
    · unfold okM
      rw [a0, a1, a2]; omega
    · rw [a5, if_pos hon] at hM6; exact hM6
end REFM
