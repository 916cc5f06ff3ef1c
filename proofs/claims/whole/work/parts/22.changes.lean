/-! changes of a road: what they answer, what the row is then -/
def spW (R : rw_) (a : Int) : rw_ × Int := if 0 ≤ a ∧ a < R 4 then (if R (75 + 10 * a.toNat) = 0 then (up R (76 + 10 * a.toNat) (1 - R (76 + 10 * a.toNat)), 1 - R (76 + 10 * a.toNat)) else (R, -5)) else (R, -1)
def spV (R : rw_) (a v : Int) : rw_ × Int := if 0 ≤ a ∧ a < R 4 then (if 0 ≤ v ∧ v ≤ 4 then (if R (75 + 10 * a.toNat) = 0 then (up R (73 + 10 * a.toNat) v, R (73 + 10 * a.toNat)) else (R, -5)) else (R, -2)) else (R, -1)
def spS (R : rw_) (s v : Int) : rw_ × Int := if s = 0 ∧ 0 ≤ v ∧ v ≤ 8 then (up R 0 v, R 0) else if s = 1 ∧ 1 ≤ v ∧ v ≤ 5 then (up R 1 v, R 1) else (R, -2)
abbrev okB (u lo : Int) : Prop := 1 ≤ u ∧ u ≤ 200 ∧ 1 ≤ lo ∧ lo ≤ u
def spB (R : rw_) (l u lo : Int) : rw_ × Int := if 0 ≤ l ∧ l < R 3 then (if okB u lo then (up (up R (13 + 10 * l.toNat) u) (14 + 10 * l.toNat) lo, R (13 + 10 * l.toNat)) else (R, -2)) else (R, -1)
def ovB (R : rw_) (c l : Nat) : Int := if isOv R c l then (((R (79 + 10 * c)).toNat ||| 2 ^ l : Nat) : Int) else R (79 + 10 * c)
def ovA (R : rw_) (l : Nat) : Nat → rw_
  | 0 => R
  | c + 1 => up (ovA R l c) (79 + 10 * c) (ovB (ovA R l c) c l)
theorem ovA_s {R : rw_} {l c : Nat} : ovA R l (c + 1) = up (ovA R l c) (79 + 10 * c) (ovB (ovA R l c) c l) := rfl
def newL (R : rw_) (L x m u lo : Int) : rw_ := up (up (up (up (up (up R (10 + 10 * (R 3).toNat) L) (11 + 10 * (R 3).toNat) x) (12 + 10 * (R 3).toNat) m) (13 + 10 * (R 3).toNat) u) (14 + 10 * (R 3).toNat) lo) 3 (R 3 + 1)
def spL (R : rw_) (L x m u lo : Int) : rw_ × Int := if (0 ≤ L ∧ L ≤ 1) ∧ (1 ≤ m ∧ m ≤ 3) ∧ (0 ≤ x ∧ x ≤ 40 - m) ∧ okB u lo then (if R 3 < 6 then (ovA (newL R L x m u lo) (R 3).toNat (R 4).toNat, R 3) else (R, -4)) else (R, -2)
def newC (R : rw_) (L len sp me : Int) : rw_ := up (up (up (up (up R (70 + 10 * (R 4).toNat) L) (72 + 10 * (R 4).toNat) len) (73 + 10 * (R 4).toNat) sp) (74 + 10 * (R 4).toNat) me) 4 (R 4 + 1)
def spC (R C : rw_) (L len sp me : Int) : (rw_ × rw_) × Int := if (0 ≤ L ∧ L ≤ 1) ∧ (1 ≤ len ∧ len ≤ 4) ∧ (1 ≤ sp ∧ sp ≤ 4) ∧ (1 ≤ me ∧ me ≤ 9) then (if R 4 < 40 then (if C (40 * L).toNat < 0 then ((newC R L len sp me, upC C L 0 (R 4)), R 4) else ((R, C), -5)) else ((R, C), -4)) else ((R, C), -2)
/-! they keep rows well formed -/
theorem spW_ok {R C : rw_} (hW : WF R) (hL : LayOK R C) (a : Int) : WF (spW R a).1 ∧ LayOK (spW R a).1 C := by
  unfold spW
  split
  next q =>
    split
    next q2 =>
      have hc : (a.toNat : Int) < R 4 := by omega
      have w := hW.2.1 _ hc
      dsimp only
      refine ⟨hW.setc hc ?_ (fun k hk => up_ne (by omega)), hL.cong (up_ne (by omega)) (fun c hc => ⟨up_ne (by omega), up_ne (by omega), up_ne (by omega), up_ne (by omega)⟩)⟩
      unfold WFc lasF at *
      rw [up_ne (k := 76 + 10 * a.toNat) (j := 70 + 10 * a.toNat) (by omega), up_ne (k := 76 + 10 * a.toNat) (j := 71 + 10 * a.toNat) (by omega), up_ne (k := 76 + 10 * a.toNat) (j := 72 + 10 * a.toNat) (by omega), up_ne (k := 76 + 10 * a.toNat) (j := 73 + 10 * a.toNat) (by omega), up_ne (k := 76 + 10 * a.toNat) (j := 74 + 10 * a.toNat) (by omega), up_ne (k := 76 + 10 * a.toNat) (j := 75 + 10 * a.toNat) (by omega), up_at, up_ne (k := 76 + 10 * a.toNat) (j := 79 + 10 * a.toNat) (by omega)]
      omega
    next => exact ⟨hW, hL⟩
  next => exact ⟨hW, hL⟩
theorem spV_ok {R C : rw_} (hW : WF R) (hL : LayOK R C) (a v : Int) : WF (spV R a v).1 ∧ LayOK (spV R a v).1 C := by
  unfold spV
  split
  next q =>
    split
    next q1 =>
      split
      next q2 =>
        have hc : (a.toNat : Int) < R 4 := by omega
        have w := hW.2.1 _ hc
        dsimp only
        refine ⟨hW.setc hc ?_ (fun k hk => up_ne (by omega)), hL.cong (up_ne (by omega)) (fun c hc => ⟨up_ne (by omega), up_ne (by omega), up_ne (by omega), up_ne (by omega)⟩)⟩
        unfold WFc lasF at *
        rw [up_ne (k := 73 + 10 * a.toNat) (j := 70 + 10 * a.toNat) (by omega), up_ne (k := 73 + 10 * a.toNat) (j := 71 + 10 * a.toNat) (by omega), up_ne (k := 73 + 10 * a.toNat) (j := 72 + 10 * a.toNat) (by omega), up_at, up_ne (k := 73 + 10 * a.toNat) (j := 74 + 10 * a.toNat) (by omega), up_ne (k := 73 + 10 * a.toNat) (j := 75 + 10 * a.toNat) (by omega), up_ne (k := 73 + 10 * a.toNat) (j := 76 + 10 * a.toNat) (by omega), up_ne (k := 73 + 10 * a.toNat) (j := 79 + 10 * a.toNat) (by omega)]
        omega
      next => exact ⟨hW, hL⟩
    next => exact ⟨hW, hL⟩
  next => exact ⟨hW, hL⟩
theorem set01_ok {R C : rw_} (hW : WF R) (hL : LayOK R C) {k : Nat} {v : Int} (hk : (k = 0 ∧ 0 ≤ v ∧ v ≤ 8) ∨ (k = 1 ∧ 1 ≤ v ∧ v ≤ 5)) : WF (up R k v) ∧ LayOK (up R k v) C := by
  have hu : ∀ j, j ≠ k → up R k v j = R j := fun j hj => up_ne hj
  refine ⟨?_, hL.cong (hu 4 (by omega)) (fun c hc => ⟨hu _ (by omega), hu _ (by omega), hu _ (by omega), hu _ (by omega)⟩)⟩
  obtain ⟨w1, w2, w3, w4, w5⟩ := hW
  have e3 := hu 3 (by omega)
  have e4 := hu 4 (by omega)
  refine ⟨?_, fun c2 h2 => (w2 c2 (by omega)).cong (fun k h1 h2 => hu k (by omega)), fun l2 h2 => (w3 l2 (by omega)).cong (fun k h1 h2 => hu k (by omega)), fun c2 j h1 h2 h3 => ?_, fun l2 j h1 h2 h3 => ?_⟩
  · rw [e3, e4]
    rcases hk with ⟨rfl, q1, q2⟩ | ⟨rfl, q1, q2⟩
    · rw [up_at, hu 1 (by omega)]; omega
    · rw [up_at, hu 0 (by omega)]; omega
  · rw [hu _ (by omega)]; exact w4 c2 j (by omega) h2 h3
  · rw [hu _ (by omega)]; exact w5 l2 j (by omega) h2 h3
theorem spS_ok {R C : rw_} (hW : WF R) (hL : LayOK R C) (s v : Int) : WF (spS R s v).1 ∧ LayOK (spS R s v).1 C := by
  unfold spS
  split
  next q => exact set01_ok hW hL (Or.inl ⟨rfl, q.2⟩)
  next =>
    split
    next q => exact set01_ok hW hL (Or.inr ⟨rfl, q.2⟩)
    next => exact ⟨hW, hL⟩
theorem spB_ok {R C : rw_} (hW : WF R) (hL : LayOK R C) (l u lo : Int) : WF (spB R l u lo).1 ∧ LayOK (spB R l u lo).1 C := by
  unfold spB
  have h6 := hW.l.2
  split
  next q =>
    split
    next q1 =>
      have hl : (l.toNat : Int) < R 3 := by omega
      have w := hW.2.2.1 _ hl
      have hu : ∀ k, k ≠ 13 + 10 * l.toNat → k ≠ 14 + 10 * l.toNat → up (up R (13 + 10 * l.toNat) u) (14 + 10 * l.toNat) lo k = R k := fun k h1 h2 => by rw [up_ne h2, up_ne h1]
      dsimp only
      refine ⟨hW.setl hl ?_ (fun k hk => hu k (by omega) (by omega)), hL.cong (hu _ (by omega) (by omega)) (fun c hc => ⟨hu _ (by omega) (by omega), hu _ (by omega) (by omega), hu _ (by omega) (by omega), hu _ (by omega) (by omega)⟩)⟩
      unfold WFl at *
      rw [hu (10 + 10 * l.toNat) (by omega) (by omega), hu (11 + 10 * l.toNat) (by omega) (by omega), hu (12 + 10 * l.toNat) (by omega) (by omega), hu (15 + 10 * l.toNat) (by omega) (by omega), up_at, up_ne (k := 14 + 10 * l.toNat) (j := 13 + 10 * l.toNat) (by omega), up_at]
      omega
    next => exact ⟨hW, hL⟩
  next => exact ⟨hW, hL⟩
theorem newL_ok {R C : rw_} (hW : WF R) (hL : LayOK R C) {L x m u lo : Int} (hq : (0 ≤ L ∧ L ≤ 1) ∧ (1 ≤ m ∧ m ≤ 3) ∧ (0 ≤ x ∧ x ≤ 40 - m) ∧ okB u lo) (h3 : R 3 < 6) : WF (newL R L x m u lo) ∧ LayOK (newL R L x m u lo) C ∧ newL R L x m u lo 3 = R 3 + 1 ∧ ∀ k, k ≠ 3 → ¬ (10 + 10 * (R 3).toNat ≤ k ∧ k < 15 + 10 * (R 3).toNat) → newL R L x m u lo k = R k := by
  have hu : ∀ k, k ≠ 3 → ¬ (10 + 10 * (R 3).toNat ≤ k ∧ k < 15 + 10 * (R 3).toNat) → newL R L x m u lo k = R k := by
    intro k h1 h2
    unfold newL
    rw [up_ne h1, up_ne (by omega), up_ne (by omega), up_ne (by omega), up_ne (by omega), up_ne (by omega)]
  have e3 : newL R L x m u lo 3 = R 3 + 1 := by unfold newL; rw [up_at]
  have hb := hW.l
  refine ⟨?_, hL.cong (hu _ (by omega) (by omega)) (fun c hc => ⟨hu _ (by omega) (by omega), hu _ (by omega) (by omega), hu _ (by omega) (by omega), hu _ (by omega) (by omega)⟩), e3, hu⟩
  obtain ⟨w1, w2, w3, w4, w5⟩ := hW
  refine ⟨?_, fun c2 h2 => ?_, fun l2 h2 => ?_, fun c2 j h1 h2 h4 => ?_, fun l2 j h1 h2 h4 => ?_⟩
  · rw [e3, hu 0 (by omega) (by omega), hu 1 (by omega) (by omega), hu 4 (by omega) (by omega)]; omega
  · rw [hu 4 (by omega) (by omega)] at h2
    exact (w2 c2 h2).cong (fun k h1 h2 => hu k (by omega) (by omega))
  · rw [e3] at h2
    by_cases e : l2 = (R 3).toNat
    · have z15 := w5 (R 3).toNat 5 (by omega) (by omega) (by omega)
      rw [e]
      unfold WFl
      rw [show 10 + 10 * (R 3).toNat + 5 = 15 + 10 * (R 3).toNat by omega] at z15
      rw [hu (15 + 10 * (R 3).toNat) (by omega) (by omega), z15]
      unfold newL
      simp [up]
      have t10 : ¬ 10 + 10 * (R 3).toNat = 3 := by omega
      have t11 : ¬ 11 + 10 * (R 3).toNat = 3 := by omega
      have t12 : ¬ 12 + 10 * (R 3).toNat = 3 := by omega
      have t13 : ¬ 13 + 10 * (R 3).toNat = 3 := by omega
      have t14 : ¬ 14 + 10 * (R 3).toNat = 3 := by omega
      simp only [t10, t11, t12, t13, t14, if_false]
      omega
    · exact (w3 l2 (by omega)).cong (fun k h1 h2 => hu k (by omega) (by omega))
  · rw [hu 4 (by omega) (by omega)] at h1
    rw [hu _ (by omega) (by omega)]; exact w4 c2 j (by omega) h2 h4
  · rw [e3] at h1
    rw [hu _ (by omega) (by omega)]; exact w5 l2 j (by omega) h2 h4
theorem ovB_rng {R : rw_} {c l : Nat} (h : 0 ≤ R (79 + 10 * c) ∧ R (79 + 10 * c) < 64) (hl : l < 6) : 0 ≤ ovB R c l ∧ ovB R c l < 64 := by
  unfold ovB
  split
  · have h1 : (R (79 + 10 * c)).toNat < 2 ^ 6 := by omega
    have h2 : 2 ^ l < 2 ^ 6 := Nat.pow_lt_pow_right (by decide) hl
    have := Nat.or_lt_two_pow h1 h2
    omega
  · exact h
theorem ovA_ne {R : rw_} {l k : Nat} : ∀ {n : Nat}, (∀ c, c < n → k ≠ 79 + 10 * c) → ovA R l n k = R k
  | 0, _ => rfl
  | n + 1, h => by rw [ovA_s, up_ne (h n (by omega)), ovA_ne (fun c hc => h c (by omega))]
theorem ovA_ok {R C : rw_} (hW : WF R) (hL : LayOK R C) {l : Nat} (hl : l < 6) : ∀ n : Nat, (n : Int) ≤ R 4 → WF (ovA R l n) ∧ LayOK (ovA R l n) C
  | 0, _ => ⟨hW, hL⟩
  | n + 1, h => by
    obtain ⟨a, b⟩ := ovA_ok hW hL hl n (by omega)
    have e4 : ovA R l n 4 = R 4 := ovA_ne (fun c hc => by omega)
    have w := a.2.1 n (by omega)
    rw [ovA_s]
    refine ⟨a.setc (c := n) (by omega) ?_ (fun k hk => up_ne (by omega)), b.cong (up_ne (by omega)) (fun c hc => ⟨up_ne (by omega), up_ne (by omega), up_ne (by omega), up_ne (by omega)⟩)⟩
    have h79 := ovB_rng (R := ovA R l n) (c := n) (l := l) ⟨w.2.2.2.2.2.2.2.2.2.2.2.2.1, w.2.2.2.2.2.2.2.2.2.2.2.2.2⟩ hl
    generalize ovB (ovA R l n) n l = v at h79
    unfold WFc lasF at *
    rw [up_ne (k := 79 + 10 * n) (j := 70 + 10 * n) (by omega), up_ne (k := 79 + 10 * n) (j := 71 + 10 * n) (by omega), up_ne (k := 79 + 10 * n) (j := 72 + 10 * n) (by omega), up_ne (k := 79 + 10 * n) (j := 73 + 10 * n) (by omega), up_ne (k := 79 + 10 * n) (j := 74 + 10 * n) (by omega), up_ne (k := 79 + 10 * n) (j := 75 + 10 * n) (by omega), up_ne (k := 79 + 10 * n) (j := 76 + 10 * n) (by omega), up_at]
    obtain ⟨y0, y1, y2, y3, y4, y5, y6, y7, y8, y9, y10, y11, y12, y13⟩ := w
    exact ⟨y0, y1, y2, y3, y4, y5, y6, y7, y8, y9, y10, y11, h79.1, h79.2⟩
theorem spL_ok {R C : rw_} (hW : WF R) (hL : LayOK R C) (L x m u lo : Int) : WF (spL R L x m u lo).1 ∧ LayOK (spL R L x m u lo).1 C := by
  unfold spL
  split
  next q =>
    split
    next q1 =>
      obtain ⟨a, b, e3, e⟩ := newL_ok hW hL q q1
      have hb := hW.l
      have hc := hW.c
      exact ovA_ok a b (by omega) _ (by rw [e 4 (by omega) (by omega)]; omega)
    next => exact ⟨hW, hL⟩
  next => exact ⟨hW, hL⟩
theorem newC_ok {R C : rw_} (hW : WF R) (hL : LayOK R C) {L len sp me : Int} (hq : (0 ≤ L ∧ L ≤ 1) ∧ (1 ≤ len ∧ len ≤ 4) ∧ (1 ≤ sp ∧ sp ≤ 4) ∧ (1 ≤ me ∧ me ≤ 9)) (h4 : R 4 < 40) (hf : C (40 * L).toNat < 0) : WF (newC R L len sp me) ∧ LayOK (newC R L len sp me) (upC C L 0 (R 4)) ∧ newC R L len sp me 4 = R 4 + 1 ∧ (∀ k, k ≠ 4 → ¬ (70 + 10 * (R 4).toNat ≤ k ∧ k < 75 + 10 * (R 4).toNat) → newC R L len sp me k = R k) ∧ newC R L len sp me (70 + 10 * (R 4).toNat) = L ∧ newC R L len sp me (71 + 10 * (R 4).toNat) = 0 ∧ newC R L len sp me (72 + 10 * (R 4).toNat) = len ∧ newC R L len sp me (73 + 10 * (R 4).toNat) = sp ∧ newC R L len sp me (74 + 10 * (R 4).toNat) = me ∧ ∀ j, 5 ≤ j → j < 10 → newC R L len sp me (70 + 10 * (R 4).toNat + j) = 0 := by
  have hu : ∀ k, k ≠ 4 → ¬ (70 + 10 * (R 4).toNat ≤ k ∧ k < 75 + 10 * (R 4).toNat) → newC R L len sp me k = R k := by
    intro k h1 h2
    unfold newC
    rw [up_ne h1, up_ne (by omega), up_ne (by omega), up_ne (by omega), up_ne (by omega)]
  have e4 : newC R L len sp me 4 = R 4 + 1 := by unfold newC; rw [up_at]
  have hb := hW.c
  obtain ⟨w1, w2, w3, w4, w5⟩ := hW
  have v0 : newC R L len sp me (70 + 10 * (R 4).toNat) = L := by
    unfold newC; rw [up_ne (by omega), up_ne (by omega), up_ne (by omega), up_ne (by omega), up_at]
  have v1 : newC R L len sp me (71 + 10 * (R 4).toNat) = 0 := by
    unfold newC; rw [up_ne (by omega), up_ne (by omega), up_ne (by omega), up_ne (by omega), up_ne (by omega)]
    have := w4 (R 4).toNat 1 (by omega) (by omega) (by omega)
    rw [← this]; congr 1; omega
  have v2 : newC R L len sp me (72 + 10 * (R 4).toNat) = len := by
    unfold newC; rw [up_ne (by omega), up_ne (by omega), up_ne (by omega), up_at]
  have v3 : newC R L len sp me (73 + 10 * (R 4).toNat) = sp := by
    unfold newC; rw [up_ne (by omega), up_ne (by omega), up_at]
  have v4 : newC R L len sp me (74 + 10 * (R 4).toNat) = me := by
    unfold newC; rw [up_ne (by omega), up_at]
  have vz : ∀ j, 5 ≤ j → j < 10 → newC R L len sp me (70 + 10 * (R 4).toNat + j) = 0 := fun j h1 h2 => by
    rw [hu _ (by omega) (by omega)]; exact w4 _ j (by omega) (by omega) h2
  have vz5 := vz 5 (by omega) (by omega)
  have vz6 := vz 6 (by omega) (by omega)
  have vz9 := vz 9 (by omega) (by omega)
  rw [show 70 + 10 * (R 4).toNat + 5 = 75 + 10 * (R 4).toNat by omega] at vz5
  rw [show 70 + 10 * (R 4).toNat + 6 = 76 + 10 * (R 4).toNat by omega] at vz6
  rw [show 70 + 10 * (R 4).toNat + 9 = 79 + 10 * (R 4).toNat by omega] at vz9
  refine ⟨⟨?_, fun c2 h2 => ?_, fun l2 h2 => ?_, fun c2 j h1 h2 h4 => ?_, fun l2 j h1 h2 h4 => ?_⟩, ⟨fun c k h1 h2 h3 h5 => ?_, fun k hk => ?_⟩, e4, hu, v0, v1, v2, v3, v4, vz⟩
  · rw [e4, hu 0 (by omega) (by omega), hu 1 (by omega) (by omega), hu 3 (by omega) (by omega)]; omega
  · rw [e4] at h2
    by_cases e : c2 = (R 4).toNat
    · rw [e]
      unfold WFc lasF
      rw [v0, v1, v2, v3, v4, vz5, vz6, vz9]
      omega
    · exact (w2 c2 (by omega)).cong (fun k h1 h2 => hu k (by omega) (by omega))
  · rw [hu 3 (by omega) (by omega)] at h2
    exact (w3 l2 h2).cong (fun k h1 h2 => hu k (by omega) (by omega))
  · rw [e4] at h1
    rw [hu _ (by omega) (by omega)]; exact w4 c2 j (by omega) h2 h4
  · rw [hu 3 (by omega) (by omega)] at h1
    rw [hu _ (by omega) (by omega)]; exact w5 l2 j (by omega) h2 h4
  · rw [e4] at h1
    unfold upC
    by_cases e : c = (R 4).toNat
    · rw [e] at h5 ⊢
      unfold cov lasF at h5
      rw [v0, v1, v2] at h5
      rw [if_pos (by omega)]; omega
    · have hcc : (c : Int) < R 4 := by omega
      rw [hu _ (by omega) (by omega)] at h2
      unfold cov lasF at h5
      rw [hu (70 + 10 * c) (by omega) (by omega), hu (71 + 10 * c) (by omega) (by omega), hu (72 + 10 * c) (by omega) (by omega)] at h5
      have e2 := hL.1 c k hcc h2 h3 h5
      rw [if_neg]
      · exact e2
      · intro z
        have ek : k = (40 * L).toNat := by omega
        rw [← ek] at hf
        omega
  · unfold upC
    by_cases q : (k : Int) = 40 * L + 0 ∧ 0 ≤ (0 : Int) ∧ (0 : Int) ≤ 39
    · rw [if_pos q]
      refine Or.inr ⟨(R 4).toNat, by rw [e4]; omega, vz5, ?_, by omega⟩
      unfold cov lasF
      rw [v0, v1, v2]
      omega
    · rw [if_neg q]
      rcases hL.2 k hk with z | ⟨c, z1, z2, z3, z4⟩
      · exact Or.inl z
      · refine Or.inr ⟨c, by rw [e4]; omega, by rw [hu _ (by omega) (by omega)]; exact z2, ?_, z4⟩
        unfold cov lasF
        rw [hu (70 + 10 * c) (by omega) (by omega), hu (71 + 10 * c) (by omega) (by omega), hu (72 + 10 * c) (by omega) (by omega)]
        exact z3
theorem spC_ok {R C : rw_} (hW : WF R) (hL : LayOK R C) (L len sp me : Int) : WF (spC R C L len sp me).1.1 ∧ LayOK (spC R C L len sp me).1.1 (spC R C L len sp me).1.2 := by
  unfold spC
  split
  next q =>
    split
    next q1 =>
      split
      next q2 => exact ⟨(newC_ok hW hL q q1 q2).1, (newC_ok hW hL q q1 q2).2.1⟩
      next => exact ⟨hW, hL⟩
    next => exact ⟨hW, hL⟩
  next => exact ⟨hW, hL⟩
