/-! pictures: one car, one loop, the cells written anew -/
theorem RPc.cong {h h2 : mH} {r c : Nat} {R R2 : rw_} (a : RPc h r R c) (hh : ∀ s, h2.1 5 r c s = h.1 5 r c s) (hR : ∀ k, 70 + 10 * c ≤ k → k < 80 + 10 * c → R2 k = R k) : RPc h2 r R2 c := by
  unfold RPc at *
  simp only [hh]
  rw [hR (70 + 10 * c) (by omega) (by omega), hR (71 + 10 * c) (by omega) (by omega), hR (72 + 10 * c) (by omega) (by omega), hR (73 + 10 * c) (by omega) (by omega), hR (74 + 10 * c) (by omega) (by omega), hR (75 + 10 * c) (by omega) (by omega), hR (76 + 10 * c) (by omega) (by omega), hR (77 + 10 * c) (by omega) (by omega), hR (78 + 10 * c) (by omega) (by omega), hR (79 + 10 * c) (by omega) (by omega)]
  exact a
theorem RPl.cong {h h2 : mH} {r l : Nat} {R R2 : rw_} (a : RPl h r R l) (hh : ∀ s, h2.1 6 r l s = h.1 6 r l s) (hR : ∀ k, 10 + 10 * l ≤ k → k < 20 + 10 * l → R2 k = R k) : RPl h2 r R2 l := by
  unfold RPl at *
  simp only [hh]
  rw [hR (10 + 10 * l) (by omega) (by omega), hR (11 + 10 * l) (by omega) (by omega), hR (12 + 10 * l) (by omega) (by omega), hR (13 + 10 * l) (by omega) (by omega), hR (14 + 10 * l) (by omega) (by omega), hR (15 + 10 * l) (by omega) (by omega), hR (16 + 10 * l) (by omega) (by omega), hR (17 + 10 * l) (by omega) (by omega), hR (19 + 10 * l) (by omega) (by omega)]
  exact a
theorem RPs.cong {h h2 : mH} {r : Nat} {R R2 : rw_} (a : RPs h r R) (hh : ∀ s, h2.1 0 r 0 s = h.1 0 r 0 s) (hR : ∀ k, k < 10 → R2 k = R k) : RPs h2 r R2 := by
  unfold RPs at *
  simp only [hh]
  rw [hR 0 (by omega), hR 1 (by omega), hR 2 (by omega), hR 3 (by omega), hR 4 (by omega)]
  exact a
theorem RP.setc {h h2 : mH} {r : Nat} {R R2 C : rw_} (hP : RP h r R C) (hl : R 3 ≤ 6) {c : Nat} (hc : RPc h2 r R2 c) (hR : ∀ k, ¬ (70 + 10 * c ≤ k ∧ k < 80 + 10 * c) → R2 k = R k) (hh : ∀ k r2 i s, ¬ (k = 5 ∧ r2 = r ∧ i = c) → h2.1 k r2 i s = h.1 k r2 i s) : RP h2 r R2 C := by
  have e3 : R2 3 = R 3 := hR 3 (by omega)
  have e4 : R2 4 = R 4 := hR 4 (by omega)
  refine ⟨hP.1.cong (fun s => hh 0 r 0 s (by omega)) (fun k hk => hR k (by omega)), fun c2 h2c => ?_, fun l h2l => ?_, fun k hk => by rw [hh 3 r 0 k (by omega)]; exact hP.2.2.2 k hk⟩
  · by_cases e : c2 = c
    · rw [e]; exact hc
    · exact (hP.2.1 c2 (by omega)).cong (fun s => hh 5 r c2 s (by omega)) (fun k h1 h2 => hR k (by omega))
  · exact (hP.2.2.1 l (by omega)).cong (fun s => hh 6 r l s (by omega)) (fun k h1 h2 => hR k (by omega))
theorem RP.setl {h h2 : mH} {r : Nat} {R R2 C : rw_} (hP : RP h r R C) (hl3 : R 3 ≤ 6) {l : Nat} (hl6 : l < 6) (hl : RPl h2 r R2 l) (hR : ∀ k, ¬ (10 + 10 * l ≤ k ∧ k < 20 + 10 * l) → R2 k = R k) (hh : ∀ k r2 i s, ¬ (k = 6 ∧ r2 = r ∧ i = l) → h2.1 k r2 i s = h.1 k r2 i s) : RP h2 r R2 C := by
  have e3 : R2 3 = R 3 := hR 3 (by omega)
  have e4 : R2 4 = R 4 := hR 4 (by omega)
  refine ⟨hP.1.cong (fun s => hh 0 r 0 s (by omega)) (fun k hk => hR k (by omega)), fun c h2c => ?_, fun l2 h2l => ?_, fun k hk => by rw [hh 3 r 0 k (by omega)]; exact hP.2.2.2 k hk⟩
  · exact (hP.2.1 c (by omega)).cong (fun s => hh 5 r c s (by omega)) (fun k h1 h2 => hR k (by omega))
  · by_cases e : l2 = l
    · rw [e]; exact hl
    · exact (hP.2.2.1 l2 (by omega)).cong (fun s => hh 6 r l2 s (by omega)) (fun k h1 h2 => hR k (by omega))
theorem RP.sett {h h2 : mH} {r : Nat} {R C C2 : rw_} (hP : RP h r R C) (hC : ∀ k, k < 80 → h2.1 3 r 0 k = zI (C2 k)) (hh : ∀ k r2 i s, ¬ (k = 3 ∧ r2 = r) → h2.1 k r2 i s = h.1 k r2 i s) : RP h2 r R C2 :=
  ⟨hP.1.cong (fun s => hh 0 r 0 s (by omega)) (fun _ _ => rfl), fun c hc => (hP.2.1 c hc).cong (fun s => hh 5 r c s (by omega)) (fun _ _ _ => rfl), fun l hl => (hP.2.2.1 l hl).cong (fun s => hh 6 r l s (by omega)) (fun _ _ _ => rfl), hC⟩
theorem RP.tick {h h2 : mH} {r : Nat} {R C : rw_} (hP : RP h r R C) {v : Int} (hl : R 3 ≤ 6) (hv : h2.1 0 r 0 6 = zI v) (hh : ∀ k r2 i s, ¬ (k = 0 ∧ r2 = r ∧ s = 6) → h2.1 k r2 i s = h.1 k r2 i s) : RP h2 r (up R 2 v) C := by
  have e3 : up R 2 v 3 = R 3 := up_ne (by decide)
  have e4 : up R 2 v 4 = R 4 := up_ne (by decide)
  have hu : ∀ k, k ≠ 2 → up R 2 v k = R k := fun k hk => up_ne hk
  refine ⟨?_, fun c hc => (hP.2.1 c (by omega)).cong (fun s => hh 5 r c s (by omega)) (fun k h1 h2 => hu k (by omega)), fun l hl2 => (hP.2.2.1 l (by omega)).cong (fun s => hh 6 r l s (by omega)) (fun k h1 h2 => hu k (by omega)), fun k hk => by rw [hh 3 r 0 k (by omega)]; exact hP.2.2.2 k hk⟩
  obtain ⟨a1, a2, a3, a4, a5⟩ := hP.1
  refine ⟨?_, ?_, ?_, ?_, ?_⟩
  · rw [hh 0 r 0 4 (by omega), e4]; exact a1
  · rw [hh 0 r 0 5 (by omega), e3]; exact a2
  · rw [hv, up_at]
  · rw [hh 0 r 0 7 (by omega), hu 0 (by decide)]; exact a4
  · rw [hh 0 r 0 8 (by omega), hu 1 (by decide)]; exact a5
theorem RP.otherRoad {h h2 : mH} {r r2 : Nat} {R C : rw_} (hP : RP h r R C) (hF : FrR r2 h h2) (hn : r ≠ r2) : RP h2 r R C :=
  ⟨hP.1.cong (fun s => hF 0 r 0 s (by omega)) (fun _ _ => rfl), fun c hc => (hP.2.1 c hc).cong (fun s => hF 5 r c s (by omega)) (fun _ _ _ => rfl), fun l hl => (hP.2.2.1 l hl).cong (fun s => hF 6 r l s (by omega)) (fun _ _ _ => rfl), fun k hk => by rw [hF 3 r 0 k (by omega)]; exact hP.2.2.2 k hk⟩
/-! numbers of a row that a step leaves -/
theorem chgF_ne {R : rw_} {c k : Nat} (hk : ¬ (70 + 10 * c ≤ k ∧ k < 80 + 10 * c)) : chgF R c k = R k := by
  unfold chgF
  rw [up_ne (by omega), up_ne (by omega), up_ne (by omega)]
theorem onF_ne {R : rw_} {c m k : Nat} (hk : ¬ (70 + 10 * c ≤ k ∧ k < 80 + 10 * c)) : onF R c m k = R k := by
  unfold onF
  rw [up_ne (by omega), up_ne (by omega), up_ne (by omega)]
theorem mvF_ne {R C : rw_} {c k : Nat} (hk : ¬ (70 + 10 * c ≤ k ∧ k < 80 + 10 * c)) : (mvF R C c).1 k = R k := by
  unfold mvF
  split
  · exact chgF_ne hk
  · exact onF_ne hk
theorem heaF_ne {R : rw_} {l k : Nat} {s : Int} (hk : ¬ (10 + 10 * l ≤ k ∧ k < 20 + 10 * l)) : heaF R l s k = R k := by
  unfold heaF
  split
  · rw [up_ne (by omega), up_ne (by omega), up_ne (by omega)]
  · split
    · rw [up_ne (by omega), up_ne (by omega)]
    · rw [up_ne (by omega)]
theorem heaF_ne2 {R : rw_} {l k : Nat} {s : Int} (h1 : k ≠ 15 + 10 * l) (h2 : k ≠ 16 + 10 * l) (h3 : k ≠ 19 + 10 * l) : heaF R l s k = R k := by
  unfold heaF
  split
  · rw [up_ne h2, up_ne h1, up_ne h3]
  · split
    · rw [up_ne h1, up_ne h3]
    · rw [up_ne h3]
theorem WFc.cong {R R2 : rw_} {c : Nat} (w : WFc R c) (h : ∀ k, 70 + 10 * c ≤ k → k < 80 + 10 * c → R2 k = R k) : WFc R2 c := by
  unfold WFc lasF at *
  rw [h (70 + 10 * c) (by omega) (by omega), h (71 + 10 * c) (by omega) (by omega), h (72 + 10 * c) (by omega) (by omega), h (73 + 10 * c) (by omega) (by omega), h (74 + 10 * c) (by omega) (by omega), h (75 + 10 * c) (by omega) (by omega), h (76 + 10 * c) (by omega) (by omega), h (79 + 10 * c) (by omega) (by omega)]
  exact w
theorem WFl.cong {R R2 : rw_} {l : Nat} (w : WFl R l) (h : ∀ k, 10 + 10 * l ≤ k → k < 16 + 10 * l → R2 k = R k) : WFl R2 l := by
  unfold WFl at *
  rw [h (10 + 10 * l) (by omega) (by omega), h (11 + 10 * l) (by omega) (by omega), h (12 + 10 * l) (by omega) (by omega), h (13 + 10 * l) (by omega) (by omega), h (14 + 10 * l) (by omega) (by omega), h (15 + 10 * l) (by omega) (by omega)]
  exact w
/-- a row in which one living car has changed -/
theorem WF.setc {R R2 : rw_} (w : WF R) {c : Nat} (hc : (c : Int) < R 4) (wc : WFc R2 c) (h : ∀ k, ¬ (70 + 10 * c ≤ k ∧ k < 80 + 10 * c) → R2 k = R k) : WF R2 := by
  obtain ⟨w1, w2, w3, w4, w5⟩ := w
  refine ⟨?_, fun c2 h2 => ?_, fun l hl => ?_, fun c2 j h1 h2 h3 => ?_, fun l j h1 h2 h3 => ?_⟩
  · rw [h 0 (by omega), h 1 (by omega), h 3 (by omega), h 4 (by omega)]; exact w1
  · rw [h 4 (by omega)] at h2
    by_cases e : c2 = c
    · rw [e]; exact wc
    · exact (w2 c2 h2).cong (fun k h1 h2 => h k (by omega))
  · rw [h 3 (by omega)] at hl
    exact (w3 l hl).cong (fun k h1 h2 => h k (by omega))
  · rw [h 4 (by omega)] at h1
    rw [h _ (by omega)]; exact w4 c2 j h1 h2 h3
  · rw [h 3 (by omega)] at h1
    rw [h _ (by omega)]; exact w5 l j h1 h2 h3
theorem WF.setl {R R2 : rw_} (w : WF R) {l : Nat} (hl : (l : Int) < R 3) (wl : WFl R2 l) (h : ∀ k, ¬ (10 + 10 * l ≤ k ∧ k < 20 + 10 * l) → R2 k = R k) : WF R2 := by
  obtain ⟨w1, w2, w3, w4, w5⟩ := w
  have e3 := h 3 (by omega)
  have e4 := h 4 (by omega)
  refine ⟨?_, fun c2 h2 => ?_, fun l2 h2 => ?_, fun c2 j h1 h2 h3 => ?_, fun l2 j h1 h2 h3 => ?_⟩
  · rw [h 0 (by omega), h 1 (by omega), h 3 (by omega), h 4 (by omega)]; exact w1
  · exact (w2 c2 (by omega)).cong (fun k h1 h2 => h k (by omega))
  · by_cases e : l2 = l
    · rw [e]; exact wl
    · exact (w3 l2 (by omega)).cong (fun k h1 h2 => h k (by omega))
  · rw [h _ (by omega)]; exact w4 c2 j (by omega) h2 h3
  · rw [h _ (by omega)]; exact w5 l2 j (by omega) h2 h3
theorem WF.set2 {R : rw_} (w : WF R) {v : Int} : WF (up R 2 v) := by
  obtain ⟨w1, w2, w3, w4, w5⟩ := w
  have hu : ∀ k, k ≠ 2 → up R 2 v k = R k := fun k hk => up_ne hk
  have e3 := hu 3 (by omega)
  have e4 := hu 4 (by omega)
  refine ⟨?_, fun c2 h2 => (w2 c2 (by omega)).cong (fun k h1 h2 => hu k (by omega)), fun l2 h2 => (w3 l2 (by omega)).cong (fun k h1 h2 => hu k (by omega)), fun c2 j h1 h2 h3 => ?_, fun l2 j h1 h2 h3 => ?_⟩
  · rw [hu 0 (by omega), hu 1 (by omega), hu 3 (by omega), hu 4 (by omega)]; exact w1
  · rw [hu _ (by omega)]; exact w4 c2 j (by omega) h2 h3
  · rw [hu _ (by omega)]; exact w5 l2 j (by omega) h2 h3
/-! cells -/
theorem adv_le {L len f : Int} {C : rw_} : ∀ {n : Nat}, advF L len C f n ≤ n := by
  intro n
  induction n generalizing f with
  | zero => exact Nat.le_refl 0
  | succ n ih =>
    unfold advF
    split
    · have := ih (f := f + 1); omega
    · omega
theorem adv_free {L len : Int} {C : rw_} : ∀ {n : Nat} {f : Int} {j : Nat}, j < advF L len C f n → freeP C L (f + 1 + j) ∧ f + j - len + 1 < 40 := by
  intro n
  induction n with
  | zero => intro f j h; simp [advF] at h
  | succ n ih =>
    intro f j h
    unfold advF at h
    split at h
    next hc =>
      cases j with
      | zero => exact ⟨by simpa using hc.2, by simpa using hc.1⟩
      | succ j =>
        have := ih (f := f + 1) (j := j) (by omega)
        rw [show f + 1 + ((j + 1 : Nat) : Int) = f + 1 + 1 + j by omega, show f + ((j + 1 : Nat) : Int) = f + 1 + j by omega]
        exact this
    next => omega
theorem bes_free {C : rw_} {L : Int} : ∀ {n : Nat} {x : Int}, besF C L x n = true → ∀ j : Nat, j < n → freeP C L (x + j) := by
  intro n
  induction n with
  | zero => intro x _ j hj; omega
  | succ n ih =>
    intro x h j hj
    unfold besF at h
    simp only [Bool.and_eq_true, decide_eq_true_eq] at h
    cases j with
    | zero => simpa using h.1
    | succ j =>
      have := ih h.2 j (by omega)
      rw [show x + ((j + 1 : Nat) : Int) = x + 1 + j by omega]
      exact this
/-- one car moves to cells that no other takes: the cells stay right -/
theorem LayOK.move {R R2 C C2 : rw_} {c : Nat} (hL : LayOK R C) (hc : (c : Int) < R 4) (h4 : R2 4 = R 4) (hoth : ∀ k, ¬ (70 + 10 * c ≤ k ∧ k < 80 + 10 * c) → R2 k = R k) (hon : R (75 + 10 * c) = 0)
    (hfree : R2 (75 + 10 * c) = 0 → ∀ k, k < 80 → cov R2 c k → C k = -6 ∨ C k = c) (hC : ∀ k, k < 80 → C2 k = if R2 (75 + 10 * c) = 0 ∧ cov R2 c k then (c : Int) else if cov R c k then -6 else C k) : LayOK R2 C2 := by
  have hcov : ∀ c2 k, c2 ≠ c → (cov R2 c2 k ↔ cov R c2 k) := by
    intro c2 k hne
    unfold cov lasF
    rw [hoth (70 + 10 * c2) (by omega), hoth (71 + 10 * c2) (by omega), hoth (72 + 10 * c2) (by omega)]
  have hg : ∀ c2, c2 ≠ c → R2 (75 + 10 * c2) = R (75 + 10 * c2) := fun c2 hne => hoth _ (by omega)
  refine ⟨fun c2 k h1 h2 h3 h5 => ?_, fun k hk => ?_⟩
  · rw [hC k h3]
    by_cases e : c2 = c
    · subst e
      rw [if_pos ⟨h2, h5⟩]
    · rw [h4] at h1
      rw [hg c2 e] at h2
      have h6 := hL.1 c2 k h1 h2 h3 ((hcov c2 k e).mp h5)
      have n1 : ¬ (R2 (75 + 10 * c) = 0 ∧ cov R2 c k) := by
        intro q
        have := hfree q.1 k h3 q.2
        omega
      have n2 : ¬ cov R c k := by
        intro q
        have := hL.1 c k hc hon h3 q
        omega
      rw [if_neg n1, if_neg n2]; exact h6
  · rw [hC k hk]
    by_cases q : R2 (75 + 10 * c) = 0 ∧ cov R2 c k
    · rw [if_pos q]
      exact Or.inr ⟨c, by omega, q.1, q.2, rfl⟩
    · rw [if_neg q]
      by_cases q2 : cov R c k
      · rw [if_pos q2]; exact Or.inl rfl
      · rw [if_neg q2]
        rcases hL.2 k hk with z | ⟨c2, z1, z2, z3, z4⟩
        · exact Or.inl z
        · by_cases e : c2 = c
          · subst e; exact absurd z3 q2
          · exact Or.inr ⟨c2, by omega, by rw [hg c2 e]; exact z2, (hcov c2 k e).mpr z3, z4⟩
