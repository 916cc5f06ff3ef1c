/-! the states after the constructors match -/
def R0_ : rw_ := fun k => if k < 2 then 1 else 0
theorem wf_0 : WF R0_ ∧ LayOK R0_ (fun _ => -6) := by
  have z : ∀ k, 2 ≤ k → R0_ k = 0 := fun k hk => by unfold R0_; rw [if_neg (by omega)]
  have o : ∀ k, k < 2 → R0_ k = 1 := fun k hk => by unfold R0_; rw [if_pos hk]
  have z3 := z 3 (by omega)
  have z4 := z 4 (by omega)
  have o0 := o 0 (by omega)
  have o1 := o 1 (by omega)
  refine ⟨⟨by omega, fun c hc => by omega, fun l hl => by omega, fun c j h1 h2 h3 => z _ (by omega), fun l j h1 h2 h3 => z _ (by omega)⟩, fun c k hc => by omega, fun k hk => Or.inl rfl⟩
/-- what the constructors leave -/
def Ini (h : mH) : Prop := (h.1 0 0 0 4 = 0 ∧ h.1 0 0 0 5 = 0 ∧ h.1 0 0 0 6 = 0 ∧ h.1 0 0 0 7 = 1 ∧ h.1 0 0 0 8 = 1) ∧ (∀ k, k < 80 → h.1 3 0 0 k = -6) ∧ (h.1 11 0 0 1 = 0 ∧ h.1 11 0 0 2 = 0 ∧ h.1 9 0 0 1 = 0) ∧ (∀ s, s < 2 → h.1 15 0 0 s = 0) ∧ (∀ k, k < 470 → h.1 21 0 0 k = if k < 2 then 1 else 0) ∧ ∀ k s, 20 ≤ k → k < 30 → k ≠ 21 → s < kz k → h.1 k 0 0 s = 0
theorem iv_0 {h : mH} (i : Ini h) : Iv 0 h := by
  obtain ⟨⟨a1, a2, a3, a4, a5⟩, b, ⟨c1, c2, c3⟩, d, e, f⟩ := i
  have z : ∀ k, 2 ≤ k → R0_ k = 0 := fun k hk => by unfold R0_; rw [if_neg (by omega)]
  have o : ∀ k, k < 2 → R0_ k = 1 := fun k hk => by unfold R0_; rw [if_pos hk]
  have w := wf_0
  refine ⟨0, R0_, fun _ => -6, 0, fun _ => (R0_, fun _ => -6), fun _ => 0, fun _ => (R0_, fun _ => -6), fun _ => 0, 0, fun _ _ => 0, fun _ => 0, ⟨⟨⟨?_, ?_, ?_, ?_, ?_⟩, fun c hc => ?_, fun l hl => ?_, fun k hk => ?_⟩, ⟨by omega, by omega, c1, c2, fun j hj => by omega⟩, fun s hs => ⟨Or.inl rfl, d s hs, fun z => ?_⟩, ⟨by omega, c3, fun i hi => by omega, fun i hi => by omega⟩⟩, ⟨fun k hk => ?_, fun k hk => f 27 k (by omega) (by omega) (by omega) hk, fun k s h1 h2 h3 h4 h5 h6 => f k s h1 h2 h3 h6⟩, ⟨rfl, by omega, rfl, fun j hj => by omega, fun s hs => ⟨Or.inl rfl, rfl, fun z => ?_⟩, ⟨by omega, rfl, fun i hi => by omega, fun i hi => by omega⟩⟩, ⟨w.1, w.2, ?_, ?_, ?_⟩, fun j hj => by omega, fun s hs v => ?_⟩
  · rw [a1, z 4 (by omega)]; rfl
  · rw [a2, z 3 (by omega)]; rfl
  · rw [a3, z 2 (by omega)]; rfl
  · rw [a4, o 0 (by omega)]; rfl
  · rw [a5, o 1 (by omega)]; rfl
  · rw [z 4 (by omega)] at hc; omega
  · rw [z 3 (by omega)] at hl; omega
  · rw [b k hk]; exact zm6
  · exact absurd z (show ¬ (0 : Int) = 1 by decide)
  · rw [e k hk]
    unfold R0_
    by_cases q : k < 2
    · rw [if_pos q, if_pos q]; rfl
    · rw [if_neg q, if_neg q]; rfl
  · exact absurd z (show ¬ (0 : Int) = 1 by decide)
  · show 0 ≤ R0_ 2
    rw [z 2 (by omega)]; omega
  · show R0_ 2 ≤ 0
    rw [z 2 (by omega)]; omega
  · show nuX 0 R0_
    refine ⟨?_, fun l hl => ⟨?_, ?_⟩, fun l hl => ?_, fun c hc => ?_, ?_⟩
    · unfold c6F
      rw [z 16 (by omega), z 26 (by omega), z 36 (by omega), z 46 (by omega), z 56 (by omega), z 66 (by omega), z 2 (by omega)]
      omega
    · rw [z _ (by omega)]; exact Int.le_refl 0
    · rw [z _ (by omega)]; exact Int.le_refl 0
    · rw [z 3 (by omega)] at hl; omega
    · rw [z _ (by omega)]; exact Int.le_refl 0
    · rw [z 4 (by omega)]; exact Int.le_refl 0
  · exact absurd v (show ¬ (0 : Int) = 1 by decide)
