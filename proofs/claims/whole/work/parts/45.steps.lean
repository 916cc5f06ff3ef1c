/-! one call on both sides: the same answer, and the states match again -/
def Iv (B : Int) (h : mH) : Prop := ∃ (u : Nat) (R C : rw_) (k : Nat) (H : HsT) (V : rw_) (W : HsT) (P : rw_) (n : Nat) (S : Nat → rw_) (C' : rw_), CG h u R C k H V W P n ∧ MR h S R C' ∧ SG S k H V W P n ∧ okX B (R, C) ∧ (∀ j, j < k → okX B (H j)) ∧ (∀ s, s < 2 → V s = 1 → okX B (W s))
abbrev cls_ : mW := .inr (.inr (some (7, 0, 0)))
abbrev ref_ : mW := .inr (.inr (some (20, 0, 0)))
def two (M6 M7 : mM) (a6 a7 : List mW) (B : Int) (h : mH) : Prop := mC M6 a6 h (kI (fun x h1 => mC M7 a7 h1 (kI (fun y h2 => x = y ∧ Iv B h2))))
section STEP
variable {h h2 : mH} {R C R2 C2 C' : rw_} {S : Nat → rw_} {u k n : Nat} {H W : HsT} {V P : rw_} {B B2 : Int}
theorem okX.mono {X : rw_ × rw_} (o : okX B X) (hB : B ≤ B2) : okX B2 X := ⟨o.1, o.2.1, o.2.2.1, by have := o.2.2.2.1; omega, o.2.2.2.2.mono hB⟩
theorem okX_of (h1 : WF R2) (h2 : LayOK R2 C2) (e : R2 2 = R 2) (o : okX B (R, C)) (hB : B ≤ B2) (hn : nuX B2 R2) : okX B2 (R2, C2) := ⟨h1, h2, by have := o.2.2.1; dsimp only at this ⊢; omega, by have := o.2.2.2.1; dsimp only at this ⊢; omega, hn⟩
theorem CG.K (g : CG h u R C k H V W P n) (hF : FrK h h2) : CG h2 u R C k H V W P n := g.same (fun k2 r i s hk _ _ => hF k2 r i s (by omega))
theorem MR.fB (hM : MR h S R C) (hF : FrB h h2) : MR h2 S R C := ⟨fun j hj => by rw [hF 21 0 0 j (by omega)]; exact hM.1 j hj, fun j hj => by rw [hF 27 0 0 j (by omega)]; exact hM.2.1 j hj, fun j s h3 h4 h5 h6 h7 h8 => by rw [hF j 0 0 s h3]; exact hM.2.2 j s h3 h4 h5 h6 h7 h8⟩
theorem nx_ok {a : Int} {X : rw_ × rw_} (hk : k ≤ 6) (oX : okX B X) (oH : ∀ j, j < k → okX B (H j)) : ∀ j, j < nxK k a → okX B (nxH k H X a j) := by
  intro j hj
  unfold nxK at hj
  unfold nxH
  by_cases q : 0 ≤ a
  · rw [if_pos q] at hj ⊢
    unfold psK at hj
    unfold psH
    by_cases q2 : k = 6
    · rw [if_pos q2] at hj ⊢
      by_cases q3 : j = 5
      · rw [if_pos q3]; exact oX
      · rw [if_neg q3]; exact oH (j + 1) (by omega)
    · rw [if_neg q2] at hj ⊢
      by_cases q3 : j = k
      · rw [if_pos q3]; exact oX
      · rw [if_neg q3]; exact oH j (by omega)
  · rw [if_neg q] at hj ⊢
    exact oH j hj
theorem st_ask {M6 M7 : mM} {a6 a7 : List mW} {a : Int} (g : CG h u R C k H V W P n) (hM : MR h S R C') (oX : okX B (R, C)) (oH : ∀ j, j < k → okX B (H j)) (oW : ∀ s, s < 2 → V s = 1 → okX B (W s)) (hB : B ≤ B2)
    (h6 : ∀ Q : mV → mH → Prop, (∀ h2, FrT h h2 → Q (vI (zI a)) h2) → mC M6 a6 h Q)
    (h7 : ∀ h1, MR h1 S R C' → ∀ Q : mV → mH → Prop, (∀ h2 S2 C2, SG S2 k H V W P n → MR h2 S2 R C2 → FrK h1 h2 → Q (vI (zI a)) h2) → mC M7 a7 h1 Q) : two M6 M7 a6 a7 B2 h :=
  h6 _ (fun h1 hF1 => h7 h1 (hM.fB (FrT.B hF1)) _ (fun h2 S2 C3 sg hM2 hF2 => ⟨rfl, u, R, C, k, H, V, W, P, n, S2, C3, (g.T hF1).K hF2, hM2, sg, oX.mono hB, fun j hj => (oH j hj).mono hB, fun s hs v => (oW s hs v).mono hB⟩))
theorem st_chg {M6 M7 : mM} {a6 a7 : List mW} {a : Int} (g : CG h u R C k H V W P n) (hM : MR h S R C') (sg : SG S k H V W P n) (oX : okX B (R, C)) (oH : ∀ j, j < k → okX B (H j)) (oW : ∀ s, s < 2 → V s = 1 → okX B (W s)) (hB : B ≤ B2) (o2 : okX B2 (R2, C2))
    (h6 : ∀ Q : mV → mH → Prop, (∀ h2 u2, CG h2 u2 R2 C2 (nxK k a) (nxH k H (R, C) a) V W P n → FrB h h2 → Q (vI (zI a)) h2) → mC M6 a6 h Q)
    (h7 : ∀ h1, MR h1 S R C' → ∀ Q : mV → mH → Prop, (∀ h2 C3, MR h2 (recI S R a) R2 C3 → FrK h1 h2 → Q (vI (zI a)) h2) → mC M7 a7 h1 Q) : two M6 M7 a6 a7 B2 h :=
  h6 _ (fun h1 u2 g1 hF1 => h7 h1 (hM.fB hF1) _ (fun h2 C3 hM2 hF2 => ⟨rfl, u2, R2, C2, _, _, V, W, P, n, _, C3, g1.K hF2, hM2, sg.rcI, o2, nx_ok g.2.1.2.1 (oX.mono hB) (fun j hj => (oH j hj).mono hB), fun s hs v => (oW s hs v).mono hB⟩))
theorem st_set (I : Iv B h) (a b : Int32) : two M6_set M7_set [cls_, .inl a, .inl b] [ref_, .inl a, .inl b] (B + 1536) h := by
  obtain ⟨u, R, C, k, H, V, W, P, n, S, C', g, hM, sg, oX, oH, oW⟩ := I
  rw [z_of a, z_of b]
  have o := spS_ok oX.1 oX.2.1 a.toInt b.toInt
  exact st_chg g hM sg oX oH oW (by omega) (okX_of o.1 o.2 spS_2 oX (by omega) ((spS_nu oX.1 oX.2.2.2.2 _ _).mono (by omega))) (fun Q hq => c6_set (i32_rng a) (i32_rng b) g oX.1 hq) (fun h1 hM1 Q hq => c7_set (i32_rng a) (i32_rng b) hM1 sg.ok oX.1 (fun h2 hM2 hF2 => hq h2 _ hM2 hF2))
theorem st_bounds (I : Iv B h) (a b c : Int32) : two M6_bounds M7_bounds [cls_, .inl a, .inl b, .inl c] [ref_, .inl a, .inl b, .inl c] (B + 1536) h := by
  obtain ⟨u, R, C, k, H, V, W, P, n, S, C', g, hM, sg, oX, oH, oW⟩ := I
  rw [z_of a, z_of b, z_of c]
  have o := spB_ok oX.1 oX.2.1 a.toInt b.toInt c.toInt
  exact st_chg g hM sg oX oH oW (by omega) (okX_of o.1 o.2 spB_2 oX (by omega) ((spB_nu oX.1 oX.2.2.2.2 _ _ _).mono (by omega))) (fun Q hq => c6_bounds (i32_rng a) (i32_rng b) (i32_rng c) g oX.1 hq) (fun h1 hM1 Q hq => c7_bounds (i32_rng a) (i32_rng b) (i32_rng c) hM1 sg.ok oX.1 (fun h2 hM2 hF2 => hq h2 _ hM2 hF2))
theorem st_loop (I : Iv B h) (a b c d e : Int32) : two M6_loop M7_loop [cls_, .inl a, .inl b, .inl c, .inl d, .inl e] [ref_, .inl a, .inl b, .inl c, .inl d, .inl e] (B + 1536) h := by
  obtain ⟨u, R, C, k, H, V, W, P, n, S, C', g, hM, sg, oX, oH, oW⟩ := I
  rw [z_of a, z_of b, z_of c, z_of d, z_of e]
  have o := spL_ok oX.1 oX.2.1 a.toInt b.toInt c.toInt d.toInt e.toInt
  exact st_chg g hM sg oX oH oW (by omega) (okX_of o.1 o.2 spL_2 oX (by omega) ((spL_nu oX.1 oX.2.1 oX.2.2.2.2 _ _ _ _ _).mono (by omega))) (fun Q hq => c6_loop (i32_rng a) (i32_rng b) (i32_rng c) (i32_rng d) (i32_rng e) g oX.1 oX.2.1 hq) (fun h1 hM1 Q hq => c7_loop (i32_rng a) (i32_rng b) (i32_rng c) (i32_rng d) (i32_rng e) hM1 sg.ok oX.1 oX.2.1 (fun h2 hM2 hF2 => hq h2 _ hM2 hF2))
theorem st_come (I : Iv B h) (a b c d : Int32) : two M6_come M7_come [cls_, .inl a, .inl b, .inl c, .inl d] [ref_, .inl a, .inl b, .inl c, .inl d] (B + 1536) h := by
  obtain ⟨u, R, C, k, H, V, W, P, n, S, C', g, hM, sg, oX, oH, oW⟩ := I
  rw [z_of a, z_of b, z_of c, z_of d]
  have o := spC_ok oX.1 oX.2.1 a.toInt b.toInt c.toInt d.toInt
  exact st_chg g hM sg oX oH oW (by omega) (okX_of o.1 o.2 spC_2 oX (by omega) ((spC_nu oX.1 oX.2.1 oX.2.2.2.2 _ _ _ _).mono (by omega))) (fun Q hq => c6_come (i32_rng a) (i32_rng b) (i32_rng c) (i32_rng d) g oX.1 oX.2.1 hq) (fun h1 hM1 Q hq => c7_come (i32_rng a) (i32_rng b) (i32_rng c) (i32_rng d) hM1 sg.ok oX.1 oX.2.1 (fun h2 C2 hM2 hF2 => hq h2 C2 hM2 hF2))
theorem st_want (I : Iv B h) (a : Int32) : two M6_want M7_want [cls_, .inl a] [ref_, .inl a] (B + 1536) h := by
  obtain ⟨u, R, C, k, H, V, W, P, n, S, C', g, hM, sg, oX, oH, oW⟩ := I
  rw [z_of a]
  have o := spW_ok oX.1 oX.2.1 a.toInt
  exact st_chg g hM sg oX oH oW (by omega) (okX_of o.1 o.2 spW_2 oX (by omega) ((spW_nu oX.1 oX.2.2.2.2 _).mono (by omega))) (fun Q hq => c6_want (i32_rng a) g oX.1 hq) (fun h1 hM1 Q hq => c7_want (i32_rng a) hM1 sg.ok oX.1 (fun h2 hM2 hF2 => hq h2 _ hM2 hF2))
theorem st_speed (I : Iv B h) (a b : Int32) : two M6_speed M7_speed [cls_, .inl a, .inl b] [ref_, .inl a, .inl b] (B + 1536) h := by
  obtain ⟨u, R, C, k, H, V, W, P, n, S, C', g, hM, sg, oX, oH, oW⟩ := I
  rw [z_of a, z_of b]
  have o := spV_ok oX.1 oX.2.1 a.toInt b.toInt
  exact st_chg g hM sg oX oH oW (by omega) (okX_of o.1 o.2 spV_2 oX (by omega) ((spV_nu oX.1 oX.2.2.2.2 _ _).mono (by omega))) (fun Q hq => c6_speed (i32_rng a) (i32_rng b) g oX.1 hq) (fun h1 hM1 Q hq => c7_speed (i32_rng a) (i32_rng b) hM1 sg.ok oX.1 (fun h2 hM2 hF2 => hq h2 _ hM2 hF2))
theorem st_ticks (I : Iv B h) (hB : B ≤ 1000000000) (a : Int32) : two M6_ticks M7_ticks [cls_, .inl a] [ref_, .inl a] (B + 1536) h := by
  obtain ⟨u, R, C, k, H, V, W, P, n, S, C', g, hM, sg, oX, oH, oW⟩ := I
  rw [z_of a]
  have o := tkS_ok oX (by omega) a.toInt
  refine st_chg g hM sg oX oH oW (by omega) (o.1.mono (by omega)) (fun Q hq => c6_ticks (i32_rng a) g oX.1 oX.2.1 ⟨oX.2.2.1, by have := oX.2.2.2.1; dsimp only at this; omega⟩ hq) (fun h1 hM1 Q hq => ?_)
  unfold tkS at hq
  refine c7_ticks (i32_rng a) hM1 sg.ok oX.1 oX.2.1 (fun q => ?_) (fun q h2 C2 hM2 hF2 => ?_)
  · rw [if_neg q] at hq
    exact hq h1 C' (by rw [recI_d, if_neg (by dsimp only; omega)]; exact hM1) FrK.rf
  · rw [if_pos q] at hq
    have t2 := (tk_lo oX.1 oX.2.1 a.toInt.toNat).2.2
    have x3 := oX.2.2.1
    refine hq h2 C2 ?_ hF2
    rw [recI_d, if_pos (by dsimp only at t2 x3 ⊢; rw [t2]; omega)]
    exact hM2
end STEP
