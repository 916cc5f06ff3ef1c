/-! rows behind passings -/
def pcF (R : rw_) (b : Nat → Int) : Nat → rw_
  | 0 => R
  | l + 1 => up (pcF R b l) (17 + 10 * l) (pcF R b l (17 + 10 * l) + b l)
theorem pc_s {R : rw_} {b : Nat → Int} {l : Nat} : pcF R b (l + 1) = up (pcF R b l) (17 + 10 * l) (pcF R b l (17 + 10 * l) + b l) := rfl
theorem psl_pc (R : rw_) (c : Nat) (set : Int) : ∀ l, pslF R c set l = pcF R (fun l => pbF set (R (79 + 10 * c)) l) l
  | 0 => rfl
  | l + 1 => by unfold pslF pcF; rw [psl_pc R c set l]
theorem pc_ne {R : rw_} {b : Nat → Int} {k : Nat} : ∀ {l : Nat}, (∀ j, j < l → k ≠ 17 + 10 * j) → pcF R b l k = R k
  | 0, _ => rfl
  | l + 1, h => by
    unfold pcF
    rw [up_ne (h l (by omega)), pc_ne (fun j hj => h j (by omega))]
theorem pas_ne {R : rw_} {c k : Nat} (hl : R 3 ≤ 6) (h1 : k ≠ 79 + 10 * c) (h2 : ∀ j, j < 6 → k ≠ 17 + 10 * j) : pasF R c k = R k := by
  unfold pasF
  rw [up_ne h1, psl_pc, pc_ne (fun j hj => h2 j (by omega))]
theorem pas_at {R : rw_} {c : Nat} : pasF R c (79 + 10 * c) = ovF R c (R 3).toNat := up_at
theorem LayOK.cong {R R2 C : rw_} (hL : LayOK R C) (h4 : R2 4 = R 4) (h : ∀ c : Nat, (c : Int) < R 4 → R2 (70 + 10 * c) = R (70 + 10 * c) ∧ R2 (71 + 10 * c) = R (71 + 10 * c) ∧ R2 (72 + 10 * c) = R (72 + 10 * c) ∧ R2 (75 + 10 * c) = R (75 + 10 * c)) : LayOK R2 C := by
  refine ⟨fun c k h1 h2 h3 h5 => ?_, fun k hk => ?_⟩
  · rw [h4] at h1
    obtain ⟨e0, e1, e2, e5⟩ := h c h1
    rw [e5] at h2
    unfold cov lasF at h5
    rw [e0, e1, e2] at h5
    exact hL.1 c k h1 h2 h3 h5
  · rcases hL.2 k hk with z | ⟨c, z1, z2, z3, z4⟩
    · exact Or.inl z
    · obtain ⟨e0, e1, e2, e5⟩ := h c z1
      refine Or.inr ⟨c, by rw [h4]; exact z1, by rw [e5]; exact z2, ?_, z4⟩
      unfold cov lasF
      rw [e0, e1, e2]
      exact z3
theorem pas_ok {R C : rw_} {c : Nat} (hW : WF R) (hL : LayOK R C) (hc : (c : Int) < R 4) : WF (pasF R c) ∧ LayOK (pasF R c) C := by
  have hb := hW.c
  have hl := hW.l
  have e4 : pasF R c 4 = R 4 := pas_ne hl.2 (by omega) (fun j hj => by omega)
  have hcar : ∀ c2 : Nat, ∀ j, j < 9 → pasF R c (70 + 10 * c2 + j) = R (70 + 10 * c2 + j) := fun c2 j hj => pas_ne hl.2 (by omega) (fun j hj => by omega)
  constructor
  · obtain ⟨w1, w2, w3, w4, w5⟩ := hW
    have e3 : pasF R c 3 = R 3 := pas_ne hl.2 (by omega) (fun j hj => by omega)
    refine ⟨?_, fun c2 h2 => ?_, fun l h2 => ?_, fun c2 j h1 h2 h3 => ?_, fun l2 j h1 h2 h3 => ?_⟩
    · rw [pas_ne hl.2 (k := 0) (by omega) (fun j hj => by omega), pas_ne hl.2 (k := 1) (by omega) (fun j hj => by omega), e3, e4]; exact w1
    · have w := w2 c2 (by omega)
      by_cases e : c2 = c
      · have h79 : 0 ≤ pasF R c (79 + 10 * c2) ∧ pasF R c (79 + 10 * c2) < 64 := by
          rw [e, pas_at]
          have := ovF_lt R c (R 3).toNat
          have := pow6 (l := (R 3).toNat) (by omega)
          omega
        have q0 : pasF R c (70 + 10 * c2) = R (70 + 10 * c2) := pas_ne hl.2 (by omega) (fun j hj => by omega)
        have q1 : pasF R c (71 + 10 * c2) = R (71 + 10 * c2) := pas_ne hl.2 (by omega) (fun j hj => by omega)
        have q2 : pasF R c (72 + 10 * c2) = R (72 + 10 * c2) := pas_ne hl.2 (by omega) (fun j hj => by omega)
        have q3 : pasF R c (73 + 10 * c2) = R (73 + 10 * c2) := pas_ne hl.2 (by omega) (fun j hj => by omega)
        have q4 : pasF R c (74 + 10 * c2) = R (74 + 10 * c2) := pas_ne hl.2 (by omega) (fun j hj => by omega)
        have q5 : pasF R c (75 + 10 * c2) = R (75 + 10 * c2) := pas_ne hl.2 (by omega) (fun j hj => by omega)
        have q6 : pasF R c (76 + 10 * c2) = R (76 + 10 * c2) := pas_ne hl.2 (by omega) (fun j hj => by omega)
        unfold WFc lasF at *
        rw [q0, q1, q2, q3, q4, q5, q6]
        obtain ⟨y0, y1, y2, y3, y4, y5, y6, y7, y8, y9, y10, y11, y12, y13⟩ := w
        exact ⟨y0, y1, y2, y3, y4, y5, y6, y7, y8, y9, y10, y11, h79.1, h79.2⟩
      · exact w.cong (fun k h1 h2 => pas_ne hl.2 (by omega) (fun j hj => by omega))
    · exact (w3 l (by omega)).cong (fun k h1 h2 => pas_ne hl.2 (by omega) (fun j hj => by omega))
    · rw [pas_ne hl.2 (by omega) (fun j hj => by omega)]; exact w4 c2 j (by omega) h2 h3
    · by_cases q : ∃ l3, l3 < (R 3).toNat ∧ 10 + 10 * l2 + j = 17 + 10 * l3
      · obtain ⟨l3, q1, q2⟩ := q
        omega
      · unfold pasF
        rw [up_ne (by omega), psl_pc, pc_ne (fun l3 hl3 z => q ⟨l3, hl3, z⟩)]
        exact w5 l2 j (by omega) h2 h3
  · refine hL.cong e4 (fun c2 h2 => ?_)
    refine ⟨hcar c2 0 (by omega), ?_, ?_, ?_⟩
    · rw [show 71 + 10 * c2 = 70 + 10 * c2 + 1 by omega]; exact hcar c2 1 (by omega)
    · rw [show 72 + 10 * c2 = 70 + 10 * c2 + 2 by omega]; exact hcar c2 2 (by omega)
    · rw [show 75 + 10 * c2 = 70 + 10 * c2 + 5 by omega]; exact hcar c2 5 (by omega)
theorem pasN_4 {R : rw_} (hl : R 3 ≤ 6) : ∀ n : Nat, pasN R n 4 = R 4 ∧ pasN R n 3 = R 3
  | 0 => ⟨rfl, rfl⟩
  | n + 1 => by
    obtain ⟨e1, e2⟩ := pasN_4 hl n
    unfold pasN
    rw [pas_ne (by omega) (by omega) (fun j hj => by omega), pas_ne (by omega) (by omega) (fun j hj => by omega)]
    exact ⟨e1, e2⟩
theorem pasN_ok {R C : rw_} (hW : WF R) (hL : LayOK R C) : ∀ n : Nat, (n : Int) ≤ R 4 → WF (pasN R n) ∧ LayOK (pasN R n) C
  | 0, _ => ⟨hW, hL⟩
  | n + 1, h => by
    obtain ⟨a, b⟩ := pasN_ok hW hL n (by omega)
    have e := pasN_4 hW.l.2 n
    exact pas_ok a b (by omega)
/-- a car that is gone, and was over nothing -/
theorem ov_gone {R : rw_} {c : Nat} (hg : ¬ R (75 + 10 * c) = 0) : ∀ n, ovF R c n = 0
  | 0 => rfl
  | n + 1 => by
    unfold ovF
    rw [ov_gone hg n, if_neg (fun z => hg z.1)]
theorem pas_skip {R : rw_} {c : Nat} (hg : ¬ R (75 + 10 * c) = 0) (h0 : R (79 + 10 * c) = 0) (k : Nat) : pasF R c k = R k := by
  have hz : ∀ n k, pslF R c 0 n k = R k := by
    intro n
    induction n with
    | zero => intro k; rfl
    | succ n ih =>
      intro k
      unfold pslF
      have e : pbF 0 (R (79 + 10 * c)) n = 0 := by unfold pbF; simp
      rw [e, Int.add_zero]
      by_cases q : k = 17 + 10 * n
      · rw [q, up_at, ih]
      · rw [up_ne q, ih]
  unfold pasF
  rw [ov_gone hg]
  by_cases q : k = 79 + 10 * c
  · rw [q, up_at, h0]; rfl
  · rw [up_ne q]
    exact hz _ k
section PASS
variable {r : Nat} {h : mH} {Q : mV → mH → Prop} {R C : rw_}
theorem l4_loopsUnder {c : Nat} (hP : RP h r R C) (hW : WF R) (hc : (c : Int) < R 4) (hq : Q (vI (zI (ovF R c (R 3).toNat))) h) : ∀ n l : Nat, l + n = (R 3).toNat → mE M4_loopsUnder 4 [vR 0 r 0, vR 5 r c, vI (zI (ovF R c l)), vI (zI l), vU] [] h Q := by
  have hb := hW.l
  intro n
  induction n with
  | zero =>
    intro l hl
    refine w4_loopsUnder_4 ?_
    rw [hP.l3]
    simp (disch := omega) only [z_le]
    refine ⟨fun _ => ?_, fun _ => by omega⟩
    rw [Nat.add_zero] at hl
    rw [hl]; exact hq
  | succ n ih =>
    intro l hl
    have hl3 : (l : Int) < R 3 := by omega
    refine w4_loopsUnder_4 ?_
    rw [hP.l3]
    simp (disch := omega) only [z_le]
    refine ⟨fun _ => by omega, fun _ => ?_⟩
    refine c4_loopN hP.l3 hl3 hb.2 ?_
    refine c2_isUnder hP hW hc hl3 ?_
    have e := ih (l + 1) (by omega)
    have hlt := ovF_lt R c l
    have hp := pow6 (l := l) (by omega)
    have hb2 := bit_set ⟨l, by omega⟩ ⟨ovF R c l, by omega⟩ hlt
    dsimp only at hb2
    unfold ovF at e
    rw [show ((l + 1 : Nat) : Int) = (l : Int) + 1 by omega, ← z_add, ← z1] at e
    by_cases q : isOv R c l
    · rw [if_pos q] at e ⊢
      refine ⟨fun z => absurd z (by decide), fun _ => ?_⟩
      rw [hb2]
      exact e
    · rw [if_neg q] at e ⊢
      refine ⟨fun _ => e, fun z => absurd rfl z⟩
theorem c4_loopsUnder {c : Nat} (hP : RP h r R C) (hW : WF R) (hc : (c : Int) < R 4) (hq : Q (vI (zI (ovF R c (R 3).toNat))) h) : mC M4_loopsUnder [.inr (.inr (some (0, r, 0))), .inr (.inr (some (5, r, c)))] h Q := w4_loopsUnder (l4_loopsUnder hP hW hc hq _ 0 (Nat.zero_add _))
theorem RPl.pass {g : mH} {R : rw_} {l : Nat} {v : Int} (hl : RPl g r R l) : RPl (pI g 6 r l 7 (zI v)) r (up R (17 + 10 * l) v) l := by
  unfold RPl at *
  obtain ⟨c0, c1, c2, c3, c4, c5, c6, c7, c8⟩ := hl
  simp [pI, up, c0, c1, c2, c3, c4, c5, c6, c8]
theorem RP.loop1 {g : mH} {l j : Nat} {R2 : rw_} {x : Int32} (hP : RP g r R C) (hl : R 3 ≤ 6) (hl6 : l < 6) (hc : RPl (pI g 6 r l j x) r R2 l) (hR : ∀ k, ¬ (10 + 10 * l ≤ k ∧ k < 20 + 10 * l) → R2 k = R k) : RP (pI g 6 r l j x) r R2 C :=
  hP.setl hl hl6 hc hR (fun k r2 i s n => pI_ne (fun z => n ⟨z.1, z.2.2.1, z.2.2.2⟩))
theorem l4_countPassings {x : Int32} {b : Nat → Int} (hr : r ≠ 11) (hl6 : 0 ≤ R 3 ∧ R 3 ≤ 6) (hb : ∀ l : Nat, l < 6 → ((x >>> (zI (l : Int) &&& 31)) &&& 1) = zI (b l) ∧ (b l = 0 ∨ b l = 1)) (hq : ∀ h2, RP h2 r (pcF R b (R 3).toNat) C → FrR r h h2 → Q vU h2) : ∀ (n l : Nat) (g : mH), l + n = (R 3).toNat → RP g r (pcF R b l) C → FrR r h g → mE M4_countPassings 2 [vR 0 r 0, vI x, vI (zI l), vU] [] g Q := by
  intro n
  induction n with
  | zero =>
    intro l g hl hP hF
    have e3 : pcF R b l 3 = R 3 := pc_ne (fun j hj => by omega)
    refine w4_countPassings_2 ?_
    rw [hP.l3, e3]
    simp (disch := omega) only [z_le]
    refine ⟨fun _ => hq g ?_ hF, fun _ => by omega⟩
    rw [Nat.add_zero] at hl
    rw [← hl]; exact hP
  | succ n ih =>
    intro l g hl hP hF
    have e3 : pcF R b l 3 = R 3 := pc_ne (fun j hj => by omega)
    refine w4_countPassings_2 ?_
    rw [hP.l3, e3]
    simp (disch := omega) only [z_le]
    refine ⟨fun _ => by omega, fun _ => ?_⟩
    refine c4_loopN hP.l3 (by rw [e3]; omega) (by rw [e3]; omega) ?_
    obtain ⟨b1, b2⟩ := hb l (by omega)
    show (¬ ((x >>> (zI (l : Int) &&& 31)) &&& 1) = 1 → _) ∧ (((x >>> (zI (l : Int) &&& 31)) &&& 1) = 1 → _)
    rw [b1, z1]
    have hPl := RPl.of hP (l := l) (by rw [e3]; omega)
    have ee : ((l + 1 : Nat) : Int) = (l : Int) + 1 := by omega
    rw [z_add, ← ee]
    refine ⟨fun q => ih (l + 1) g (by omega) ?_ hF, fun q => ?_⟩
    · have b0 : b l = 0 := by
        rcases b2 with z | z
        · exact z
        · exact absurd (by rw [z]) q
      refine hP.eqv (fun k => ?_) (fun _ _ => rfl)
      rw [pc_s]
      by_cases z : k = 17 + 10 * l
      · rw [z, up_at, b0, Int.add_zero]
      · rw [up_ne z]
    · have b0 : b l = 1 := by
        rcases b2 with z | z
        · rw [z] at q; exact absurd q (by decide)
        · exact z
      refine ih (l + 1) _ (by omega) ?_ (hF.tr (FrR.put (Or.inr (Or.inr (Or.inr ⟨rfl, hr⟩)))))
      rw [hPl.2.2.2.2.2.2.2.1, z_add, pc_s, b0]
      exact hP.loop1 (by rw [e3]; exact hl6.2) (by omega) hPl.pass (fun k hk => up_ne (by omega))
theorem c4_countPassings {x : Int32} {b : Nat → Int} (hr : r ≠ 11) (hP : RP h r R C) (hl6 : 0 ≤ R 3 ∧ R 3 ≤ 6) (hb : ∀ l : Nat, l < 6 → ((x >>> (zI (l : Int) &&& 31)) &&& 1) = zI (b l) ∧ (b l = 0 ∨ b l = 1)) (hq : ∀ h2, RP h2 r (pcF R b (R 3).toNat) C → FrR r h h2 → Q vU h2) : mC M4_countPassings [.inr (.inr (some (0, r, 0))), .inl x] h Q :=
  w4_countPassings (l4_countPassings hr hl6 hb hq _ 0 h (Nat.zero_add _) hP FrR.rf)
theorem RPc.over {g : mH} {R : rw_} {c : Nat} {v : Int} (hc : RPc g r R c) : RPc (pI g 5 r c 10 (zI v)) r (up R (79 + 10 * c) v) c := by
  unfold RPc at *
  obtain ⟨c0, c1, c2, c3, c4, c5, c6, c7, c8, c9⟩ := hc
  simp [pI, up, c0, c1, c2, c3, c4, c5, c6, c7, c8]
theorem l4_notePassings (hr : r ≠ 11) (hW : WF R) (hL : LayOK R C) (hq : ∀ h2, RP h2 r (pasN R (R 4).toNat) C → FrR r h h2 → Q vU h2) : ∀ (n c : Nat) (g : mH), c + n = (R 4).toNat → RP g r (pasN R c) C → FrR r h g → mE M4_notePassings 2 [vR 0 r 0, vI (zI c), vU, vU] [] g Q := by
  have hb := hW.c
  have hl := hW.l
  intro n
  induction n with
  | zero =>
    intro c g hc hP hF
    have e4 := (pasN_4 hl.2 c).1
    refine w4_notePassings_2 ?_
    rw [hP.c4, e4]
    simp (disch := omega) only [z_le]
    refine ⟨fun _ => hq g ?_ hF, fun _ => by omega⟩
    rw [Nat.add_zero] at hc
    rw [← hc]; exact hP
  | succ n ih =>
    intro c g hc hP hF
    obtain ⟨e4, e3⟩ := pasN_4 hl.2 c
    obtain ⟨hW2, hL2⟩ := pasN_ok hW hL c (by omega)
    have hc4 : (c : Int) < pasN R c 4 := by omega
    have gc := RPc.of hP hc4
    have w := hW2.2.1 c hc4
    unfold WFc at w
    refine w4_notePassings_2 ?_
    rw [hP.c4, e4]
    simp (disch := omega) only [z_le]
    refine ⟨fun _ => by omega, fun _ => ?_⟩
    refine c4_carN hP.c4 hc4 (by omega) ?_
    have ee : ((c + 1 : Nat) : Int) = (c : Int) + 1 := by omega
    -- what is done with a car that isn't left out
    have hov : ovF (pasN R c) c (R 3).toNat < 64 := Nat.lt_of_lt_of_le (ovF_lt _ _ _) (pow6 (by omega))
    have act : ∀ K : mH → Prop, (∀ g2, RP (pI g2 5 r c 10 (zI (ovF (pasN R c) c (R 3).toNat))) r (pasN R (c + 1)) C → FrR r h (pI g2 5 r c 10 (zI (ovF (pasN R c) c (R 3).toNat))) → K g2) → mC M4_countPassings [.inr (.inr (some (0, r, 0))), .inl (zI (ovF (pasN R c) c (R 3).toNat) &&& (g.1 5 r c 10 ^^^ (-1)))] g (kV K) := by
      intro K hK
      rw [gc.2.2.2.2.2.2.2.2.2]
      obtain ⟨o, ho⟩ : ∃ o : Nat, pasN R c (79 + 10 * c) = o := ⟨(pasN R c (79 + 10 * c)).toNat, by omega⟩
      refine c4_countPassings (b := fun l => pbF (ovF (pasN R c) c (R 3).toNat) (pasN R c (79 + 10 * c)) l) hr hP (by omega) (fun l hl => ⟨?_, ?_⟩) (fun g2 hP2 hF2 => ?_)
      · rw [ho]
        exact pb_class hov (by omega) hl
      · unfold pbF; split <;> simp
      · refine hK g2 ?_ (hF.tr (hF2.tr (FrR.put (Or.inr (Or.inr (Or.inl rfl))))))
        have ep : pasN R (c + 1) = up (pcF (pasN R c) (fun l => pbF (ovF (pasN R c) c (R 3).toNat) (pasN R c (79 + 10 * c)) l) (pasN R c 3).toNat) (79 + 10 * c) (ovF (pasN R c) c (R 3).toNat) := by
          show pasF (pasN R c) c = _
          unfold pasF
          rw [psl_pc, e3]
        have h3 : pcF (pasN R c) (fun l => pbF (ovF (pasN R c) c (R 3).toNat) (pasN R c (79 + 10 * c)) l) (pasN R c 3).toNat 3 = R 3 := by rw [pc_ne (fun j hj => by omega), e3]
        have h4 : pcF (pasN R c) (fun l => pbF (ovF (pasN R c) c (R 3).toNat) (pasN R c (79 + 10 * c)) l) (pasN R c 3).toNat 4 = R 4 := by rw [pc_ne (fun j hj => by omega), e4]
        rw [ep]
        exact hP2.car1 (by omega) (RPc.of hP2 (by omega)).over (fun k hk => up_ne (by omega))
    show (g.1 5 r c 6 = 0 → _) ∧ (¬ g.1 5 r c 6 = 0 → (g.1 5 r c 10 = 0 → _) ∧ (¬ g.1 5 r c 10 = 0 → _))
    have body : mC M4_loopsUnder [.inr (.inr (some (0, r, 0))), .inr (.inr (some (5, r, c)))] g (kI (fun x170 h169 => mC M4_countPassings [.inr (.inr (some (0, r, 0))), .inl (x170 &&& ((h169.1 5 r c 10) ^^^ (-1)))] h169 (kV (fun h171 => mE M4_notePassings 2 [vR 0 r 0, vI (zI c + 1), vU, vU] [] (pI h171 5 r c 10 x170) Q)))) := by
      refine c4_loopsUnder hP hW2 hc4 ?_
      rw [e3]
      refine act _ (fun g2 hP2 hF2 => ?_)
      rw [z1, z_add, ← ee]
      exact ih (c + 1) _ (by omega) hP2 hF2
    refine ⟨fun _ => body, fun q => ⟨fun q2 => ?_, fun _ => body⟩⟩
    rw [gc.2.2.2.2.2.1, z0, z_eq (by omega) (by omega)] at q
    rw [gc.2.2.2.2.2.2.2.2.2, z0, z_eq (by omega) (by omega)] at q2
    rw [z1, z_add, ← ee]
    exact ih (c + 1) g (by omega) (hP.eqv (fun k => pas_skip q q2 k) (fun _ _ => rfl)) hF
theorem c4_notePassings (hr : r ≠ 11) (hP : RP h r R C) (hW : WF R) (hL : LayOK R C) (hq : ∀ h2, RP h2 r (pasN R (R 4).toNat) C → FrR r h h2 → Q vU h2) : mC M4_notePassings [.inr (.inr (some (0, r, 0)))] h Q :=
  w4_notePassings (l4_notePassings hr hW hL hq _ 0 h (Nat.zero_add _) hP FrR.rf)
end PASS
