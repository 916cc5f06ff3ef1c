/-! the class: bestUpper, bestTurn, goneIn -/
section CBI
variable {h : mH} {Q : mV → mH → Prop} {R C : rw_}
theorem rp_lo {R1 v : rw_} {k : Nat} (h5 : k ≠ 15) (h6 : k ≠ 16) (h9 : k ≠ 19) : ∀ n, rpN R1 v n k = R1 k := by
  intro n
  induction n with
  | zero => rfl
  | succ n ih => rw [rp_s, heaF_ne2 (by omega) (by omega) (by omega), ih]
theorem rp_15 {R1 v : rw_} (w : R1 15 = 0 ∨ R1 15 = 1) : ∀ n, rpN R1 v n 15 = 0 ∨ rpN R1 v n 15 = 1 := by
  intro n
  induction n with
  | zero => exact w
  | succ n ih =>
    rw [rp_s]
    unfold heaF
    split
    · right; rw [up_ne (by decide), up_at]
    · split
      · left; rw [up_at]
      · rw [up_ne (by decide)]; exact ih
theorem c6_countedWith {c n : Nat} {u : Int} {v : rw_} (hu : i32 u) (hlo : i32 (R (14 + 10 * c))) (hn : n ≤ 100) (hP : RPl h 0 R c) (w : R (15 + 10 * c) = 0 ∨ R (15 + 10 * c) = 1) (hv : ∀ i, i < n → h.1 8 0 0 i = zI (v i)) (hr : ∀ i, i32 (v i)) (hq : ∀ h2, (∀ k r i s, ¬ (k = 6 ∧ r = 11) → h2.1 k r i s = h.1 k r i s) → Q (vI (zI (rpN (shR R c u) v n 16))) h2) : mC M6_countedWith [.inr (.inr (some (7, 0, 0))), .inr (.inr (some (6, 0, c))), .inl (zI u), .inl (zI n)] h Q := by
  refine w6_countedWith (c2_become (l := c) (l2 := 0) (R := R) hP w (fun h1 e1 f1 => ?_))
  have sh : ∀ j, j ≠ 3 → shR R c u (10 + j) = R (10 + j + 10 * c) := fun j hj => by
    unfold shR
    rw [if_neg (by omega)]
  have start : RPl (pI h1 6 11 0 3 (zI u)) 11 (shR R c u) 0 := by
    unfold RPl at hP ⊢
    obtain ⟨g1, g2, g3, g4, g5, g6, g7, g8, g9⟩ := hP
    have ne : ∀ s, s ≠ 3 → s < 9 → (pI h1 6 11 0 3 (zI u)).1 6 11 0 s = h.1 6 0 c s := fun s hs h9 => by
      rw [pI_ne (fun z => hs z.2.1)]; exact e1 s h9
    rw [ne 0 (by decide) (by decide), ne 1 (by decide) (by decide), ne 2 (by decide) (by decide), ne 4 (by decide) (by decide), ne 5 (by decide) (by decide), ne 6 (by decide) (by decide), ne 7 (by decide) (by decide), ne 8 (by decide) (by decide), pI_at]
    rw [g1, g2, g3, g5, g6, g7, g8, g9]
    exact ⟨by rw [sh 0 (by decide)], by rw [sh 1 (by decide)], by rw [sh 2 (by decide)], rfl, by rw [sh 4 (by decide)], by rw [sh 5 (by decide)], by rw [sh 6 (by decide)], by rw [sh 7 (by decide)], by rw [sh 9 (by decide)]⟩
  have l13 : shR R c u 13 = u := rfl
  have l14 : shR R c u 14 = R (14 + 10 * c) := sh 4 (by decide)
  have l15 : shR R c u 15 = R (15 + 10 * c) := sh 5 (by decide)
  have loop : ∀ (m k : Nat) (g : mH), k + m = n → RPl g 11 (rpN (shR R c u) v k) 0 → (∀ k r i s, ¬ (k = 6 ∧ r = 11) → g.1 k r i s = h.1 k r i s) → mE M6_countedWith 19 [vR 7 0 0, vU, vU, vI (zI n), vI (zI k)] [] g Q := by
    intro m
    induction m with
    | zero =>
      intro k g hk hPg hF
      refine w6_countedWith_19 ?_
      rw [hPg.2.2.2.2.2.2.1, z_le (by omega) (by omega)]
      refine ⟨fun _ => ?_, fun _ => by omega⟩
      rw [show k = n by omega]
      exact hq g hF
    | succ m ih =>
      intro k g hk hPg hF
      refine w6_countedWith_19 ?_
      rw [z100, z_le (by omega) (by omega), z_le (by omega) (by omega), z_clamp (by omega) (by omega), Int.toNat_natCast, hF 8 0 0 k (by omega), hv k (by omega)]
      refine ⟨fun _ => by omega, fun _ => ⟨fun _ => by omega, fun _ => ⟨z_in (by omega) (by omega) (by omega), ?_⟩⟩⟩
      have e13 := rp_lo (R1 := shR R c u) (v := v) (k := 13) (by decide) (by decide) (by decide) k
      have e14 := rp_lo (R1 := shR R c u) (v := v) (k := 14) (by decide) (by decide) (by decide) k
      refine c2_hear (l := 0) hPg (rp_15 (by rw [l15]; exact w) k) (by
        show -2147483648 ≤ rpN (shR R c u) v k 13 ∧ rpN (shR R c u) v k 13 < 2147483648 ∧ -2147483648 ≤ rpN (shR R c u) v k 14 ∧ rpN (shR R c u) v k 14 < 2147483648
        rw [e13, e14, l13, l14]; omega) (hr k) (fun g2 hP2 hF2 _ => ?_)
      have e := ih (k + 1) g2 (by omega) hP2 (fun k2 r2 i2 s2 n2 => by rw [hF2 k2 r2 i2 s2 (fun z => n2 ⟨z.1, z.2.1⟩)]; exact hF k2 r2 i2 s2 n2)
      rw [show ((k + 1 : Nat) : Int) = (k : Int) + 1 by omega, ← z_add, ← z1] at e
      exact e
  exact loop n 0 _ (Nat.zero_add _) start (fun k2 r2 i2 s2 n2 => by
    rw [pI_ne (fun z => n2 ⟨z.1, z.2.2.1⟩)]
    exact f1 k2 r2 i2 s2 (fun z => n2 ⟨z.1, z.2.1⟩))
theorem c6_bestUpper {a t B : Int} (hN : nuX B R) (hB : B ≤ 785000) (h2t : R 2 ≤ 785000) (ha : i32 a) (ht : i32 t) (hP : RP h 0 R C) (hW : WF R) (hL : LayOK R C) (hq : ∀ h2, FrT h h2 → Q (vI (zI (buF R C a t))) h2) : mC M6_bestUpper [.inr (.inr (some (7, 0, 0))), .inl (zI a), .inl (zI t)] h Q := by
  have hb := hW.l
  refine w6_bestUpper (c4_become (by decide) (by decide) hP hW (fun h1 hP1 hF1 => ?_))
  have hP0 : RP h1 0 R C := hP.otherRoad hF1 (by decide)
  unfold buF at hq
  by_cases q : 0 ≤ a ∧ a < R 3
  · rw [if_pos q] at hq
    obtain ⟨c, rfl⟩ : ∃ c : Nat, a = c := ⟨a.toNat, by omega⟩
    rw [Int.toNat_natCast] at hq
    refine c4_loopN hP0.l3 q.2 hb.2 ?_
    refine c4_loopN hP1.l3 q.2 hb.2 ?_
    refine c6_isTicks ht ?_
    show (¬ zI _ = 0 → mC M6_hearTrial [.inr (.inr (some (7, 0, 0))), .inl (zI c), .inr (.inr (some (6, 1, c))), .inl (zI t)] h1 (kI (fun x319 h318 => mE M6_bestUpper 77 [vR 7 0 0, vU, vU, vR 6 0 c, vR 6 1 c, vI x319, vI (h318.1 6 0 c 4), vI 1000000, vI (h318.1 6 0 c 4), vU] [] h318 Q))) ∧ (zI _ = 0 → Q (vI (-2)) h1)
    rw [zb_ne, zm2]
    refine ⟨fun q2 => ?_, fun q2 => ?_⟩
    · have q2 := Decidable.not_not.mp q2
      rw [if_pos q2] at hq
      obtain ⟨n, rfl⟩ : ∃ n : Nat, t = n := ⟨t.toNat, by omega⟩
      rw [Int.toNat_natCast] at hq
      have wl := hW.2.2.1 c q.2
      unfold WFl at wl
      obtain ⟨lo, hlo⟩ : ∃ lo : Nat, R (14 + 10 * c) = lo := ⟨(R (14 + 10 * c)).toNat, by omega⟩
      rw [hlo, Int.toNat_natCast] at hq
      have lo2 : 1 ≤ lo ∧ lo ≤ 200 := by omega
      refine c6_hearTrial (by omega) q.2 hP1 hW hL (fun h2 hP2 hH hF2 => ?_)
      have hP02 : RPl h2 0 R c := (RPl.of hP0 q.2).cong (fun s => hF2 6 0 c s (by omega)) (fun _ _ _ => rfl)
      show mE M6_bestUpper 77 [vR 7 0 0, vU, vU, vR 6 0 c, vR 6 1 c, vI _, vI (h2.1 6 0 c 4), vI 1000000, vI (h2.1 6 0 c 4), vU] [] h2 Q
      rw [hP02.2.2.2.2.1, hlo]
      have gl := RPl.of hP2 (l := c) (by rw [(tk_lo hW hL n).1]; exact q.2)
      have e17 : h2.1 6 1 c 7 = zI ((tkN R C n).1 (17 + 10 * c)) := gl.2.2.2.2.2.2.2.1
      have hle := hd_le (R := R) (C := C) (a := c) n
      -- one bound
      have step : ∀ (u : Nat) (best least : Int32) (g : mH), lo ≤ u → u ≤ 200 → (∀ k r i s, ¬ (k = 6 ∧ r = 11) → g.1 k r i s = h2.1 k r i s) → (∀ g2, (∀ k r i s, ¬ (k = 6 ∧ r = 11) → g2.1 k r i s = h2.1 k r i s) → (least ≤ ownU R C c n u → mE M6_bestUpper 77 [vR 7 0 0, vU, vU, vR 6 0 c, vR 6 1 c, vI (zI (((hdF R C c n).1 : Nat) : Int)), vI best, vI least, vI (zI ((u + 1 : Nat) : Int)), vU] [] g2 Q) ∧ (¬ least ≤ ownU R C c n u → mE M6_bestUpper 77 [vR 7 0 0, vU, vU, vR 6 0 c, vR 6 1 c, vI (zI (((hdF R C c n).1 : Nat) : Int)), vI (zI u), vI (ownU R C c n u), vI (zI ((u + 1 : Nat) : Int)), vU] [] g2 Q)) → mE M6_bestUpper 77 [vR 7 0 0, vU, vU, vR 6 0 c, vR 6 1 c, vI (zI (((hdF R C c n).1 : Nat) : Int)), vI best, vI least, vI (zI u), vU] [] g Q := by
        intro u best least g u1 u2 hF cont
        obtain ⟨o1, o2⟩ := upU_ok hW hL q.2 (u := u) (by omega) (by omega)
        have m16 := rep_main hW hL q.2 o1 o2 n 16 (Or.inr (Or.inr (Or.inr rfl)))
        have m17 := (tk_x (R := R) (R2 := up R (13 + 10 * c) u) (C := C) (EqX.px (k := 13 + 10 * c) EqX.rf (by unfold xK; omega)) hW hL n).1 (17 + 10 * c) (fun z => by unfold xK at z; omega)
        have own : ownU R C c n u = (if 0 ≤ (zI (rpN (shR R c u) (hdF R C c n).2 (hdF R C c n).1 16) - h2.1 6 1 c 7) then zI (rpN (shR R c u) (hdF R C c n).2 (hdF R C c n).1 16) - h2.1 6 1 c 7 else 0 - (zI (rpN (shR R c u) (hdF R C c n).2 (hdF R C c n).1 16) - h2.1 6 1 c 7)) := by
          unfold ownU
          rw [m16, m17, e17, z_sub]
          rfl
        refine w6_bestUpper_77 ?_
        rw [zc.2.2.2.2.2.2.2.2.2.1, z_lt (by omega) (by omega)]
        refine ⟨fun _ => by omega, fun _ => ?_⟩
        refine c6_countedWith (u := u) (v := (hdF R C c n).2) (R := R) (by omega) (by omega) (by omega) (hP02.cong (fun s => hF 6 0 c s (by omega)) (fun _ _ _ => rfl)) wl.2.2.2.2.2.2.2.2.2 (fun i hi => by rw [hF 8 0 0 i (by omega)]; exact hH i hi) (hd_rng hW hL q.2 n) (fun g2 hF2 => ?_)
        have fr : ∀ k r i s, ¬ (k = 6 ∧ r = 11) → g2.1 k r i s = h2.1 k r i s := fun k r i s nn => (hF2 k r i s nn).trans (hF k r i s nn)
        have e := cont g2 fr
        rw [own, ← fr 6 1 c 7 (by omega), show ((u + 1 : Nat) : Int) = (u : Int) + 1 by omega, ← z_add, ← z1] at e
        exact e
      have loop : ∀ (m i : Nat) (g : mH), lo + i + m = 200 → (∀ k r i s, ¬ (k = 6 ∧ r = 11) → g.1 k r i s = h2.1 k r i s) → mE M6_bestUpper 77 [vR 7 0 0, vU, vU, vR 6 0 c, vR 6 1 c, vI (zI (((hdF R C c n).1 : Nat) : Int)), vI (zI (((seF (ownU R C c n) lo i).1 : Nat) : Int)), vI (seF (ownU R C c n) lo i).2, vI (zI ((lo + i + 1 : Nat) : Int)), vU] [] g Q := by
        intro m
        induction m with
        | zero =>
          intro i g hi hF
          refine w6_bestUpper_77 ?_
          rw [zc.2.2.2.2.2.2.2.2.2.1, z_lt (by omega) (by omega)]
          refine ⟨fun _ => ?_, fun _ => by omega⟩
          rw [show 200 - lo = i by omega] at hq
          exact hq g (hF1.T.tr (hF2.tr (fun k r i s nn => hF k r i s (fun z => nn (by omega)))))
        | succ m ih =>
          intro i g hi hF
          refine step (lo + i + 1) _ _ g (by omega) (by omega) hF (fun g2 hF2 => ?_)
          have e := ih (i + 1) g2 (by omega) hF2
          rw [se_s] at e
          refine ⟨fun y => ?_, fun y => ?_⟩
          · rw [if_pos y] at e; exact e
          · rw [if_neg y] at e; exact e
      refine step lo _ _ h2 (Nat.le_refl _) lo2.2 (fun _ _ _ _ _ => rfl) (fun g2 hF2 => ?_)
      have e := loop (200 - lo) 0 g2 (by omega) hF2
      obtain ⟨o1, o2⟩ := upU_ok hW hL q.2 (u := lo) (by omega) (by omega)
      exact ⟨fun y => absurd y (ownU_lt hN hB h2t hW q.2 o1 o2 (by omega)), fun _ => e⟩
    · rw [if_neg q2] at hq
      exact hq h1 hF1.T
  · rw [if_neg q] at hq
    refine c4_loopNo hP0.l3 ha (by omega) hb ?_
    refine c4_loopNo hP1.l3 ha (by omega) hb ?_
    show Q (vI (-1)) h1
    rw [zm1]
    exact hq h1 hF1.T
theorem c6_bestTurn {t B : Int} (hN : nuX B R) (hB : B ≤ 785000) (h2t : R 2 ≤ 785000) (ht : i32 t) (hP : RP h 0 R C) (hW : WF R) (hL : LayOK R C) (hq : ∀ h2, FrT h h2 → Q (vI (zI (btF R C t))) h2) : mC M6_bestTurn [.inr (.inr (some (7, 0, 0))), .inl (zI t)] h Q := by
  have hb := hW.l
  refine w6_bestTurn (c6_isTicks ht ?_)
  unfold btF at hq
  show (¬ zI _ = 0 → mE M6_bestTurn 18 [vR 7 0 0, vI (zI t), vI 1, vI 1000000, vI 1, vU] [] h Q) ∧ (zI _ = 0 → Q (vI (-2)) h)
  rw [zb_ne, zm2]
  refine ⟨fun q2 => ?_, fun q2 => ?_⟩
  · have q2 := Decidable.not_not.mp q2
    rw [if_pos q2] at hq
    obtain ⟨n, rfl⟩ : ∃ n : Nat, t = n := ⟨t.toNat, by omega⟩
    rw [Int.toNat_natCast] at hq
    have step : ∀ (u : Nat) (best least : Int32) (g : mH), 1 ≤ u → u ≤ 5 → FrT h g → (∀ g2, FrT h g2 → (least ≤ ownT R C n u → mE M6_bestTurn 18 [vR 7 0 0, vI (zI n), vI best, vI least, vI (zI ((u + 1 : Nat) : Int)), vU] [] g2 Q) ∧ (¬ least ≤ ownT R C n u → mE M6_bestTurn 18 [vR 7 0 0, vI (zI n), vI (zI u), vI (ownT R C n u), vI (zI ((u + 1 : Nat) : Int)), vU] [] g2 Q)) → mE M6_bestTurn 18 [vR 7 0 0, vI (zI n), vI best, vI least, vI (zI u), vU] [] g Q := by
      intro u best least g u1 u2 hF cont
      obtain ⟨o1, o2⟩ := set01_ok hW hL (k := 1) (v := u) (Or.inr ⟨rfl, by omega, by omega⟩)
      have e3 : up R 1 u 3 = R 3 := up_ne (by omega)
      refine w6_bestTurn_18 ?_
      rw [z470.2.2.2, z_lt (by omega) (by omega)]
      refine ⟨fun _ => by omega, fun _ => ?_⟩
      have hPg : RP g 0 R C := hP.fr (fun k i s hk => hF k 0 i s (by omega))
      refine c4_become (by decide) (by decide) hPg hW (fun g1 hP1 hF1 => ?_)
      refine c4_letPass (by decide) (by omega) (hP1.set01 hb.2 (k := 1) (j := 8) (v := u) (Or.inr ⟨rfl, rfl⟩)) o1 o2 (fun g2 hP2 hF2 => ?_)
      refine c4_allAmounts hP2 (tk_ok o1 o2 n).1 ?_
      have e := cont g2 (hF.tr (hF1.T.tr ((FrT.put (by omega)).tr hF2.T)))
      unfold ownT at e
      rw [show ((u + 1 : Nat) : Int) = (u : Int) + 1 by omega, ← z_add, ← z1] at e
      rw [(tk_lo o1 o2 n).1, e3]
      exact e
    have loop : ∀ (m i : Nat) (g : mH), 1 + i + m = 5 → FrT h g → mE M6_bestTurn 18 [vR 7 0 0, vI (zI n), vI (zI (((seF (ownT R C n) 1 i).1 : Nat) : Int)), vI (seF (ownT R C n) 1 i).2, vI (zI ((1 + i + 1 : Nat) : Int)), vU] [] g Q := by
      intro m
      induction m with
      | zero =>
        intro i g hi hF
        refine w6_bestTurn_18 ?_
        rw [z470.2.2.2, z_lt (by omega) (by omega)]
        refine ⟨fun _ => ?_, fun _ => by omega⟩
        rw [show (4 : Nat) = i by omega] at hq
        exact hq g hF
      | succ m ih =>
        intro i g hi hF
        refine step (1 + i + 1) _ _ g (by omega) (by omega) hF (fun g2 hF2 => ?_)
        have e := ih (i + 1) g2 (by omega) hF2
        rw [se_s] at e
        refine ⟨fun y => ?_, fun y => ?_⟩
        · rw [if_pos y] at e; exact e
        · rw [if_neg y] at e; exact e
    refine step 1 _ _ h (Nat.le_refl _) (by omega) FrT.rf (fun g2 hF2 => ?_)
    have e := loop 4 0 g2 (by omega) hF2
    obtain ⟨o1, o2⟩ := set01_ok hW hL (k := 1) (v := ((1 : Nat) : Int)) (Or.inr ⟨rfl, by omega, by omega⟩)
    exact ⟨fun y => absurd y (ownT_lt hN hB h2t hW o1 o2 (by omega)), fun _ => e⟩
  · rw [if_neg q2] at hq
    exact hq h FrT.rf
theorem c6_goneIn {a : Int} (ha : i32 a) (hP : RP h 0 R C) (hW : WF R) (hL : LayOK R C) (hq : ∀ h2, FrT h h2 → Q (vI (zI (giF R C a))) h2) : mC M6_goneIn [.inr (.inr (some (7, 0, 0))), .inl (zI a)] h Q := by
  have hb := hW.c
  refine w6_goneIn (c4_become (by decide) (by decide) hP hW (fun h1 hP1 hF1 => ?_))
  unfold giF at hq
  by_cases q : 0 ≤ a ∧ a < R 4
  · rw [if_pos q] at hq
    obtain ⟨c, rfl⟩ : ∃ c : Nat, a = c := ⟨a.toNat, by omega⟩
    rw [Int.toNat_natCast] at hq
    refine c4_carN hP1.c4 q.2 hb.2 ?_
    have loop : ∀ (m k : Nat) (g : mH), k + m = 200 → goS R C c m k = goS R C c 200 0 → RP g 1 (noN R C k).1 (noN R C k).2 → FrT h g → mE M6_goneIn 28 [vR 7 0 0, vU, vR 5 1 c, vI (zI k)] [] g Q := by
      intro m
      induction m with
      | zero =>
        intro k g hk hg hPg hF
        obtain ⟨n1, n2, n3, n4⟩ := no_ok hW hL k
        have gc := RPc.of hPg (c := c) (by rw [n4]; exact q.2)
        have wc := n1.2.1 c (by rw [n4]; exact q.2)
        unfold WFc at wc
        have ex : (noN R C k).1 (75 + 10 * c) = (tkN R C k).1 (75 + 10 * c) := (no_x hW hL k).1.ca (by omega)
        refine w6_goneIn_28 ?_
        rw [gc.2.2.2.2.2.1, hPg.1.2.2.1, hF 0 0 0 6 (by omega), hP.1.2.2.1, zc.2.2.2.2.2.2.2.2.2.1, zm6, z0, z_le (by omega) (by omega), z_eq (by omega) (by omega), n3, z_sub, show R 2 + (k : Int) - R 2 = k by omega, ex]
        rw [go_0] at hg
        refine ⟨fun _ => ⟨fun q2 => ?_, fun q2 => ?_⟩, fun z => by omega⟩
        · rw [if_pos q2] at hg
          rw [← hg] at hq
          exact hq g hF
        · rw [if_neg q2] at hg
          rw [← hg] at hq
          exact hq g hF
      | succ m ih =>
        intro k g hk hg hPg hF
        obtain ⟨n1, n2, n3, n4⟩ := no_ok hW hL k
        have gc := RPc.of hPg (c := c) (by rw [n4]; exact q.2)
        have wc := n1.2.1 c (by rw [n4]; exact q.2)
        unfold WFc at wc
        have ex : (noN R C k).1 (75 + 10 * c) = (tkN R C k).1 (75 + 10 * c) := (no_x hW hL k).1.ca (by omega)
        refine w6_goneIn_28 ?_
        rw [gc.2.2.2.2.2.1, hPg.1.2.2.1, hF 0 0 0 6 (by omega), hP.1.2.2.1, zc.2.2.2.2.2.2.2.2.2.1, zm6, z0, z_le (by omega) (by omega), z_eq (by omega) (by omega), n3, z_sub, show R 2 + (k : Int) - R 2 = k by omega, ex]
        rw [go_s] at hg
        refine ⟨fun z => by omega, fun _ => ⟨fun q2 => ⟨fun z => absurd z q2, fun _ => ?_⟩, fun q2 => ?_⟩⟩
        · rw [if_neg q2] at hg
          rw [← hg] at hq
          exact hq g hF
        · rw [if_pos q2] at hg
          refine c4_passTick (by decide) (by omega) hPg n1 n2 (fun g2 hP2 hF2 => ?_)
          have e := ih (k + 1) g2 (by omega) hg hP2 (hF.tr hF2.T)
          rw [show ((k + 1 : Nat) : Int) = (k : Int) + 1 by omega, ← z_add, ← z1] at e
          exact e
    exact loop 200 0 h1 (by omega) rfl hP1 hF1.T
  · rw [if_neg q] at hq
    refine c4_carNo hP1.c4 ha (by omega) hb ?_
    show Q (vI (-1)) h1
    rw [zm1]
    exact hq h1 hF1.T
end CBI
