/-! one call on both sides: questions, what-ifs, texts, undo, saving -/
theorem SG.hw {S : Nat → rw_} {k n : Nat} {H W H2 W2 : HsT} {V P : rw_} (g : SG S k H V W P n) (eH : ∀ j, (H2 j).1 = (H j).1) (eW : ∀ j, (W2 j).1 = (W j).1) : SG S k H2 V W2 P n := by
  obtain ⟨g1, g2, g3, g4, g5, g6⟩ := g
  exact ⟨g1, g2, g3, fun j hj i hi => by rw [eH]; exact g4 j hj i hi, fun s hs => by rw [eW]; exact g5 s hs, g6⟩
theorem rs_c {R C C1 V : rw_} {W : HsT} {a : Int} : (rsS R C1 V W a).2 = (rsS R C V W a).2 ∧ (rsS R C1 V W a).1.1 = (rsS R C V W a).1.1 := by
  unfold rsS
  split
  · split
    · exact ⟨rfl, rfl⟩
    · exact ⟨rfl, rfl⟩
  · exact ⟨rfl, rfl⟩
theorem nxH_c {k : Nat} {H : HsT} {R C C1 : rw_} {a : Int} (j : Nat) : (nxH k H (R, C) a j).1 = (nxH k H (R, C1) a j).1 := by
  unfold nxH
  by_cases q : 0 ≤ a
  · rw [if_pos q, if_pos q]
    unfold psH
    (repeat' split) <;> rfl
  · rw [if_neg q, if_neg q]
theorem or_ok2 {B : Int} {P : rw_} {n p : Nat} {X : rw_ × rw_} (hX : okX B X) (gd : gdF P n p) : okX (B + 25 * ((enF P n p : Int) + 1 - p)) (orP P n p X).1 := by
  obtain ⟨x1, x2, x3, x4, x5⟩ := id hX
  have ge := en_ge (P := P) (n := n) (p := p)
  unfold orP
  split
  next =>
    have o := spC_ok x1 x2 (dgF P n (p + 1)) (dgF P n (p + 2)) (dgF P n (p + 3)) (dgF P n (p + 4))
    exact ⟨o.1, o.2, by rw [spC_2]; exact x3, by rw [spC_2]; omega, (spC_nu x1 x2 x5 _ _ _ _).mono (by omega)⟩
  next q =>
    split
    next =>
      have o := spW_ok x1 x2 (nuE P n p)
      exact ⟨o.1, o.2, by dsimp only; rw [spW_2]; exact x3, by dsimp only; rw [spW_2]; omega, (spW_nu x1 x5 _).mono (by omega)⟩
    next =>
      refine tkS_ok2 hX (by omega) (fun _ _ => ?_)
      unfold gdF at gd
      unfold nuE enF
      rw [if_neg q]
      split <;> omega
theorem st_mono {P : rw_} {n k : Nat} : ∀ d : Nat, stF P n k ≤ stF P n (k + d) := by
  intro d
  induction d with
  | zero => exact Nat.le_refl _
  | succ d ih =>
    have ge := en_ge (P := P) (n := n) (p := stF P n (k + d))
    rw [show k + (d + 1) = k + d + 1 by omega, st_s]
    omega
theorem cr_ok2 {B : Int} {P : rw_} {n : Nat} : ∀ (f k : Nat) (X : rw_ × rw_), okX (B + 25 * (stF P n k : Int)) X → (∀ j, k ≤ j → j < k + f → gdF P n (stF P n j)) → okX (B + 25 * (stF P n (k + f) : Int)) (crF P n f k X).1 := by
  intro f
  induction f with
  | zero => intro k X o _; exact o
  | succ f ih =>
    intro k X o hg
    have oo := or_ok2 (P := P) (n := n) (p := stF P n k) o (hg k (Nat.le_refl k) (by omega))
    rw [show B + 25 * (stF P n k : Int) + 25 * ((enF P n (stF P n k) : Int) + 1 - (stF P n k : Int)) = B + 25 * (stF P n (k + 1) : Int) by rw [st_s]; omega] at oo
    have m := st_mono (P := P) (n := n) (k := k + 1) f
    rw [cr_s, show k + (f + 1) = k + 1 + f by omega]
    split
    · exact oo.mono (by omega)
    · exact ih (k + 1) _ oo (fun j h1 h2 => hg j (by omega) (by omega))
section STEP2
variable {h : mH} {B : Int}
theorem st_ofCar (I : Iv B h) (a b : Int32) : two M6_ofCar M7_ofCar [cls_, .inl a, .inl b] [ref_, .inl a, .inl b] (B + 1536) h := by
  obtain ⟨u, R, C, k, H, V, W, P, n, S, C', g, hM, sg, oX, oH, oW⟩ := I
  rw [z_of a, z_of b]
  exact st_ask g hM oX oH oW (by omega) (fun Q hq => c6_ofCar (i32_rng a) (i32_rng b) g.1 oX.1 (hq h FrT.rf)) (fun h1 hM1 Q hq => c7_ofCar (i32_rng a) (i32_rng b) hM1 oX.1 (hq h1 S C' sg hM1 FrK.rf))
theorem st_ofLoop (I : Iv B h) (a b : Int32) : two M6_ofLoop M7_ofLoop [cls_, .inl a, .inl b] [ref_, .inl a, .inl b] (B + 1536) h := by
  obtain ⟨u, R, C, k, H, V, W, P, n, S, C', g, hM, sg, oX, oH, oW⟩ := I
  rw [z_of a, z_of b]
  exact st_ask g hM oX oH oW (by omega) (fun Q hq => c6_ofLoop (i32_rng a) (i32_rng b) g.1 oX.1 oX.2.1 (hq h FrT.rf)) (fun h1 hM1 Q hq => c7_ofLoop (i32_rng a) (i32_rng b) hM1 oX.1 oX.2.1 (fun h2 C2 hM2 hF2 => hq h2 S C2 sg hM2 hF2))
theorem st_error (I : Iv B h) (a : Int32) : two M6_error M7_error [cls_, .inl a] [ref_, .inl a] (B + 1536) h := by
  obtain ⟨u, R, C, k, H, V, W, P, n, S, C', g, hM, sg, oX, oH, oW⟩ := I
  rw [z_of a]
  exact st_ask g hM oX oH oW (by omega) (fun Q hq => c6_error (i32_rng a) g.1 oX.1 (hq h FrT.rf)) (fun h1 hM1 Q hq => c7_error (i32_rng a) hM1 oX.1 (hq h1 S C' sg hM1 FrK.rf))
theorem st_carAt (I : Iv B h) (a b : Int32) : two M6_carAt M7_carAt [cls_, .inl a, .inl b] [ref_, .inl a, .inl b] (B + 1536) h := by
  obtain ⟨u, R, C, k, H, V, W, P, n, S, C', g, hM, sg, oX, oH, oW⟩ := I
  rw [z_of a, z_of b]
  exact st_ask g hM oX oH oW (by omega) (fun Q hq => c6_carAt (i32_rng a) (i32_rng b) g.1 (hq h FrT.rf)) (fun h1 hM1 Q hq => c7_carAt (i32_rng a) (i32_rng b) hM1 oX.1 oX.2.1 (fun h2 C2 hM2 hF2 => hq h2 S C2 sg hM2 hF2))
theorem st_count (I : Iv B h) (a : Int32) : two M6_count M7_count [cls_, .inl a] [ref_, .inl a] (B + 1536) h := by
  obtain ⟨u, R, C, k, H, V, W, P, n, S, C', g, hM, sg, oX, oH, oW⟩ := I
  rw [z_of a]
  refine st_ask g hM oX oH oW (by omega) (fun Q hq => c6_count (i32_rng a) g.1 oX.1 g.2.2.2.2.1 g.2.1.2.2.2.1 (hq h FrT.rf)) (fun h1 hM1 Q hq => c7_count (i32_rng a) hM1 oX.1 ?_)
  have e := hq h1 S C' sg hM1 FrK.rf
  rw [sg.1, sg.2.2.2.2.2.2.1]
  exact e
theorem st_inside (I : Iv B h) (a b : Int32) : two M6_inside M7_inside [cls_, .inl a, .inl b] [ref_, .inl a, .inl b] (B + 1536) h := by
  obtain ⟨u, R, C, k, H, V, W, P, n, S, C', g, hM, sg, oX, oH, oW⟩ := I
  rw [z_of a, z_of b]
  exact st_ask g hM oX oH oW (by omega) (fun Q hq => c6_inside (i32_rng a) (i32_rng b) g.1 oX.1 (hq h FrT.rf)) (fun h1 hM1 Q hq => c7_inside (i32_rng a) (i32_rng b) hM1 oX.1 (hq h1 S C' sg hM1 FrK.rf))
theorem st_countsIn (I : Iv B h) (a b : Int32) : two M6_countsIn M7_countsIn [cls_, .inl a, .inl b] [ref_, .inl a, .inl b] (B + 1536) h := by
  obtain ⟨u, R, C, k, H, V, W, P, n, S, C', g, hM, sg, oX, oH, oW⟩ := I
  rw [z_of a, z_of b]
  exact st_ask g hM oX oH oW (by omega) (fun Q hq => c6_countsIn (i32_rng a) (i32_rng b) g.1 oX.1 oX.2.1 hq) (fun h1 hM1 Q hq => c7_countsIn (i32_rng a) (i32_rng b) hM1 oX.1 oX.2.1 (fun h2 S2 C2 kp hM2 hF2 => hq h2 S2 C2 (sg.kp kp) hM2 hF2))
theorem st_countsAlone (I : Iv B h) (a b : Int32) : two M6_countsAlone M7_countsAlone [cls_, .inl a, .inl b] [ref_, .inl a, .inl b] (B + 1536) h := by
  obtain ⟨u, R, C, k, H, V, W, P, n, S, C', g, hM, sg, oX, oH, oW⟩ := I
  rw [z_of a, z_of b]
  exact st_ask g hM oX oH oW (by omega) (fun Q hq => c6_countsAlone (i32_rng a) (i32_rng b) g.1 oX.1 oX.2.1 hq) (fun h1 hM1 Q hq => c7_countsAlone (i32_rng a) (i32_rng b) hM1 oX.1 oX.2.1 (fun h2 S2 C2 kp hM2 hF2 => hq h2 S2 C2 (sg.kp kp) hM2 hF2))
theorem st_bestUpper (I : Iv B h) (hB : B ≤ 785000) (a b : Int32) : two M6_bestUpper M7_bestUpper [cls_, .inl a, .inl b] [ref_, .inl a, .inl b] (B + 1536) h := by
  obtain ⟨u, R, C, k, H, V, W, P, n, S, C', g, hM, sg, oX, oH, oW⟩ := I
  rw [z_of a, z_of b]
  exact st_ask g hM oX oH oW (by omega) (fun Q hq => c6_bestUpper oX.2.2.2.2 hB (Int.le_trans oX.2.2.2.1 hB) (i32_rng a) (i32_rng b) g.1 oX.1 oX.2.1 hq) (fun h1 hM1 Q hq => c7_bestUpper (i32_rng a) (i32_rng b) hM1 oX.1 oX.2.1 (fun h2 S2 C2 kp hM2 hF2 => hq h2 S2 C2 (sg.kp kp) hM2 hF2))
theorem st_bestTurn (I : Iv B h) (hB : B ≤ 785000) (a : Int32) : two M6_bestTurn M7_bestTurn [cls_, .inl a] [ref_, .inl a] (B + 1536) h := by
  obtain ⟨u, R, C, k, H, V, W, P, n, S, C', g, hM, sg, oX, oH, oW⟩ := I
  rw [z_of a]
  exact st_ask g hM oX oH oW (by omega) (fun Q hq => c6_bestTurn oX.2.2.2.2 hB (Int.le_trans oX.2.2.2.1 hB) (i32_rng a) g.1 oX.1 oX.2.1 hq) (fun h1 hM1 Q hq => c7_bestTurn (i32_rng a) hM1 oX.1 oX.2.1 (fun h2 S2 C2 kp hM2 hF2 => hq h2 S2 C2 (sg.kp kp) hM2 hF2))
theorem st_goneIn (I : Iv B h) (a : Int32) : two M6_goneIn M7_goneIn [cls_, .inl a] [ref_, .inl a] (B + 1536) h := by
  obtain ⟨u, R, C, k, H, V, W, P, n, S, C', g, hM, sg, oX, oH, oW⟩ := I
  rw [z_of a]
  exact st_ask g hM oX oH oW (by omega) (fun Q hq => c6_goneIn (i32_rng a) g.1 oX.1 oX.2.1 hq) (fun h1 hM1 Q hq => c7_goneIn (i32_rng a) hM1 oX.1 oX.2.1 (fun h2 S2 C2 kp hM2 hF2 => hq h2 S2 C2 (sg.kp kp) hM2 hF2))
theorem st_fault (I : Iv B h) : two M6_fault M7_fault [cls_] [ref_] (B + 1536) h := by
  obtain ⟨u, R, C, k, H, V, W, P, n, S, C', g, hM, sg, oX, oH, oW⟩ := I
  exact st_ask g hM oX oH oW (by omega) (fun Q hq => c6_fault g (hq h FrT.rf)) (fun h1 hM1 Q hq => c7_fault sg.2.2.2.2.2 hM1 (fun h2 S2 kq hM2 hF2 => hq h2 S2 C' (sg.kq kq) hM2 hF2.K))
theorem st_put (I : Iv B h) (y : Int64) : two M6_put M7_put [cls_, .inr (.inl y)] [ref_, .inr (.inl y)] (B + 1536) h := by
  obtain ⟨u, R, C, k, H, V, W, P, n, S, C', g, hM, sg, oX, oH, oW⟩ := I
  obtain ⟨N, hN, rfl⟩ := l_ex y
  have sp := sg.2.2.2.2.2
  have om : ∀ j, j < k → okX (B + 1536) (H j) := fun j hj => (oH j hj).mono (by omega)
  have wm : ∀ s, s < 2 → V s = 1 → okX (B + 1536) (W s) := fun s hs v => (oW s hs v).mono (by omega)
  by_cases q : ptY n (nbF N 8 0)
  · refine c6_put hN g (fun z => absurd q z) (fun _ h1 g1 hF1 => ?_)
    refine c7_put hN sp (hM.fB hF1) (fun z => absurd q z) (fun _ h2 S2 sp2 k7 hM2 hF2 => ?_)
    exact ⟨rfl, u, R, C, k, H, V, W, _, _, S2, C', g1.K hF2.K, hM2, sg.k7 k7 sp2, oX.mono (by omega), om, wm⟩
  · refine c6_put hN g (fun _ => ?_) (fun z => absurd z q)
    refine c7_put hN sp hM (fun _ => ?_) (fun z => absurd z q)
    exact ⟨rfl, u, R, C, k, H, V, W, P, n, S, C', g, hM, sg, oX.mono (by omega), om, wm⟩
theorem st_wipe (I : Iv B h) : two M6_wipe M7_wipe [cls_] [ref_] (B + 1536) h := by
  obtain ⟨u, R, C, k, H, V, W, P, n, S, C', g, hM, sg, oX, oH, oW⟩ := I
  have om : ∀ j, j < k → okX (B + 1536) (H j) := fun j hj => (oH j hj).mono (by omega)
  have wm : ∀ s, s < 2 → V s = 1 → okX (B + 1536) (W s) := fun s hs v => (oW s hs v).mono (by omega)
  refine c6_wipe g (fun h1 g1 hF1 => c7_wipe sg.2.2.2.2.2 (hM.fB hF1) (fun h2 S2 sp2 k7 hM2 hF2 => ?_))
  exact ⟨rfl, u, R, C, k, H, V, W, P, 0, S2, C', g1.K hF2.K, hM2, sg.k7 k7 sp2, oX.mono (by omega), om, wm⟩
theorem st_undo (I : Iv B h) : two M6_undo M7_undo [cls_] [ref_] (B + 1536) h := by
  obtain ⟨u, R, C, k, H, V, W, P, n, S, C', g, hM, sg, oX, oH, oW⟩ := I
  have om : ∀ j, j < k → okX (B + 1536) (H j) := fun j hj => (oH j hj).mono (by omega)
  have wm : ∀ s, s < 2 → V s = 1 → okX (B + 1536) (W s) := fun s hs v => (oW s hs v).mono (by omega)
  refine c6_undo g (fun j hj => (oH j hj).1) (fun q => ?_) (fun k1 e h1 u2 g1 hF1 => ?_)
  · refine c7_undo sg hM (fun _ => ?_) (fun k1 e => by omega)
    exact ⟨rfl, u, R, C, k, H, V, W, P, n, S, C', g, hM, sg, oX.mono (by omega), om, wm⟩
  · refine c7_undo sg (hM.fB hF1) (fun q => by omega) (fun k2 e2 h2 S2 sg2 hM2 hF2 => ?_)
    have ek : k2 = k1 := by omega
    subst ek
    exact ⟨rfl, u2, _, _, k2, H, V, W, P, n, S2, C', g1.K hF2, hM2, sg2, om k2 (by omega), fun j hj => om j (by omega), wm⟩
theorem st_save (I : Iv B h) (a : Int32) : two M6_save M7_save [cls_, .inl a] [ref_, .inl a] (B + 1536) h := by
  obtain ⟨u, R, C, k, H, V, W, P, n, S, C', g, hM, sg, oX, oH, oW⟩ := I
  rw [z_of a]
  have om : ∀ j, j < k → okX (B + 1536) (H j) := fun j hj => (oH j hj).mono (by omega)
  have wm : ∀ s, s < 2 → V s = 1 → okX (B + 1536) (W s) := fun s hs v => (oW s hs v).mono (by omega)
  refine c6_save (i32_rng a) g oX.1 (fun q => ?_) (fun q h1 g1 hF1 => ?_)
  · refine c7_save (i32_rng a) sg hM (fun _ => ?_) (fun z => absurd z q)
    exact ⟨rfl, u, R, C, k, H, V, W, P, n, S, C', g, hM, sg, oX.mono (by omega), om, wm⟩
  · refine c7_save (i32_rng a) sg (hM.fB hF1) (fun z => absurd q z) (fun _ h2 S2 C1 sg2 hM2 hF2 => ?_)
    have sg3 := sg2.hw (H2 := H) (W2 := upH W a.toInt.toNat (R, C)) (fun _ => rfl) (fun s => by unfold upH; split <;> rfl)
    refine ⟨rfl, u, R, C, k, H, _, _, P, n, S2, C', g1.K hF2, hM2, sg3, oX.mono (by omega), om, fun s hs v => ?_⟩
    unfold upH
    by_cases y : s = a.toInt.toNat
    · rw [if_pos y]; exact oX.mono (by omega)
    · rw [if_neg y]
      rw [up_ne y] at v
      exact wm s hs v
theorem st_restore (I : Iv B h) (hB : B ≤ 1000000000) (a : Int32) : two M6_restore M7_restore [cls_, .inl a] [ref_, .inl a] (B + 1536) h := by
  obtain ⟨u, R, C, k, H, V, W, P, n, S, C', g, hM, sg, oX, oH, oW⟩ := I
  rw [z_of a]
  have om : ∀ j, j < k → okX (B + 1536) (H j) := fun j hj => (oH j hj).mono (by omega)
  have wm : ∀ s, s < 2 → V s = 1 → okX (B + 1536) (W s) := fun s hs v => (oW s hs v).mono (by omega)
  refine c6_restore (i32_rng a) g oX.1 (fun s hs v => ⟨(oW s hs v).1, (oW s hs v).2.2.1, by have := (oW s hs v).2.2.2.1; omega⟩) (fun h1 u2 g1 hF1 => ?_)
  refine c7_restore (i32_rng a) sg (hM.fB hF1) (fun h2 S2 C1 sg2 hM2 hF2 => ?_) (fun s hs v => (oW s hs v).2.2.1)
  have rc := rs_c (R := R) (C := C) (C1 := C1) (V := V) (W := W) (a := a.toInt)
  rw [rc.1] at sg2 ⊢
  rw [rc.2] at hM2
  refine ⟨rfl, u2, _, _, _, _, V, W, P, n, S2, C', g1.K hF2, hM2, sg2.hw (fun j => nxH_c j) (fun _ => rfl), ?_, nx_ok g.2.1.2.1 (oX.mono (by omega)) om, wm⟩
  unfold rsS
  split
  next q =>
    split
    next v => exact wm _ (by omega) v
    next => exact oX.mono (by omega)
  next => exact oX.mono (by omega)
theorem st_carryOut (I : Iv B h) (hB : B ≤ 1000000000) : two M6_carryOut M7_carryOut [cls_] [ref_] (B + 1536) h := by
  obtain ⟨u, R, C, k, H, V, W, P, n, S, C', g, hM, sg, oX, oH, oW⟩ := I
  have om : ∀ j, j < k → okX (B + 1536) (H j) := fun j hj => (oH j hj).mono (by omega)
  have wm : ∀ s, s < 2 → V s = 1 → okX (B + 1536) (W s) := fun s hs v => (oW s hs v).mono (by omega)
  have n60 := sg.2.2.2.2.2.1
  refine c6_carryOut g oX hB (fun q => ?_) (fun q m pm h1 u2 g1 hF1 => ?_)
  · refine c7_carryOut sg hM oX hB (fun _ h2 S2 sg2 hM2 hF2 => ?_) (fun z => absurd z q)
    exact ⟨rfl, u, R, C, k, H, V, W, P, n, S2, C', g.K hF2, hM2, sg2, oX.mono (by omega), om, wm⟩
  · refine c7_carryOut sg (hM.fB hF1) oX hB (fun z => absurd q z) (fun _ m2 pm2 h2 S2 C2 sg2 hM2 hF2 => ?_)
    have em := pr_one pm2 pm
    subst em
    have m3 := pm.2.1
    have o := cr_ok2 (P := P) (n := n) (B := B) m2 0 (R, C) (by rw [show B + 25 * ((stF P n 0 : Nat) : Int) = B from Int.add_zero B]; exact oX) (fun j _ hj => pm.2.2.1 j (by omega))
    have em2 : stF P n (0 + m2) = n + 1 := by
      have m1 := pm.1
      obtain ⟨i, rfl⟩ : ∃ i, m2 = i + 1 := ⟨m2 - 1, by omega⟩
      rw [Nat.zero_add, st_s]
      have me := pm.2.2.2.2
      rw [Nat.add_sub_cancel] at me
      rw [me]
    rw [em2] at o
    refine ⟨rfl, u2, _, _, psK k, psH k H (R, C), V, W, P, 0, S2, C2, g1.K hF2, hM2, sg2, o.mono (by omega), ?_, wm⟩
    have z := nx_ok (a := 0) (X := (R, C)) g.2.1.2.1 (oX.mono (B2 := B + 1536) (by omega)) om
    unfold nxK nxH at z
    rw [if_pos (by omega), if_pos (by omega)] at z
    exact z
end STEP2
