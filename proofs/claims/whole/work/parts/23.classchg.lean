/-! the class: changes of a road -/
abbrev i32 (a : Int) : Prop := -2147483648 ≤ a ∧ a < 2147483648
theorem zc : (2 : Int32) = zI 2 ∧ (3 : Int32) = zI 3 ∧ (4 : Int32) = zI 4 ∧ (5 : Int32) = zI 5 ∧ (6 : Int32) = zI 6 ∧ (7 : Int32) = zI 7 ∧ (8 : Int32) = zI 8 ∧ (9 : Int32) = zI 9 ∧ (40 : Int32) = zI 40 ∧ (200 : Int32) = zI 200 ∧ (39 : Int32) = zI 39 ∧ (1000 : Int32) = zI 1000 := by decide
theorem zm2 : (-2 : Int32) = zI (-2) := by decide
theorem zm4 : (-4 : Int32) = zI (-4) := by decide
theorem zm5 : (-5 : Int32) = zI (-5) := by decide
theorem zb_ne {c : Prop} [Decidable c] : (zI (if c then 1 else 0) = 0) ↔ ¬ c := by
  split <;> rename_i h
  · exact ⟨fun z => absurd z (by decide), fun z => absurd h z⟩
  · exact ⟨fun _ => h, fun _ => rfl⟩
theorem bit_orA : ∀ l : Fin 6, ∀ a : Fin 64, (zI (a.val : Int) ||| ((1 : Int32) <<< (zI (l.val : Int) &&& 31))) = zI ((a.val ||| 2 ^ l.val : Nat) : Int) := by decide +kernel
section CHG
variable {r : Nat} {h : mH} {Q : mV → mH → Prop} {R C : rw_}
theorem RPc.wish {g : mH} {R : rw_} {c : Nat} {v : Int} (hc : RPc g r R c) : RPc (pI g 5 r c 7 (zI v)) r (up R (76 + 10 * c) v) c := by
  unfold RPc at *
  obtain ⟨c0, c1, c2, c3, c4, c5, c6, c7, c8, c9⟩ := hc
  simp [pI, up, c0, c1, c2, c3, c4, c5, c7, c8, c9]
theorem RPc.spd {g : mH} {R : rw_} {c : Nat} {v : Int} (hc : RPc g r R c) : RPc (pI g 5 r c 4 (zI v)) r (up R (73 + 10 * c) v) c := by
  unfold RPc at *
  obtain ⟨c0, c1, c2, c3, c4, c5, c6, c7, c8, c9⟩ := hc
  simp [pI, up, c0, c1, c2, c4, c5, c6, c7, c8, c9]
theorem c4_turnWish {a : Int} (ha : i32 a) (hP : RP h r R C) (hW : WF R) (hq : ∀ h2, RP h2 r (spW R a).1 C → FrR r h h2 → Q (vI (zI (spW R a).2)) h2) : mC M4_turnWish [.inr (.inr (some (0, r, 0))), .inl (zI a)] h Q := by
  have hb := hW.c
  refine w4_turnWish ?_
  unfold spW at hq
  by_cases q : 0 ≤ a ∧ a < R 4
  · rw [if_pos q] at hq
    obtain ⟨c, rfl⟩ : ∃ c : Nat, a = c := ⟨a.toNat, by omega⟩
    rw [Int.toNat_natCast] at hq
    have hc : (c : Int) < R 4 := q.2
    have gc := RPc.of hP hc
    have w := hW.2.1 c hc
    unfold WFc at w
    refine c4_carN hP.c4 hc hb.2 ?_
    show (h.1 5 r c 6 = 0 → (¬ h.1 5 r c 7 = 0 → Q (vI 0) (pI h 5 r c 7 0)) ∧ (h.1 5 r c 7 = 0 → Q (vI 1) (pI h 5 r c 7 1))) ∧ (¬ h.1 5 r c 6 = 0 → Q (vI (-5)) h)
    rw [gc.2.2.2.2.2.1, gc.2.2.2.2.2.2.1, z0, z1, zm5]
    simp (disch := omega) only [z_eq]
    refine ⟨fun q1 => ⟨fun q2 => ?_, fun q2 => ?_⟩, fun q1 => ?_⟩
    · rw [if_pos q1] at hq
      dsimp only at hq
      rw [show 1 - R (76 + 10 * c) = 0 by omega] at hq
      exact hq _ (hP.car1 hW.l.2 gc.wish (fun k hk => up_ne (by omega))) (FrR.put (Or.inr (Or.inr (Or.inl rfl))))
    · rw [if_pos q1] at hq
      dsimp only at hq
      rw [show 1 - R (76 + 10 * c) = 1 by omega] at hq
      exact hq _ (hP.car1 hW.l.2 gc.wish (fun k hk => up_ne (by omega))) (FrR.put (Or.inr (Or.inr (Or.inl rfl))))
    · rw [if_neg q1] at hq
      exact hq h hP FrR.rf
  · rw [if_neg q] at hq
    exact c4_carNo hP.c4 ha (by omega) hb (hq h hP FrR.rf)
theorem c4_changeSpeed {a v : Int} (ha : i32 a) (hv : i32 v) (hP : RP h r R C) (hW : WF R) (hq : ∀ h2, RP h2 r (spV R a v).1 C → FrR r h h2 → Q (vI (zI (spV R a v).2)) h2) : mC M4_changeSpeed [.inr (.inr (some (0, r, 0))), .inl (zI a), .inl (zI v)] h Q := by
  have hb := hW.c
  refine w4_changeSpeed ?_
  unfold spV at hq
  by_cases q : 0 ≤ a ∧ a < R 4
  · rw [if_pos q] at hq
    obtain ⟨c, rfl⟩ : ∃ c : Nat, a = c := ⟨a.toNat, by omega⟩
    rw [Int.toNat_natCast] at hq
    have hc : (c : Int) < R 4 := q.2
    have gc := RPc.of hP hc
    have w := hW.2.1 c hc
    unfold WFc at w
    refine c4_carN hP.c4 hc hb.2 ?_
    show mC _ [_, .inl 0, .inl 4] _ _
    rw [z0, zc.2.2.1]
    refine c6_isWithin hv (by omega) (by omega) ?_
    show (¬ zI _ = 0 → (h.1 5 r c 6 = 0 → Q (vI (h.1 5 r c 4)) (pI h 5 r c 4 (zI v))) ∧ (¬ h.1 5 r c 6 = 0 → Q (vI (-5)) h)) ∧ (zI _ = 0 → Q (vI (-2)) h)
    rw [zb_ne, gc.2.2.2.2.2.1, gc.2.2.2.1, z0, zm5, zm2]
    simp (disch := omega) only [z_eq]
    refine ⟨fun q1 => ⟨fun q2 => ?_, fun q2 => ?_⟩, fun q1 => ?_⟩
    · rw [if_pos (by omega), if_pos q2] at hq
      exact hq _ (hP.car1 hW.l.2 gc.spd (fun k hk => up_ne (by omega))) (FrR.put (Or.inr (Or.inr (Or.inl rfl))))
    · rw [if_pos (by omega), if_neg q2] at hq
      exact hq h hP FrR.rf
    · rw [if_neg q1] at hq
      exact hq h hP FrR.rf
  · rw [if_neg q] at hq
    exact c4_carNo hP.c4 ha (by omega) hb (hq h hP FrR.rf)
theorem RP.set01 {g : mH} (hP : RP g r R C) (hl : R 3 ≤ 6) {k j : Nat} {v : Int} (hk : (k = 0 ∧ j = 7) ∨ (k = 1 ∧ j = 8)) : RP (pI g 0 r 0 j (zI v)) r (up R k v) C := by
  have hu : ∀ j, j ≠ k → up R k v j = R j := fun j hj => up_ne hj
  have e3 := hu 3 (by omega)
  have e4 := hu 4 (by omega)
  have ne : ∀ k2 r3 i s, ¬ (k2 = 0 ∧ s = j) → (pI g 0 r 0 j (zI v)).1 k2 r3 i s = g.1 k2 r3 i s := fun k2 r3 i s n => pI_ne (fun z => n ⟨z.1, z.2.1⟩)
  obtain ⟨b1, b2, b3, b4, b5⟩ := hP.1
  refine ⟨?_, fun c hc => (hP.2.1 c (by omega)).cong (fun s => ne 5 r c s (by omega)) (fun k h1 h2 => hu k (by omega)), fun l hl2 => (hP.2.2.1 l (by omega)).cong (fun s => ne 6 r l s (by omega)) (fun k h1 h2 => hu k (by omega)), fun k hk => by rw [ne 3 r 0 k (by omega)]; exact hP.2.2.2 k hk⟩
  unfold RPs
  rw [ne 0 r 0 4 (by omega), ne 0 r 0 5 (by omega), ne 0 r 0 6 (by omega), e3, e4, hu 2 (by omega)]
  rcases hk with ⟨rfl, rfl⟩ | ⟨rfl, rfl⟩
  · rw [pI_at, up_at, ne 0 r 0 8 (by omega), hu 1 (by omega)]; exact ⟨b1, b2, b3, rfl, b5⟩
  · rw [pI_at, up_at, ne 0 r 0 7 (by omega), hu 0 (by omega)]; exact ⟨b1, b2, b3, b4, rfl⟩
theorem c4_changeSetting {s v : Int} (hs : i32 s) (hv : i32 v) (hP : RP h r R C) (hW : WF R) (hq : ∀ h2, RP h2 r (spS R s v).1 C → FrR r h h2 → Q (vI (zI (spS R s v).2)) h2) : mC M4_changeSetting [.inr (.inr (some (0, r, 0))), .inl (zI s), .inl (zI v)] h Q := by
  have b4 := hP.1.2.2.2.1
  have b5 := hP.1.2.2.2.2
  refine w4_changeSetting ?_
  unfold spS at hq
  rw [z0, z1, zc.2.2.2.1, zc.2.2.2.2.2.2.1, zm2]
  simp (disch := omega) only [z_eq]
  have one : s = 1 → mC M6_isWithin [.inl (zI v), .inl (zI 1), .inl (zI 5)] h (kI (fun x66 h65 => (x66 = zI 0 → Q (vI (zI (-2))) h65) ∧ (¬ x66 = zI 0 → Q (vI (h65.1 0 r 0 8)) (pI h65 0 r 0 8 (zI v))))) := by
    intro q
    refine c6_isWithin hv (by omega) (by omega) ?_
    show (zI _ = 0 → Q (vI (zI (-2))) h) ∧ (¬ zI _ = 0 → Q (vI (h.1 0 r 0 8)) (pI h 0 r 0 8 (zI v)))
    rw [zb_ne, b5]
    rw [if_neg (by omega)] at hq
    refine ⟨fun q1 => ?_, fun q1 => ?_⟩
    · rw [if_neg (by omega)] at hq; exact hq h hP FrR.rf
    · rw [if_pos (by omega)] at hq
      exact hq _ (hP.set01 hW.l.2 (Or.inr ⟨rfl, rfl⟩)) (FrR.put (Or.inl rfl))
  refine ⟨fun q => ⟨fun q1 => ?_, one⟩, fun q => ?_⟩
  · rw [if_neg (by omega), if_neg (by omega)] at hq; exact hq h hP FrR.rf
  · refine c6_isWithin hv (by omega) (by omega) ?_
    show (zI _ = 0 → (¬ s = 1 → Q (vI (zI (-2))) h) ∧ (s = 1 → mC M6_isWithin [.inl (zI v), .inl (zI 1), .inl (zI 5)] h _)) ∧ (¬ zI _ = 0 → Q (vI (h.1 0 r 0 7)) (pI h 0 r 0 7 (zI v)))
    rw [zb_ne, b4]
    refine ⟨fun q1 => ⟨fun q2 => ?_, fun q2 => absurd q2 (by omega)⟩, fun q1 => ?_⟩
    · rw [if_neg (by omega), if_neg (by omega)] at hq; exact hq h hP FrR.rf
    · rw [if_pos (by omega)] at hq
      exact hq _ (hP.set01 hW.l.2 (Or.inl ⟨rfl, rfl⟩)) (FrR.put (Or.inl rfl))
theorem c6_areBounds {u lo : Int} (hu : i32 u) (hlo : i32 lo) (hq : Q (vI (zI (if okB u lo then 1 else 0))) h) : mC M6_areBounds [.inl (zI u), .inl (zI lo)] h Q := by
  refine w6_areBounds ?_
  rw [z1, zc.2.2.2.2.2.2.2.2.2.1]
  refine c6_isWithin hu (by omega) (by omega) ?_
  show (zI _ = 0 → Q (vI 0) h) ∧ (¬ zI _ = 0 → mC M6_isWithin [.inl (zI lo), .inl (zI 1), .inl (zI u)] h _)
  rw [zb_ne]
  refine ⟨fun q => ?_, fun q => ?_⟩
  · rw [if_neg (by omega)] at hq; exact hq
  · refine c6_isWithin hlo (by omega) hu ?_
    show (zI _ = 0 → Q (vI 0) h) ∧ (¬ zI _ = 0 → Q (vI (zI 1)) h)
    rw [zb_ne]
    refine ⟨fun q2 => ?_, fun q2 => ?_⟩
    · rw [if_neg (by omega)] at hq; exact hq
    · rw [if_pos (by omega)] at hq; exact hq
theorem c4_changeBounds {l u lo : Int} (hr : r ≠ 11) (hl : i32 l) (hu : i32 u) (hlo : i32 lo) (hP : RP h r R C) (hW : WF R) (hq : ∀ h2, RP h2 r (spB R l u lo).1 C → FrR r h h2 → Q (vI (zI (spB R l u lo).2)) h2) : mC M4_changeBounds [.inr (.inr (some (0, r, 0))), .inl (zI l), .inl (zI u), .inl (zI lo)] h Q := by
  have hb := hW.l
  refine w4_changeBounds ?_
  unfold spB at hq
  by_cases q : 0 ≤ l ∧ l < R 3
  · rw [if_pos q] at hq
    obtain ⟨n, rfl⟩ : ∃ n : Nat, l = n := ⟨l.toNat, by omega⟩
    rw [Int.toNat_natCast] at hq
    have gl := RPl.of hP q.2
    refine c4_loopN hP.l3 q.2 hb.2 ?_
    refine c6_areBounds hu hlo ?_
    show (¬ zI _ = 0 → Q (vI (h.1 6 r n 3)) (pI (pI h 6 r n 3 (zI u)) 6 r n 4 (zI lo))) ∧ (zI _ = 0 → Q (vI (-2)) h)
    rw [zb_ne, gl.2.2.2.1, zm2]
    refine ⟨fun q1 => ?_, fun q1 => ?_⟩
    · rw [if_pos (Decidable.not_not.mp q1)] at hq
      dsimp only at hq
      refine hq _ (hP.setl hb.2 (l := n) (by omega) ?_ (fun k hk => by rw [up_ne (by omega), up_ne (by omega)]) (fun k r2 i s nn => by rw [pI_ne (fun z => nn ⟨z.1, z.2.2.1, z.2.2.2⟩), pI_ne (fun z => nn ⟨z.1, z.2.2.1, z.2.2.2⟩)])) ((FrR.put (Or.inr (Or.inr (Or.inr ⟨rfl, hr⟩)))).tr (FrR.put (Or.inr (Or.inr (Or.inr ⟨rfl, hr⟩)))))
      unfold RPl at *
      obtain ⟨c0, c1, c2, c3, c4, c5, c6, c7, c8⟩ := gl
      simp [pI, up, c0, c1, c2, c5, c6, c7, c8]
    · rw [if_neg q1] at hq
      exact hq h hP FrR.rf
  · rw [if_neg q] at hq
    exact c4_loopNo hP.l3 hl (by omega) hb (hq h hP FrR.rf)
theorem l4_markCarsOver {l : Nat} (hW : WF R) (hL : LayOK R C) (hl : (l : Int) < R 3) (hq : ∀ h2, RP h2 r (ovA R l (R 4).toNat) C → FrR r h h2 → Q vU h2) : ∀ (n c : Nat) (g : mH), c + n = (R 4).toNat → RP g r (ovA R l c) C → FrR r h g → mE M4_markCarsOver 2 [vR 0 r 0, vR 6 r l, vI (zI l), vI (zI c), vU] [] g Q := by
  have hb := hW.c
  have hb3 := hW.l
  intro n
  induction n with
  | zero =>
    intro c g hc hP hF
    have e4 : ovA R l c 4 = R 4 := ovA_ne (fun c hc => by omega)
    refine w4_markCarsOver_2 ?_
    rw [hP.c4, e4]
    simp (disch := omega) only [z_le]
    rw [Nat.add_zero] at hc
    rw [hc] at hP
    exact ⟨fun _ => hq g hP hF, fun _ => by omega⟩
  | succ n ih =>
    intro c g hc hP hF
    have e4 : ovA R l c 4 = R 4 := ovA_ne (fun c hc => by omega)
    have e3 : ovA R l c 3 = R 3 := ovA_ne (fun c hc => by omega)
    obtain ⟨a, b⟩ := ovA_ok hW hL (l := l) (by omega) c (by omega)
    have hc4 : (c : Int) < ovA R l c 4 := by omega
    have gc := RPc.of hP hc4
    have w := a.2.1 c hc4
    have h79 : 0 ≤ ovA R l c (79 + 10 * c) ∧ ovA R l c (79 + 10 * c) < 64 := ⟨w.2.2.2.2.2.2.2.2.2.2.2.2.1, w.2.2.2.2.2.2.2.2.2.2.2.2.2⟩
    refine w4_markCarsOver_2 ?_
    rw [hP.c4, e4]
    simp (disch := omega) only [z_le]
    refine ⟨fun _ => by omega, fun _ => ?_⟩
    refine c4_carN hP.c4 hc4 (by omega) ?_
    refine c2_isUnder hP a hc4 (by rw [e3]; exact hl) ?_
    show (zI _ = 0 → mE _ _ [_, _, _, vI (zI c + 1), _] _ g _) ∧ (¬ zI _ = 0 → mE _ _ [_, _, _, vI (zI c + 1), _] _ (pI g 5 r c 10 (g.1 5 r c 10 ||| (1 <<< (zI l &&& 31)))) _)
    rw [zb_ne, gc.2.2.2.2.2.2.2.2.2, z1, z_add, show (c : Int) + 1 = ((c + 1 : Nat) : Int) by omega]
    refine ⟨fun q => ih (c + 1) g (by omega) ?_ hF, fun q => ?_⟩
    · refine hP.eqv (fun k => ?_) (fun _ _ => rfl)
      rw [ovA_s]
      unfold ovB
      rw [if_neg q]
      by_cases z : k = 79 + 10 * c
      · rw [z, up_at]
      · rw [up_ne z]
    · have hbit := bit_orA ⟨l, by omega⟩ ⟨(ovA R l c (79 + 10 * c)).toNat, by omega⟩
      dsimp only at hbit
      rw [Int.toNat_of_nonneg h79.1] at hbit
      rw [← z1, hbit]
      refine ih (c + 1) _ (by omega) ?_ (hF.tr (FrR.put (Or.inr (Or.inr (Or.inl rfl)))))
      rw [ovA_s]
      unfold ovB
      rw [if_pos (Decidable.not_not.mp q)]
      exact hP.car1 (by omega) gc.over (fun k hk => up_ne (by omega))
theorem c4_layLoop {L x m u lo : Int} (hr : r ≠ 11) (hL1 : i32 L) (hx : i32 x) (hm : i32 m) (hu : i32 u) (hlo : i32 lo) (hP : RP h r R C) (hW : WF R) (hL : LayOK R C) (hq : ∀ h2, RP h2 r (spL R L x m u lo).1 C → FrR r h h2 → Q (vI (zI (spL R L x m u lo).2)) h2) : mC M4_layLoop [.inr (.inr (some (0, r, 0))), .inl (zI L), .inl (zI x), .inl (zI m), .inl (zI u), .inl (zI lo)] h Q := by
  have hb := hW.l
  have hbad : ¬ ((0 ≤ L ∧ L ≤ 1) ∧ (1 ≤ m ∧ m ≤ 3) ∧ (0 ≤ x ∧ x ≤ 40 - m) ∧ okB u lo) → Q (vI (zI (-2))) h := fun n => by
    unfold spL at hq
    rw [if_neg n] at hq
    exact hq h hP FrR.rf
  refine w4_layLoop ?_
  rw [z0, z1, zc.2.1, zc.2.2.2.2.1, zc.2.2.2.2.2.2.2.2.1, zm2, zm4]
  refine c6_isWithin hL1 (by omega) (by omega) ?_
  show (zI _ = 0 → Q (vI (zI (-2))) h) ∧ (¬ zI _ = 0 → mC _ _ h _)
  rw [zb_ne]
  refine ⟨fun q => hbad (by omega), fun q1 => ?_⟩
  refine c6_isWithin hm (by omega) (by omega) ?_
  show (zI _ = 0 → Q (vI (zI (-2))) h) ∧ (¬ zI _ = 0 → mC _ [_, _, .inl (zI 40 - zI m)] h _)
  rw [zb_ne, z_sub]
  refine ⟨fun q => hbad (by omega), fun q2 => ?_⟩
  refine c6_isWithin hx (by omega) (by omega) ?_
  show (zI _ = 0 → Q (vI (zI (-2))) h) ∧ (¬ zI _ = 0 → mC _ _ h _)
  rw [zb_ne]
  refine ⟨fun q => hbad (by omega), fun q3 => ?_⟩
  refine c6_areBounds hu hlo ?_
  show (¬ zI _ = 0 → ((h.1 0 r 0 5) < zI 6 → mC _ [_, .inl (h.1 0 r 0 5)] (pI h 0 r 0 5 ((h.1 0 r 0 5) + zI 1)) (kR6 (fun h79 => Q (vI (h.1 0 r 0 5)) h79) (fun r80 c81 h79 => mC M2_lay [.inr (.inr (some (6, r80, c81))), .inl (zI L), .inl (zI x), .inl (zI m), .inl (zI u), .inl (zI lo)] h79 (kV (fun h82 => mC M4_markCarsOver [.inr (.inr (some (0, r, 0))), .inr (.inr (some (6, r80, c81))), .inl (h.1 0 r 0 5)] h82 (kV (fun h83 => Q (vI (h.1 0 r 0 5)) h83))))))) ∧ (¬ (h.1 0 r 0 5) < zI 6 → Q (vI (zI (-4))) h)) ∧ (zI _ = 0 → Q (vI (zI (-2))) h)
  rw [zb_ne, hP.l3, z_add]
  simp (disch := omega) only [z_lt]
  refine ⟨fun q4 => ?_, fun q => hbad (fun z => q z.2.2.2)⟩
  have hall : (0 ≤ L ∧ L ≤ 1) ∧ (1 ≤ m ∧ m ≤ 3) ∧ (0 ≤ x ∧ x ≤ 40 - m) ∧ okB u lo := ⟨by omega, by omega, by omega, Decidable.not_not.mp q4⟩
  unfold spL at hq
  rw [if_pos hall] at hq
  refine ⟨fun q => ?_, fun q => ?_⟩
  · rw [if_pos q] at hq
    obtain ⟨n, hn⟩ : ∃ n : Nat, R 3 = n := ⟨(R 3).toNat, by omega⟩
    obtain ⟨w1, w2, e3, e⟩ := newL_ok hW hL hall q
    have eT : (R 3).toNat = n := by omega
    rw [eT] at hq e
    rw [hn] at q ⊢
    refine c4_loopN (n := (n : Int) + 1) (l := n) pI_at (by omega) (by omega) ?_
    refine w2_lay ?_
    generalize hg : (pI (pI (pI (pI (pI (pI (pI (pI (pI (pI h 0 r 0 5 (zI ((n : Int) + 1))) 6 r n 0 (zI L)) 6 r n 1 (zI x)) 6 r n 2 (zI m)) 6 r n 3 (zI u)) 6 r n 4 (zI lo)) 6 r n 5 0) 6 r n 6 0) 6 r n 7 0) 6 r n 8 0) = g
    have gne : ∀ k r2 i s, ¬ (k = 0 ∧ s = 5) → ¬ (k = 6 ∧ r2 = r ∧ i = n) → g.1 k r2 i s = h.1 k r2 i s := by
      intro k r2 i s n1 n2
      rw [← hg]
      have e9 : ∀ {g : mH} {j : Nat} {x : Int32}, (pI g 6 r n j x).1 k r2 i s = g.1 k r2 i s := fun {g j x} => pI_ne (fun z => n2 ⟨z.1, z.2.2.1, z.2.2.2⟩)
      simp only [e9]
      exact pI_ne (fun z => n1 ⟨z.1, z.2.1⟩)
    have fr : FrR r h g := by
      intro k r2 i s nn
      by_cases y : k = 0 ∧ s = 5
      · rw [← hg]
        have e9 : ∀ {g : mH} {j : Nat} {x : Int32}, (pI g 6 r n j x).1 k r2 i s = g.1 k r2 i s := fun {g j x} => pI_ne (fun z => by omega)
        simp only [e9]
        exact pI_ne (fun z => by omega)
      · exact gne k r2 i s y (by omega)
    have z15 := hW.2.2.2.2 n 5 (by omega) (by omega) (by omega)
    have z16 := hW.2.2.2.2 n 6 (by omega) (by omega) (by omega)
    have z17 := hW.2.2.2.2 n 7 (by omega) (by omega) (by omega)
    have z19 := hW.2.2.2.2 n 9 (by omega) (by omega) (by omega)
    rw [show 10 + 10 * n + 5 = 15 + 10 * n by omega] at z15
    rw [show 10 + 10 * n + 6 = 16 + 10 * n by omega] at z16
    rw [show 10 + 10 * n + 7 = 17 + 10 * n by omega] at z17
    rw [show 10 + 10 * n + 9 = 19 + 10 * n by omega] at z19
    have hPg : RP g r (newL R L x m u lo) C := by
      obtain ⟨b1, b2, b3, b4, b5⟩ := hP.1
      refine ⟨?_, fun c hc => ?_, fun l hl => ?_, fun k hk => by rw [gne 3 r 0 k (by omega) (by omega)]; exact hP.2.2.2 k hk⟩
      · unfold RPs
        rw [gne 0 r 0 4 (by omega) (by omega), gne 0 r 0 6 (by omega) (by omega), gne 0 r 0 7 (by omega) (by omega), gne 0 r 0 8 (by omega) (by omega), e3, e 4 (by omega) (by omega), e 2 (by omega) (by omega), e 0 (by omega) (by omega), e 1 (by omega) (by omega)]
        refine ⟨b1, ?_, b3, b4, b5⟩
        rw [← hg, hn]
        simp [pI]
      · rw [e 4 (by omega) (by omega)] at hc
        exact (hP.2.1 c hc).cong (fun s => gne 5 r c s (by omega) (by omega)) (fun k h1 h2 => e k (by omega) (by omega))
      · rw [e3] at hl
        by_cases y : l = n
        · rw [y]
          unfold RPl
          rw [e (15 + 10 * n) (by omega) (by omega), e (16 + 10 * n) (by omega) (by omega), e (17 + 10 * n) (by omega) (by omega), e (19 + 10 * n) (by omega) (by omega), z15, z16, z17, z19]
          have t10 : ¬ 10 + 10 * n = 3 := by omega
          have t11 : ¬ 11 + 10 * n = 3 := by omega
          have t12 : ¬ 12 + 10 * n = 3 := by omega
          have t13 : ¬ 13 + 10 * n = 3 := by omega
          have t14 : ¬ 14 + 10 * n = 3 := by omega
          unfold newL
          rw [eT, ← hg, z0]
          simp [pI, up, t10, t11, t12, t13, t14]
        · exact (hP.2.2.1 l (by omega)).cong (fun s => gne 6 r l s (by omega) (by omega)) (fun k h1 h2 => e k (by omega) (by omega))
    show mC M4_markCarsOver [.inr (.inr (some (0, r, 0))), .inr (.inr (some (6, r, n))), .inl (zI (n : Int))] g (kV (fun h83 => Q (vI (zI (n : Int))) h83))
    refine w4_markCarsOver ?_
    have e4 : newL R L x m u lo 4 = R 4 := e 4 (by omega) (by omega)
    refine l4_markCarsOver w1 w2 (by omega) (fun h2 hP2 hF2 => ?_) (newL R L x m u lo 4).toNat 0 g (by omega) hPg FrR.rf
    rw [e4] at hP2
    rw [← hn]
    rw [hn] at hq
    rw [hn]
    exact hq h2 hP2 (fr.tr hF2)
  · rw [if_neg q] at hq
    exact hq h hP FrR.rf
theorem c4_admitCar {L len sp me : Int} (hL1 : i32 L) (hx : i32 len) (hm : i32 sp) (hu : i32 me) (hP : RP h r R C) (hW : WF R) (hL : LayOK R C) (hq : ∀ h2, RP h2 r (spC R C L len sp me).1.1 (spC R C L len sp me).1.2 → FrR r h h2 → Q (vI (zI (spC R C L len sp me).2)) h2) : mC M4_admitCar [.inr (.inr (some (0, r, 0))), .inl (zI L), .inl (zI len), .inl (zI sp), .inl (zI me)] h Q := by
  have hb := hW.c
  have hbad : ¬ ((0 ≤ L ∧ L ≤ 1) ∧ (1 ≤ len ∧ len ≤ 4) ∧ (1 ≤ sp ∧ sp ≤ 4) ∧ (1 ≤ me ∧ me ≤ 9)) → Q (vI (zI (-2))) h := fun n => by
    unfold spC at hq
    rw [if_neg n] at hq
    exact hq h hP FrR.rf
  refine w4_admitCar ?_
  rw [zm2, zm4, zm5, zm6, z0, z1, zc.2.2.1, zc.2.2.2.2.2.2.2.1, zc.2.2.2.2.2.2.2.2.1]
  refine c6_isWithin hL1 (by omega) (by omega) ?_
  show (zI _ = 0 → Q (vI (zI (-2))) h) ∧ (¬ zI _ = 0 → mC _ _ h _)
  rw [zb_ne]
  refine ⟨fun q => hbad (by omega), fun q1 => ?_⟩
  refine c6_isWithin hx (by omega) (by omega) ?_
  show (zI _ = 0 → Q (vI (zI (-2))) h) ∧ (¬ zI _ = 0 → mC _ _ h _)
  rw [zb_ne]
  refine ⟨fun q => hbad (by omega), fun q2 => ?_⟩
  refine c6_isWithin hm (by omega) (by omega) ?_
  show (zI _ = 0 → Q (vI (zI (-2))) h) ∧ (¬ zI _ = 0 → mC _ _ h _)
  rw [zb_ne]
  refine ⟨fun q => hbad (by omega), fun q3 => ?_⟩
  refine c6_isWithin hu (by omega) (by omega) ?_
  show (¬ zI _ = 0 → ((h.1 0 r 0 4) < zI 40 → mC M4_takerOf [.inr (.inr (some (0, r, 0))), .inl (zI L), .inl (zI 0)] h (kI (fun x103 h102 => (x103 = zI (-6) → mC M4_carNumbered [.inr (.inr (some (0, r, 0))), .inl (h102.1 0 r 0 4)] (pI h102 0 r 0 4 ((h102.1 0 r 0 4) + zI 1)) (kR5 (fun h104 => Q (vI (h102.1 0 r 0 4)) h104) (fun r105 c106 h104 => mC M0_arrive [.inr (.inr (some (5, r105, c106))), .inl (zI L), .inl (zI len), .inl (zI sp), .inl (zI me)] h104 (kV (fun h107 => mC M4_take [.inr (.inr (some (0, r, 0))), .inl (zI L), .inl (zI 0), .inl (h102.1 0 r 0 4)] h107 (kV (fun h108 => Q (vI (h102.1 0 r 0 4)) h108))))))) ∧ (¬ x103 = zI (-6) → Q (vI (zI (-5))) h102)))) ∧ (¬ (h.1 0 r 0 4) < zI 40 → Q (vI (zI (-4))) h)) ∧ (zI _ = 0 → Q (vI (zI (-2))) h)
  rw [zb_ne, hP.c4]
  simp (disch := omega) only [z_lt]
  refine ⟨fun q4 => ?_, fun q => hbad (fun z => q z.2.2.2)⟩
  have hall : (0 ≤ L ∧ L ≤ 1) ∧ (1 ≤ len ∧ len ≤ 4) ∧ (1 ≤ sp ∧ sp ≤ 4) ∧ (1 ≤ me ∧ me ≤ 9) := ⟨by omega, by omega, by omega, by omega⟩
  unfold spC at hq
  rw [if_pos hall] at hq
  refine ⟨fun q => ?_, fun q => ?_⟩
  · rw [if_pos q] at hq
    refine c4_takerOf (by omega) (by omega) hP.2.2.2 ?_
    have hr2 := tk_rng hL (L := L) (x := 0) hb (by omega)
    have hfr := tk_free hL (L := L) (x := 0) hb (by omega)
    have hfc : freeP C L 0 ↔ C (40 * L).toNat < 0 := by
      unfold freeP
      rw [Int.add_zero]
      omega
    obtain ⟨n, hn⟩ : ∃ n : Nat, R 4 = n := ⟨(R 4).toNat, by omega⟩
    have eT : (R 4).toNat = n := by omega
    show (zI _ = zI (-6) → mC M4_carNumbered [.inr (.inr (some (0, r, 0))), .inl (h.1 0 r 0 4)] (pI h 0 r 0 4 ((h.1 0 r 0 4) + zI 1)) (kR5 (fun h104 => Q (vI (h.1 0 r 0 4)) h104) (fun r105 c106 h104 => mC M0_arrive [.inr (.inr (some (5, r105, c106))), .inl (zI L), .inl (zI len), .inl (zI sp), .inl (zI me)] h104 (kV (fun h107 => mC M4_take [.inr (.inr (some (0, r, 0))), .inl (zI L), .inl (zI 0), .inl (h.1 0 r 0 4)] h107 (kV (fun h108 => Q (vI (h.1 0 r 0 4)) h108))))))) ∧ (¬ zI _ = zI (-6) → Q (vI (zI (-5))) h)
    rw [hP.c4, hn, z_add]
    simp (disch := omega) only [z_eq]
    refine ⟨fun q5 => ?_, fun q5 => ?_⟩
    · have hfree := hfc.mp (hfr.mp q5)
      rw [if_pos hfree] at hq
      obtain ⟨w1, w2, e4, e, v0, v1, v2, v3, v4, vz⟩ := newC_ok hW hL hall q hfree
      rw [eT] at e v0 v1 v2 v3 v4 vz
      refine c4_carN (n := (n : Int) + 1) (c := n) pI_at (by omega) (by omega) ?_
      refine w0_arrive ?_
      generalize hg : (pI (pI (pI (pI (pI (pI (pI (pI (pI (pI (pI h 0 r 0 4 (zI ((n : Int) + 1))) 5 r n 1 (zI L)) 5 r n 2 0) 5 r n 3 (zI len)) 5 r n 4 (zI sp)) 5 r n 5 (zI me)) 5 r n 6 0) 5 r n 7 0) 5 r n 8 0) 5 r n 9 0) 5 r n 10 0) = g
      have gne : ∀ k r2 i s, ¬ (k = 0 ∧ s = 4) → ¬ (k = 5 ∧ r2 = r ∧ i = n) → g.1 k r2 i s = h.1 k r2 i s := by
        intro k r2 i s n1 n2
        rw [← hg]
        have e9 : ∀ {g : mH} {j : Nat} {x : Int32}, (pI g 5 r n j x).1 k r2 i s = g.1 k r2 i s := fun {g j x} => pI_ne (fun z => n2 ⟨z.1, z.2.2.1, z.2.2.2⟩)
        simp only [e9]
        exact pI_ne (fun z => n1 ⟨z.1, z.2.1⟩)
      have fr : FrR r h g := by
        intro k r2 i s nn
        by_cases y : k = 0 ∧ s = 4
        · rw [← hg]
          have e9 : ∀ {g : mH} {j : Nat} {x : Int32}, (pI g 5 r n j x).1 k r2 i s = g.1 k r2 i s := fun {g j x} => pI_ne (fun z => by omega)
          simp only [e9]
          exact pI_ne (fun z => by omega)
        · exact gne k r2 i s y (by omega)
      have hPg : RP g r (newC R L len sp me) C := by
        obtain ⟨b1, b2, b3, b4, b5⟩ := hP.1
        refine ⟨?_, fun c hc => ?_, fun l hl => ?_, fun k hk => by rw [gne 3 r 0 k (by omega) (by omega)]; exact hP.2.2.2 k hk⟩
        · unfold RPs
          rw [gne 0 r 0 5 (by omega) (by omega), gne 0 r 0 6 (by omega) (by omega), gne 0 r 0 7 (by omega) (by omega), gne 0 r 0 8 (by omega) (by omega), e4, e 3 (by omega) (by omega), e 2 (by omega) (by omega), e 0 (by omega) (by omega), e 1 (by omega) (by omega)]
          refine ⟨?_, b2, b3, b4, b5⟩
          rw [← hg, hn]
          simp [pI]
        · rw [e4] at hc
          by_cases y : c = n
          · rw [y]
            have y5 := vz 5 (by omega) (by omega)
            have y6 := vz 6 (by omega) (by omega)
            have y7 := vz 7 (by omega) (by omega)
            have y8 := vz 8 (by omega) (by omega)
            have y9 := vz 9 (by omega) (by omega)
            rw [show 70 + 10 * n + 5 = 75 + 10 * n by omega] at y5
            rw [show 70 + 10 * n + 6 = 76 + 10 * n by omega] at y6
            rw [show 70 + 10 * n + 7 = 77 + 10 * n by omega] at y7
            rw [show 70 + 10 * n + 8 = 78 + 10 * n by omega] at y8
            rw [show 70 + 10 * n + 9 = 79 + 10 * n by omega] at y9
            unfold RPc
            rw [v0, v1, v2, v3, v4, y5, y6, y7, y8, y9, ← hg, z0]
            simp [pI]
          · exact (hP.2.1 c (by omega)).cong (fun s => gne 5 r c s (by omega) (by omega)) (fun k h1 h2 => e k (by omega) (by omega))
        · rw [e 3 (by omega) (by omega)] at hl
          have hl6 := hW.l
          exact (hP.2.2.1 l hl).cong (fun s => gne 6 r l s (by omega) (by omega)) (fun k h1 h2 => e k (by omega) (by omega))
      show mC M4_take [.inr (.inr (some (0, r, 0))), .inl (zI L), .inl (zI 0), .inl (zI (n : Int))] g (kV (fun h108 => Q (vI (zI (n : Int))) h108))
      refine c4_take (by omega) (by omega) hPg.2.2.2 (fun h2 hC2 hF2 hM2 => ?_)
      have hP2 := hPg.sett hC2 hF2
      rw [hn] at hq
      exact hq h2 hP2 (fr.tr (fun k r2 i s n => hF2 k r2 i s (by omega)))
    · rw [if_neg (fun z => q5 (hfr.mpr (hfc.mpr z)))] at hq
      exact hq h hP FrR.rf
  · rw [if_neg q] at hq
    exact hq h hP FrR.rf
end CHG
