/-! the constructors: LoopListeners -/
theorem zt1 {a : Nat} (h1 : 1 ≤ a) : zV (tyX1 a) = vI 0 := by
  unfold tyX1
  split <;> first | rfl | omega
/-- what became of h's cells: a field of the cell 0 is new -/
def Nx (X h : nH) (n j : Nat) (v : mV) : Prop := X.2 = h.2 + n ∧ (∀ y, 0 < y → y < h.2 → X.1 y = h.1 y) ∧ (X.1 0).1 = (h.1 0).1 ∧ (X.1 0).2 j = v ∧ ∀ a, a ≠ j → (X.1 0).2 a = (h.1 0).2 a
theorem nx_set {Y h : nH} {j n : Nat} {v : mV} (e : Y.2 = h.2 + n) (fr : ∀ y, y < h.2 → Y.1 y = h.1 y) (h0 : 0 < h.2) : Nx (nSet Y 0 j v) h n j v := ⟨e, fun y a b => by rw [nSet_ne (by omega), fr y b], by rw [nSet_k, fr 0 h0], by rw [nSet_at rfl], fun a ha => by rw [nSet_ot ha, fr 0 h0]⟩
def BigI (h : nH) : Prop := h.2 = 571 ∧ ((h.1 0).1 = .inl 6 ∧ ((h.1 0).2 0 = vQ 1 ∧ (h.1 0).2 1 = vQ 52 ∧ (h.1 0).2 2 = vQ 103 ∧ (h.1 0).2 3 = vQ 104 ∧ (h.1 0).2 4 = vQ 105 ∧ (h.1 0).2 5 = vQ 107 ∧ (h.1 0).2 6 = vQ 466)) ∧ (RD h.1 1 2 40 6 80 ∧ RD h.1 52 53 40 6 80) ∧ LopO (h.1 103) ∧ ((h.1 104).1 = .inr (.int, 100) ∧ ∀ j, (h.1 104).2 j = vI 0) ∧ ((h.1 105).1 = .inl 3 ∧ (h.1 105).2 0 = vQ 106 ∧ (h.1 105).2 1 = vI 0) ∧ ((h.1 106).1 = .inr (.char, 60) ∧ ∀ j, (h.1 106).2 j = vI 0) ∧ ((h.1 107).1 = .inl 1 ∧ (h.1 107).2 0 = vQ 108 ∧ (h.1 107).2 1 = vI 0 ∧ (h.1 107).2 2 = vI 0) ∧ RoI h.1 108 109 7 7 ∧ ((h.1 466).1 = .inl 5 ∧ (h.1 466).2 0 = vQ 467 ∧ (h.1 466).2 1 = vQ 468) ∧ RoI h.1 467 469 2 2 ∧ (h.1 468).1 = .inr (.boolean, 2) ∧ ∀ j, (h.1 468).2 j = vI 0
theorem n6_road {pc i1 i2 i3 j nc ns : Nat} {h : nH} {Q : nH → Prop} (d0 : decode M6_init.2.1 pc = .ok (.aload_n 0, 1)) (d1 : decode M6_init.2.1 (pc + 1) = .ok (.new i1, 3)) (d2 : decode M6_init.2.1 (pc + 4) = .ok (.dup, 1)) (d3 : decode M6_init.2.1 (pc + 5) = .ok (.invokespecial i2, 3)) (d4 : decode M6_init.2.1 (pc + 8) = .ok (.putfield i3, 3)) (cl : Jvm.Cond.classLink RX6 i1 RX4 ∈ TB) (F : CfI RX6 M4_init i2 0) (P : FinF RX6 i3 7 j (.object RX4)) (h0 : 0 < h.2) (hk : (h.1 0).1 = .inl 6) (h1 : nc + 51 ≤ 570) (h2 : ns + 669 ≤ 7546) (kk : ∀ X, Nx X h 51 j (vQ h.2) → RD X.1 h.2 (h.2 + 1) 40 6 80 → nE M6_init (570, 7546) (pc + 11) [vQ 0] [] X (nc + 51) (ns + 669) Q) : nE M6_init (570, 7546) pc [vQ 0] [] h nc ns Q := by
  refine nE.aload_n (q := 0) d0 rfl ?_
  refine nE.new (k := 0) d1 cls4 cl (tb_of 70 (by decide +kernel) rfl) (tb_of 53 (by decide +kernel) rfl) tyX4 tyX4_ok zok4 (by show nc + 1 ≤ 570; omega) (by show ns + 9 ≤ 7546; omega) ?_
  refine nE.dupR d2 ?_
  refine nE.call (M2 := M4_init) (Z2 := (50, 660)) (as := []) (K := fun X => RdI (nPush h (.inl 4, fun j => zV (tyX4 j))) h.2 40 6 80 X) d3 F ⟨by decide, by decide⟩ rfl rfl (by show 1 ≤ 2; decide) (fun _ => (Nat.le_of_ble_eq_true rfl)) (by show nc + 1 + 50 ≤ 570; omega) (by show ns + 9 + 660 ≤ 7546; omega) (n4_init (Nat.lt_succ_self _) (by rw [nPush_eq rfl]) (fun a a1 _ => by rw [nPush_eq rfl]; exact zt4 a1) (fun h I => I)) (fun Y I => ?_)
  have m := mkd_of I
  refine nE.putF (w := rf h.2) d4 P rfl (by have := m.1; omega) (by rw [m.2.1 0 h0]; exact hk) (fun _ => rfl) (fun _ => rfl) ?_
  exact kk _ (nx_set m.1 m.2.1 h0) (m.2.2.keep (fun y hy => nSet_ne (by omega)))
theorem n6_init {h0 : nH} {K : nH → Prop} (e0 : h0.2 = 1) (hk : (h0.1 0).1 = .inl 6) (kk : ∀ h, BigI h → K h) : nE M6_init (570, 7546) 0 (l0M M6_init [rf 0]) [] h0 0 0 K := by
  refine nE.aload_n (q := 0) dX6_init_0 rfl ?_
  refine nE.oinit dX6_init_1 oi_6 oi_i oi_c ⟨by decide, by decide⟩ ?_
  refine n6_road dX6_init_4 dX6_init_5 dX6_init_8 dX6_init_9 dX6_init_12 (tb_of 69 (by decide +kernel) rfl) ci6_11 fin6_12 (by omega) hk (by omega) (by omega) (fun X1 x1 r1 => ?_)
  have e1 : X1.2 = 52 := by have := x1.1; omega
  have k1 := x1.2.2.1.trans hk
  refine n6_road dX6_init_15 dX6_init_16 dX6_init_19 dX6_init_20 dX6_init_23 (tb_of 69 (by decide +kernel) rfl) ci6_11 fin6_16 (by omega) k1 (by omega) (by omega) (fun X2 x2 r2 => ?_)
  have e2 : X2.2 = 103 := by have := x2.1; omega
  have k2 := x2.2.2.1.trans k1
  refine nE.aload_n (q := 0) dX6_init_26 rfl ?_
  refine nE.new (k := 6) dX6_init_27 cls2 (tb_of 210 (by decide +kernel) rfl) (tb_of 133 (by decide +kernel) rfl) (tb_of 55 (by decide +kernel) rfl) tyX2 tyX2_ok zok2 (Nat.le_of_ble_eq_true rfl) (Nat.le_of_ble_eq_true rfl) ?_
  refine nE.dupR dX6_init_30 ?_
  refine nE.call (M2 := M2_init) (Z2 := (0, 0)) (as := []) (K := fun h1 => h1 = nPush X2 (.inl 2, fun j => zV (tyX2 j))) dX6_init_31 ci6_21 ⟨by decide, by decide⟩ rfl rfl (by show 1 ≤ 1; decide) (fun _ => (Nat.le_of_ble_eq_true rfl)) (Nat.le_of_ble_eq_true rfl) (Nat.le_of_ble_eq_true rfl) (n2_init rfl) (fun h1 e => ?_)
  subst e
  refine nE.putF (w := rf X2.2) dX6_init_34 fin6_22 rfl (Nat.succ_pos _) ((psh_k (by omega)).trans k2) (fun _ => rfl) (fun _ => rfl) ?_
  have x3 : Nx (nSet (nPush X2 (.inl 2, fun j => zV (tyX2 j))) 0 2 (vQ X2.2)) X2 1 2 (vQ X2.2) := nx_set rfl (fun y hy => nPush_ne (Nat.ne_of_lt hy)) (by omega)
  have r3 : (nSet (nPush X2 (.inl 2, fun j => zV (tyX2 j))) 0 2 (vQ X2.2)).1 X2.2 = (.inl 2, fun j => zV (tyX2 j)) := by rw [nSet_ne (by omega), nPush_eq rfl]
  refine nE.aload_n (q := 0) dX6_init_37 rfl ?_
  generalize nSet (nPush X2 (.inl 2, fun j => zV (tyX2 j))) 0 2 (vQ X2.2) = X3 at x3 r3 ⊢
  have e3 : X3.2 = 104 := by have := x3.1; omega
  have k3 := x3.2.2.1.trans k2
  refine nE.bipush (v := 100) dX6_init_38 (by decide +kernel) ?_
  refine nE.newa (t := .int) (N := 100) dX6_init_40 rfl acI (fun _ => rfl) (by decide +kernel) (by decide +kernel) (Nat.le_of_ble_eq_true rfl) (Nat.le_of_ble_eq_true rfl) (Nat.le_of_ble_eq_true rfl) ?_
  refine nE.putF (w := rf X3.2) dX6_init_42 fin6_26 rfl (Nat.succ_pos _) ((psh_k (by omega)).trans k3) (fun _ => rfl) (fun _ => rfl) ?_
  have x4 : Nx (nSet (nPush X3 (.inr (.int, 100), fun _ => zV .int)) 0 3 (vQ X3.2)) X3 1 3 (vQ X3.2) := nx_set rfl (fun y hy => nPush_ne (Nat.ne_of_lt hy)) (by omega)
  have r4 : (nSet (nPush X3 (.inr (.int, 100), fun _ => zV .int)) 0 3 (vQ X3.2)).1 X3.2 = (.inr (.int, 100), fun _ => vI 0) := by rw [nSet_ne (by omega), nPush_eq rfl]; rfl
  refine nE.aload_n (q := 0) dX6_init_45 rfl ?_
  generalize nSet (nPush X3 (.inr (.int, 100), fun _ => zV .int)) 0 3 (vQ X3.2) = X4 at x4 r4 ⊢
  have e4 : X4.2 = 105 := by have := x4.1; omega
  have k4 := x4.2.2.1.trans k3
  refine nE.new (k := 9) dX6_init_46 cls3 (tb_of 212 (by decide +kernel) rfl) (tb_of 213 (by decide +kernel) rfl) (tb_of 56 (by decide +kernel) rfl) tyX3 tyX3_ok zok3 (Nat.le_of_ble_eq_true rfl) (Nat.le_of_ble_eq_true rfl) ?_
  refine nE.dupR dX6_init_49 ?_
  refine nE.call (M2 := M3_init) (Z2 := (1, 60)) (as := []) (K := fun h1 => h1 = nSet (nPush (nPush X4 (.inl 3, fun j => zV (tyX3 j))) (.inr (.char, 60), fun _ => vI 0)) X4.2 0 (vQ (X4.2 + 1))) dX6_init_50 ci6_32 ⟨by decide, by decide⟩ rfl rfl (by show 1 ≤ 1; decide) (fun _ => (Nat.le_of_ble_eq_true rfl)) (Nat.le_of_ble_eq_true rfl) (Nat.le_of_ble_eq_true rfl) (n3_init (Nat.lt_succ_self _) (by rw [nPush_eq rfl]) rfl) (fun Y5 e => ?_)
  have f5 : ∀ y, y < X4.2 → Y5.1 y = X4.1 y := fun y hy => by rw [e, nSet_ne (by omega), nPush_ne (by show y ≠ X4.2 + 1; omega), nPush_ne (by omega)]
  have s5 : Y5.2 = X4.2 + 2 := by rw [e]; rfl
  have a5 : (Y5.1 105).1 = .inl 3 ∧ (Y5.1 105).2 0 = vQ 106 ∧ (Y5.1 105).2 1 = vI 0 := by
    rw [e, ← e4, nSet_eq, nPush_ne (by show X4.2 ≠ X4.2 + 1; omega), nPush_eq rfl]
    exact ⟨rfl, by rw [e4]; rfl, rfl⟩
  have b5 : (Y5.1 106).1 = .inr (.char, 60) ∧ ∀ j, (Y5.1 106).2 j = vI 0 := by
    rw [e, nSet_ne (by omega), nPush_eq (by show 106 = X4.2 + 1; omega)]
    exact ⟨rfl, fun _ => rfl⟩
  refine nE.putF (w := rf X4.2) dX6_init_53 fin6_33 rfl (by omega) (by rw [f5 0 (by omega)]; exact k4) (fun _ => rfl) (fun _ => rfl) ?_
  have x5 : Nx (nSet Y5 0 4 (vQ X4.2)) X4 2 4 (vQ X4.2) := nx_set s5 f5 (by omega)
  have a5 : ((nSet Y5 0 4 (vQ X4.2)).1 105).1 = .inl 3 ∧ ((nSet Y5 0 4 (vQ X4.2)).1 105).2 0 = vQ 106 ∧ ((nSet Y5 0 4 (vQ X4.2)).1 105).2 1 = vI 0 := by rw [nSet_ne (by decide)]; exact a5
  have b5 : ((nSet Y5 0 4 (vQ X4.2)).1 106).1 = .inr (.char, 60) ∧ ∀ j, ((nSet Y5 0 4 (vQ X4.2)).1 106).2 j = vI 0 := by rw [nSet_ne (by decide)]; exact b5
  generalize nSet Y5 0 4 (vQ X4.2) = X5 at x5 a5 b5 ⊢
  have e5 : X5.2 = 107 := by have := x5.1; omega
  have k5 := x5.2.2.1.trans k4
  refine nE.aload_n (q := 0) dX6_init_56 rfl ?_
  refine nE.new (k := 11) dX6_init_57 cls1 (tb_of 227 (by decide +kernel) rfl) (tb_of 228 (by decide +kernel) rfl) (tb_of 57 (by decide +kernel) rfl) tyX1 tyX1_ok zok1 (Nat.le_of_ble_eq_true rfl) (Nat.le_of_ble_eq_true rfl) ?_
  refine nE.dupR dX6_init_60 ?_
  refine nE.call (M2 := M1_init) (Z2 := (358, 4690)) (as := []) (K := fun h1 => HiI (nPush X5 (.inl 1, fun j => zV (tyX1 j))) X5.2 7 h1) dX6_init_61 ci6_39 ⟨by decide, by decide⟩ rfl rfl (by show 1 ≤ 2; decide) (fun _ => (Nat.le_of_ble_eq_true rfl)) (Nat.le_of_ble_eq_true rfl) (Nat.le_of_ble_eq_true rfl) (n1_init (Nat.lt_succ_self _) (by rw [nPush_eq rfl]) (fun a a1 _ => by rw [nPush_eq rfl]; exact zt1 a1) (fun h I => I)) (fun Y6 I6 => ?_)
  have s6 : Y6.2 = X5.2 + 359 := by have h6 : Y6.2 = X5.2 + 1 + 1 + 51 * 7 := I6.1; omega
  have f6 : ∀ y, y < X5.2 → Y6.1 y = X5.1 y := fun y hy => by rw [I6.2.1 y (Nat.lt_succ_of_lt hy) (by omega), nPush_ne (by omega)]
  have a6 : (Y6.1 X5.2).1 = .inl 1 ∧ (Y6.1 X5.2).2 0 = vQ (X5.2 + 1) ∧ (Y6.1 X5.2).2 1 = vI 0 ∧ (Y6.1 X5.2).2 2 = vI 0 := I6.2.2.1
  have b6 : RoI Y6.1 (X5.2 + 1) (X5.2 + 1 + 1) 7 7 := I6.2.2.2
  rw [e5] at a6 b6
  refine nE.putF (w := rf X5.2) dX6_init_64 fin6_40 rfl (by omega) (by rw [f6 0 (by omega)]; exact k5) (fun _ => rfl) (fun _ => rfl) ?_
  have x6 : Nx (nSet Y6 0 5 (vQ X5.2)) X5 359 5 (vQ X5.2) := nx_set s6 f6 (by omega)
  have a6 : ((nSet Y6 0 5 (vQ X5.2)).1 107).1 = .inl 1 ∧ ((nSet Y6 0 5 (vQ X5.2)).1 107).2 0 = vQ 108 ∧ ((nSet Y6 0 5 (vQ X5.2)).1 107).2 1 = vI 0 ∧ ((nSet Y6 0 5 (vQ X5.2)).1 107).2 2 = vI 0 := by rw [nSet_ne (by decide)]; exact a6
  have b6 : RoI (nSet Y6 0 5 (vQ X5.2)).1 108 109 7 7 := b6.keep (fun y hy => nSet_ne (by omega))
  generalize nSet Y6 0 5 (vQ X5.2) = X6 at x6 a6 b6 ⊢
  have e6 : X6.2 = 466 := by have := x6.1; omega
  have k6 := x6.2.2.1.trans k5
  refine nE.aload_n (q := 0) dX6_init_67 rfl ?_
  refine nE.new (k := 13) dX6_init_68 cls5 (tb_of 247 (by decide +kernel) rfl) (tb_of 248 (by decide +kernel) rfl) (tb_of 58 (by decide +kernel) rfl) tyX5 tyX5_ok zok5 (Nat.le_of_ble_eq_true rfl) (Nat.le_of_ble_eq_true rfl) ?_
  refine nE.dupR dX6_init_71 ?_
  refine nE.call (M2 := M5_init) (Z2 := (104, 1342)) (as := []) (K := fun h1 => SlI (nPush X6 (.inl 5, fun j => zV (tyX5 j))) X6.2 2 h1) dX6_init_72 ci6_46 ⟨by decide, by decide⟩ rfl rfl (by show 1 ≤ 2; decide) (fun _ => (Nat.le_of_ble_eq_true rfl)) (Nat.le_of_ble_eq_true rfl) (Nat.le_of_ble_eq_true rfl) (n5_init (Nat.lt_succ_self _) (by rw [nPush_eq rfl]) (fun h I => I)) (fun Y7 I7 => ?_)
  have s7 : Y7.2 = X6.2 + 105 := by have h6 : Y7.2 = X6.2 + 1 + 2 + 51 * 2 := I7.1; omega
  have f7 : ∀ y, y < X6.2 → Y7.1 y = X6.1 y := fun y hy => by rw [I7.2.1 y (Nat.lt_succ_of_lt hy) (by omega), nPush_ne (by omega)]
  have a7 : (Y7.1 X6.2).1 = .inl 5 ∧ (Y7.1 X6.2).2 0 = vQ (X6.2 + 1) ∧ (Y7.1 X6.2).2 1 = vQ (X6.2 + 1 + 1) := I7.2.2.1
  have b7 : RoI Y7.1 (X6.2 + 1) (X6.2 + 1 + 2) 2 2 := I7.2.2.2.1
  have c7 : (Y7.1 (X6.2 + 1 + 1)).1 = .inr (.boolean, 2) ∧ ∀ j, (Y7.1 (X6.2 + 1 + 1)).2 j = vI 0 := I7.2.2.2.2
  rw [e6] at a7 b7 c7
  refine nE.putF (w := rf X6.2) dX6_init_75 fin6_47 rfl (by omega) (by rw [f7 0 (by omega)]; exact k6) (fun _ => rfl) (fun _ => rfl) ?_
  have x7 : Nx (nSet Y7 0 6 (vQ X6.2)) X6 105 6 (vQ X6.2) := nx_set s7 f7 (by omega)
  have a7 : ((nSet Y7 0 6 (vQ X6.2)).1 466).1 = .inl 5 ∧ ((nSet Y7 0 6 (vQ X6.2)).1 466).2 0 = vQ 467 ∧ ((nSet Y7 0 6 (vQ X6.2)).1 466).2 1 = vQ 468 := by rw [nSet_ne (by decide)]; exact a7
  have b7 : RoI (nSet Y7 0 6 (vQ X6.2)).1 467 469 2 2 := b7.keep (fun y hy => nSet_ne (by omega))
  have c7 : ((nSet Y7 0 6 (vQ X6.2)).1 468).1 = .inr (.boolean, 2) ∧ ∀ j, ((nSet Y7 0 6 (vQ X6.2)).1 468).2 j = vI 0 := by rw [nSet_ne (by decide)]; exact c7
  generalize nSet Y7 0 6 (vQ X6.2) = X7 at x7 a7 b7 c7 ⊢
  have e7 : X7.2 = 571 := by have := x7.1; omega
  have k7 := x7.2.2.1.trans k6
  have g6 : ∀ y, 0 < y → y < 466 → X7.1 y = X6.1 y := fun y a b => x7.2.1 y a (by omega)
  have g5 : ∀ y, 0 < y → y < 107 → X7.1 y = X5.1 y := fun y a b => (g6 y a (by omega)).trans (x6.2.1 y a (by omega))
  have g4 : ∀ y, 0 < y → y < 105 → X7.1 y = X4.1 y := fun y a b => (g5 y a (by omega)).trans (x5.2.1 y a (by omega))
  have g3 : ∀ y, 0 < y → y < 104 → X7.1 y = X3.1 y := fun y a b => (g4 y a (by omega)).trans (x4.2.1 y a (by omega))
  have g2 : ∀ y, 0 < y → y < 103 → X7.1 y = X2.1 y := fun y a b => (g3 y a (by omega)).trans (x3.2.1 y a (by omega))
  have g1 : ∀ y, 0 < y → y < 52 → X7.1 y = X1.1 y := fun y a b => (g2 y a (by omega)).trans (x2.2.1 y a (by omega))
  have t7 := x7.2.2.2.2
  have t6 := x6.2.2.2.2
  have t5 := x5.2.2.2.2
  have t4 := x4.2.2.2.2
  have t3 := x3.2.2.2.2
  have t2 := x2.2.2.2.2
  refine nE.vret dX6_init_78 rfl (Nat.le_of_ble_eq_true rfl) (Nat.le_of_ble_eq_true rfl) (kk X7 ⟨e7, ⟨k7, ?_, ?_, ?_, ?_, ?_, ?_, ?_⟩, ⟨?_, ?_⟩, ?_, ?_, ?_, ?_, ?_, ?_, a7, b7, c7⟩)
  · rw [t7 0 (by decide), t6 0 (by decide), t5 0 (by decide), t4 0 (by decide), t3 0 (by decide), t2 0 (by decide), x1.2.2.2.1, e0]
  · rw [t7 1 (by decide), t6 1 (by decide), t5 1 (by decide), t4 1 (by decide), t3 1 (by decide), x2.2.2.2.1, e1]
  · rw [t7 2 (by decide), t6 2 (by decide), t5 2 (by decide), t4 2 (by decide), x3.2.2.2.1, e2]
  · rw [t7 3 (by decide), t6 3 (by decide), t5 3 (by decide), x4.2.2.2.1, e3]
  · rw [t7 4 (by decide), t6 4 (by decide), x5.2.2.2.1, e4]
  · rw [t7 5 (by decide), x6.2.2.2.1, e5]
  · rw [x7.2.2.2.1, e6]
  · rw [e0] at r1
    exact r1.keep (fun y hy => g1 y (by omega) (by omega))
  · rw [e1] at r2
    exact r2.keep (fun y hy => g2 y (by omega) (by omega))
  · rw [g3 103 (by decide) (by decide), ← e2, r3]
    exact ⟨rfl, fun a _ => zt2⟩
  · rw [g4 104 (by decide) (by decide), ← e3, r4]
    exact ⟨rfl, fun _ => rfl⟩
  · rw [g5 105 (by decide) (by decide)]
    exact a5
  · rw [g5 106 (by decide) (by decide)]
    exact b5
  · rw [g6 107 (by decide) (by decide)]
    exact a6
  · exact b6.keep (fun y hy => g6 y (by omega) (by omega))
