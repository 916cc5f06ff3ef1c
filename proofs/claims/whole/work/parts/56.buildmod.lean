/-! the constructors: LoopListenersModel -/
def asl (k : Nat) : Nat := match k with
  | 0 => 0
  | 1 => 1
  | 2 => 2
  | 3 => 4
  | 4 => 5
  | 5 => 6
  | 6 => 9
  | 7 => 10
  | _ => 11
def asz (k : Nat) : Nat := match k with
  | 0 => 470
  | 1 => 470
  | 2 => 2820
  | 3 => 940
  | 4 => 2
  | 5 => 60
  | 6 => 80
  | 7 => 40
  | _ => 150
def aty (k : Nat) : FieldType := match k with
  | 4 => .boolean
  | _ => .int
/-- so many arrays of the reference at q are made -/
def MoI (h0 : nH) (q i : Nat) (h : nH) : Prop := h.2 = h0.2 + i ∧ (∀ y, y < h0.2 → y ≠ q → h.1 y = h0.1 y) ∧ (h.1 q).1 = .inl 7 ∧ (∀ k, k < i → (h.1 q).2 (asl k) = vQ (h0.2 + k)) ∧ (∀ j, (∀ k, k < i → j ≠ asl k) → (h.1 q).2 j = (h0.1 q).2 j) ∧ ∀ k, k < i → (h.1 (h0.2 + k)).1 = .inr (aty k, asz k) ∧ ∀ j, (h.1 (h0.2 + k)).2 j = vI 0
theorem asl_ne : ∀ i, i < 9 → ∀ k, k < i → asl k ≠ asl i := by decide +kernel
theorem MoI.step {h0 h : nH} {q i : Nat} {v : mV} {z : Nat → mV} (I : MoI h0 q i h) (hi : i < 9) (hq : q < h0.2) (hv : v = vQ (h0.2 + i)) (hz : ∀ j, z j = vI 0) : MoI h0 q (i + 1) (nSet (nPush h (.inr (aty i, asz i), z)) q (asl i) v) := by
  obtain ⟨e, fr, k7, sl, ot, ar⟩ := I
  refine ⟨?_, fun y h1 h2 => ?_, ?_, fun k hk => ?_, fun j hj => ?_, fun k hk => ?_⟩
  · show h.2 + 1 = _
    omega
  · rw [nSet_ne h2, nPush_ne (by omega)]
    exact fr y h1 h2
  · rw [nSet_k, psh_k (by omega)]
    exact k7
  · by_cases z : k = i
    · rw [z, nSet_at rfl, hv]
    · rw [nSet_ot (asl_ne i hi k (by omega)), nPush_ne (by omega)]
      exact sl k (by omega)
  · rw [nSet_ot (hj i (by omega)), nPush_ne (by omega)]
    exact ot j (fun k hk => hj k (by omega))
  · by_cases z : k = i
    · rw [z, nSet_ne (by omega), nPush_eq (by omega)]
      exact ⟨rfl, hz⟩
    · rw [nSet_ne (by omega), nPush_ne (by omega)]
      exact ar k (by omega)
def ModI (h0 : nH) (q : Nat) (h : nH) : Prop := h.2 = h0.2 + 9 ∧ (∀ y, y < h0.2 → y ≠ q → h.1 y = h0.1 y) ∧ (h.1 q).1 = .inl 7 ∧ (∀ k, k < 9 → (h.1 q).2 (asl k) = vQ (h0.2 + k)) ∧ (∀ j, (∀ k, k < 9 → j ≠ asl k) → (h.1 q).2 j = (h0.1 q).2 j) ∧ (∀ k, k < 9 → (h.1 (h0.2 + k)).1 = .inr (aty k, asz k)) ∧ (∀ k j, k < 9 → 1 ≤ k → (h.1 (h0.2 + k)).2 j = vI 0) ∧ ∀ j, (h.1 h0.2).2 j = vI (if j < 2 then 1 else 0)
theorem mod_end {h0 h : nH} {q : Nat} (I : MoI h0 q 9 h) (hq : q < h0.2) : ModI h0 q (nSet (nSet h h0.2 0 (vI 1)) h0.2 1 (vI 1)) := by
  obtain ⟨e, fr, k7, sl, ot, ar⟩ := I
  have F : ∀ y, y ≠ h0.2 → (nSet (nSet h h0.2 0 (vI 1)) h0.2 1 (vI 1)).1 y = h.1 y := fun y a => by rw [nSet_ne a, nSet_ne a]
  refine ⟨e, fun y h1 h2 => ?_, ?_, fun k hk => ?_, fun j hj => ?_, fun k hk => ?_, fun k j hk h1 => ?_, fun j => ?_⟩
  · rw [F y (by omega)]
    exact fr y h1 h2
  · rw [F q (by omega)]
    exact k7
  · rw [F q (by omega)]
    exact sl k hk
  · rw [F q (by omega)]
    exact ot j hj
  · rw [nSet_k', nSet_k']
    exact (ar k hk).1
  · rw [F _ (by omega)]
    exact (ar k hk).2 j
  · have z0 := (ar 0 (by decide)).2
    by_cases e1 : j = 1
    · rw [nSet_at e1, e1]
      rfl
    · rw [nSet_ot e1]
      by_cases e2 : j = 0
      · rw [nSet_at e2, e2]
        rfl
      · rw [nSet_ot e2, if_neg (by omega)]
        exact z0 j
theorem n7_init {q : Nat} {h0 : nH} {K : nH → Prop} (hq : q < h0.2) (hk : (h0.1 q).1 = .inl 7) (kk : ∀ h, ModI h0 q h → K h) : nE M7_init (9, 5032) 0 (l0M M7_init [rf q]) [] h0 0 0 K := by
  refine nE.aload_n (q := q) dX7_init_0 rfl ?_
  refine nE.oinit dX7_init_1 oi_7 oi_i oi_c ⟨by decide, by decide⟩ ?_
  have I0 : MoI h0 q 0 h0 := ⟨rfl, fun _ _ _ => rfl, hk, fun k h => by omega, fun _ _ => rfl, fun k h => by omega⟩
  refine nE.aload_n (q := q) dX7_init_4 rfl ?_
  refine nE.sipush (v := 470) dX7_init_5 (by decide +kernel) ?_
  refine nE.newa (t := .int) (N := 470) dX7_init_8 rfl acI (fun _ => rfl) (by decide +kernel) (by decide +kernel) (Nat.le_of_ble_eq_true rfl) (Nat.le_of_ble_eq_true rfl) (Nat.le_of_ble_eq_true rfl) ?_
  refine nE.putF (w := rf h0.2) dX7_init_10 fin7_7 rfl (by have := I0.1; show q < h0.2 + 1; omega) ((psh_k (by have := I0.1; omega)).trans I0.2.2.1) (fun _ => rfl) (fun _ => rfl) ?_
  have I1 := I0.step (v := vQ h0.2) (z := fun _ => zV .int) (by decide) hq (by rw [I0.1]) (fun _ => rfl)
  have I1 : MoI h0 q 1 (nSet (nPush h0 (.inr (.int, 470), fun _ => zV .int)) q 0 (vQ h0.2)) := I1
  generalize nSet (nPush h0 (.inr (.int, 470), fun _ => zV .int)) q 0 (vQ h0.2) = X1 at I1 ⊢
  refine nE.aload_n (q := q) dX7_init_13 rfl ?_
  refine nE.sipush (v := 470) dX7_init_14 (by decide +kernel) ?_
  refine nE.newa (t := .int) (N := 470) dX7_init_17 rfl acI (fun _ => rfl) (by decide +kernel) (by decide +kernel) (Nat.le_of_ble_eq_true rfl) (Nat.le_of_ble_eq_true rfl) (Nat.le_of_ble_eq_true rfl) ?_
  refine nE.putF (w := rf X1.2) dX7_init_19 fin7_13 rfl (by have := I1.1; show q < X1.2 + 1; omega) ((psh_k (by have := I1.1; omega)).trans I1.2.2.1) (fun _ => rfl) (fun _ => rfl) ?_
  have I2 := I1.step (v := vQ X1.2) (z := fun _ => zV .int) (by decide) hq (by rw [I1.1]) (fun _ => rfl)
  have I2 : MoI h0 q 2 (nSet (nPush X1 (.inr (.int, 470), fun _ => zV .int)) q 1 (vQ X1.2)) := I2
  generalize nSet (nPush X1 (.inr (.int, 470), fun _ => zV .int)) q 1 (vQ X1.2) = X2 at I2 ⊢
  refine nE.aload_n (q := q) dX7_init_22 rfl ?_
  refine nE.sipush (v := 2820) dX7_init_23 (by decide +kernel) ?_
  refine nE.newa (t := .int) (N := 2820) dX7_init_26 rfl acI (fun _ => rfl) (by decide +kernel) (by decide +kernel) (Nat.le_of_ble_eq_true rfl) (Nat.le_of_ble_eq_true rfl) (Nat.le_of_ble_eq_true rfl) ?_
  refine nE.putF (w := rf X2.2) dX7_init_28 fin7_16 rfl (by have := I2.1; show q < X2.2 + 1; omega) ((psh_k (by have := I2.1; omega)).trans I2.2.2.1) (fun _ => rfl) (fun _ => rfl) ?_
  have I3 := I2.step (v := vQ X2.2) (z := fun _ => zV .int) (by decide) hq (by rw [I2.1]) (fun _ => rfl)
  have I3 : MoI h0 q 3 (nSet (nPush X2 (.inr (.int, 2820), fun _ => zV .int)) q 2 (vQ X2.2)) := I3
  generalize nSet (nPush X2 (.inr (.int, 2820), fun _ => zV .int)) q 2 (vQ X2.2) = X3 at I3 ⊢
  refine nE.aload_n (q := q) dX7_init_31 rfl ?_
  refine nE.sipush (v := 940) dX7_init_32 (by decide +kernel) ?_
  refine nE.newa (t := .int) (N := 940) dX7_init_35 rfl acI (fun _ => rfl) (by decide +kernel) (by decide +kernel) (Nat.le_of_ble_eq_true rfl) (Nat.le_of_ble_eq_true rfl) (Nat.le_of_ble_eq_true rfl) ?_
  refine nE.putF (w := rf X3.2) dX7_init_37 fin7_19 rfl (by have := I3.1; show q < X3.2 + 1; omega) ((psh_k (by have := I3.1; omega)).trans I3.2.2.1) (fun _ => rfl) (fun _ => rfl) ?_
  have I4 := I3.step (v := vQ X3.2) (z := fun _ => zV .int) (by decide) hq (by rw [I3.1]) (fun _ => rfl)
  have I4 : MoI h0 q 4 (nSet (nPush X3 (.inr (.int, 940), fun _ => zV .int)) q 4 (vQ X3.2)) := I4
  generalize nSet (nPush X3 (.inr (.int, 940), fun _ => zV .int)) q 4 (vQ X3.2) = X4 at I4 ⊢
  refine nE.aload_n (q := q) dX7_init_40 rfl ?_
  refine nE.iconst (v := 2) dX7_init_41 (by decide +kernel) ?_
  refine nE.newa (t := .boolean) (N := 2) dX7_init_42 rfl acB (fun _ => rfl) (by decide +kernel) (by decide +kernel) (Nat.le_of_ble_eq_true rfl) (Nat.le_of_ble_eq_true rfl) (Nat.le_of_ble_eq_true rfl) ?_
  refine nE.putF (w := rf X4.2) dX7_init_44 fin7_22 rfl (by have := I4.1; show q < X4.2 + 1; omega) ((psh_k (by have := I4.1; omega)).trans I4.2.2.1) (fun _ => rfl) (fun _ => rfl) ?_
  have I5 := I4.step (v := vQ X4.2) (z := fun _ => zV .boolean) (by decide) hq (by rw [I4.1]) (fun _ => rfl)
  have I5 : MoI h0 q 5 (nSet (nPush X4 (.inr (.boolean, 2), fun _ => zV .boolean)) q 5 (vQ X4.2)) := I5
  generalize nSet (nPush X4 (.inr (.boolean, 2), fun _ => zV .boolean)) q 5 (vQ X4.2) = X5 at I5 ⊢
  refine nE.aload_n (q := q) dX7_init_47 rfl ?_
  refine nE.bipush (v := 60) dX7_init_48 (by decide +kernel) ?_
  refine nE.newa (t := .int) (N := 60) dX7_init_50 rfl acI (fun _ => rfl) (by decide +kernel) (by decide +kernel) (Nat.le_of_ble_eq_true rfl) (Nat.le_of_ble_eq_true rfl) (Nat.le_of_ble_eq_true rfl) ?_
  refine nE.putF (w := rf X5.2) dX7_init_52 fin7_26 rfl (by have := I5.1; show q < X5.2 + 1; omega) ((psh_k (by have := I5.1; omega)).trans I5.2.2.1) (fun _ => rfl) (fun _ => rfl) ?_
  have I6 := I5.step (v := vQ X5.2) (z := fun _ => zV .int) (by decide) hq (by rw [I5.1]) (fun _ => rfl)
  have I6 : MoI h0 q 6 (nSet (nPush X5 (.inr (.int, 60), fun _ => zV .int)) q 6 (vQ X5.2)) := I6
  generalize nSet (nPush X5 (.inr (.int, 60), fun _ => zV .int)) q 6 (vQ X5.2) = X6 at I6 ⊢
  refine nE.aload_n (q := q) dX7_init_55 rfl ?_
  refine nE.bipush (v := 80) dX7_init_56 (by decide +kernel) ?_
  refine nE.newa (t := .int) (N := 80) dX7_init_58 rfl acI (fun _ => rfl) (by decide +kernel) (by decide +kernel) (Nat.le_of_ble_eq_true rfl) (Nat.le_of_ble_eq_true rfl) (Nat.le_of_ble_eq_true rfl) ?_
  refine nE.putF (w := rf X6.2) dX7_init_60 fin7_29 rfl (by have := I6.1; show q < X6.2 + 1; omega) ((psh_k (by have := I6.1; omega)).trans I6.2.2.1) (fun _ => rfl) (fun _ => rfl) ?_
  have I7 := I6.step (v := vQ X6.2) (z := fun _ => zV .int) (by decide) hq (by rw [I6.1]) (fun _ => rfl)
  have I7 : MoI h0 q 7 (nSet (nPush X6 (.inr (.int, 80), fun _ => zV .int)) q 9 (vQ X6.2)) := I7
  generalize nSet (nPush X6 (.inr (.int, 80), fun _ => zV .int)) q 9 (vQ X6.2) = X7 at I7 ⊢
  refine nE.aload_n (q := q) dX7_init_63 rfl ?_
  refine nE.bipush (v := 40) dX7_init_64 (by decide +kernel) ?_
  refine nE.newa (t := .int) (N := 40) dX7_init_66 rfl acI (fun _ => rfl) (by decide +kernel) (by decide +kernel) (Nat.le_of_ble_eq_true rfl) (Nat.le_of_ble_eq_true rfl) (Nat.le_of_ble_eq_true rfl) ?_
  refine nE.putF (w := rf X7.2) dX7_init_68 fin7_32 rfl (by have := I7.1; show q < X7.2 + 1; omega) ((psh_k (by have := I7.1; omega)).trans I7.2.2.1) (fun _ => rfl) (fun _ => rfl) ?_
  have I8 := I7.step (v := vQ X7.2) (z := fun _ => zV .int) (by decide) hq (by rw [I7.1]) (fun _ => rfl)
  have I8 : MoI h0 q 8 (nSet (nPush X7 (.inr (.int, 40), fun _ => zV .int)) q 10 (vQ X7.2)) := I8
  generalize nSet (nPush X7 (.inr (.int, 40), fun _ => zV .int)) q 10 (vQ X7.2) = X8 at I8 ⊢
  refine nE.aload_n (q := q) dX7_init_71 rfl ?_
  refine nE.sipush (v := 150) dX7_init_72 (by decide +kernel) ?_
  refine nE.newa (t := .int) (N := 150) dX7_init_75 rfl acI (fun _ => rfl) (by decide +kernel) (by decide +kernel) (Nat.le_of_ble_eq_true rfl) (Nat.le_of_ble_eq_true rfl) (Nat.le_of_ble_eq_true rfl) ?_
  refine nE.putF (w := rf X8.2) dX7_init_77 fin7_35 rfl (by have := I8.1; show q < X8.2 + 1; omega) ((psh_k (by have := I8.1; omega)).trans I8.2.2.1) (fun _ => rfl) (fun _ => rfl) ?_
  have I9 := I8.step (v := vQ X8.2) (z := fun _ => zV .int) (by decide) hq (by rw [I8.1]) (fun _ => rfl)
  have I9 : MoI h0 q 9 (nSet (nPush X8 (.inr (.int, 150), fun _ => zV .int)) q 11 (vQ X8.2)) := I9
  generalize nSet (nPush X8 (.inr (.int, 150), fun _ => zV .int)) q 11 (vQ X8.2) = X9 at I9 ⊢
  refine nE.aload_n (q := q) dX7_init_80 rfl ?_
  refine nE.getf (w := rf h0.2) dX7_init_81 f7_7 rfl (by have := I9.1; omega) I9.2.2.1 (I9.2.2.2.1 0 (by decide)) ?_
  refine nE.iconst (v := 0) dX7_init_84 (by decide +kernel) ?_
  refine nE.iconst (v := 1) dX7_init_85 (by decide +kernel) ?_
  refine nE.iast (n := 470) dX7_init_86 (by have := I9.1; omega) (I9.2.2.2.2.2 0 (by decide)).1 (by show ¬ ((0 : Int32) < 0 ∨ 470 ≤ (0 : Int32).toNatClampNeg); decide +kernel) ?_
  refine nE.aload_n (q := q) dX7_init_87 rfl ?_
  refine nE.getf (w := rf h0.2) dX7_init_88 f7_7 rfl (by have := I9.1; show q < X9.2; omega) (nSet_k'.trans I9.2.2.1) (by rw [nSet_ne (by omega)]; exact I9.2.2.2.1 0 (by decide)) ?_
  refine nE.iconst (v := 1) dX7_init_91 (by decide +kernel) ?_
  refine nE.iconst (v := 1) dX7_init_92 (by decide +kernel) ?_
  refine nE.iast (n := 470) dX7_init_93 (by have := I9.1; show h0.2 < X9.2; omega) (nSet_k'.trans (I9.2.2.2.2.2 0 (by decide)).1) (by show ¬ ((1 : Int32) < 0 ∨ 470 ≤ (1 : Int32).toNatClampNeg); decide +kernel) ?_
  have e0 : (0 : Int32).toNatClampNeg = 0 := by decide +kernel
  have e1 : (1 : Int32).toNatClampNeg = 1 := by decide +kernel
  rw [e0, e1]
  exact nE.vret dX7_init_94 rfl (Nat.le_of_ble_eq_true rfl) (Nat.le_of_ble_eq_true rfl) (kk _ (mod_end I9 hq))
