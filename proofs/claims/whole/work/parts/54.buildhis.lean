/-! the constructors: History, Slots -/
theorem zt4 {a : Nat} (h1 : 4 ≤ a) : zV (tyX4 a) = vI 0 := by
  unfold tyX4
  split <;> first | rfl | omega
theorem RD.keep {g g2 : Nat → nO} {q c : Nat} (hg : ∀ y, y = q ∨ (c ≤ y ∧ y < c + 50) → g2 y = g y) (R : RD g q c 40 6 80) : RD g2 q c 40 6 80 := by
  obtain ⟨ro, ca, lo, ta, mo, cs, ls⟩ := R
  refine ⟨?_, ?_, ?_, ?_, ?_, fun j hj => ?_, fun j hj => ?_⟩
  · rw [hg q (Or.inl rfl)]
    exact ro
  · rw [hg c (Or.inr (by omega))]
    exact ca
  · rw [hg (c + 1) (Or.inr (by omega))]
    exact lo
  · rw [hg (c + 2) (Or.inr (by omega))]
    exact ta
  · rw [hg (c + 3) (Or.inr (by omega))]
    exact mo
  · rw [hg (c + 4 + j) (Or.inr (by omega))]
    exact cs j hj
  · rw [hg (c + 44 + j) (Or.inr (by omega))]
    exact ls j hj
/-- a road made behind h -/
def Mkd (h X : nH) : Prop := X.2 = h.2 + 51 ∧ (∀ y, y < h.2 → X.1 y = h.1 y) ∧ RD X.1 h.2 (h.2 + 1) 40 6 80
theorem mkd_of {h X : nH} (I : RdI (nPush h (.inl 4, fun j => zV (tyX4 j))) h.2 40 6 80 X) : Mkd h X := by
  obtain ⟨e, fr, rd⟩ := I
  have e : X.2 = h.2 + 1 + 4 + 40 + 6 := e
  refine ⟨by omega, fun y hy => ?_, rd⟩
  rw [fr y (Nat.lt_succ_of_lt hy) (Nat.ne_of_lt hy), nPush_ne (Nat.ne_of_lt hy)]
/-- a row of roads at a, the roads from b on -/
def RoI (g : Nat → nO) (a b n N : Nat) : Prop := ((g a).1 = .inr (.object RX4, N) ∧ ∀ j, j < n → (g a).2 j = vQ (b + 51 * j)) ∧ ∀ j, j < n → RD g (b + 51 * j) (b + 51 * j + 1) 40 6 80
theorem RoI.step {h X : nH} {a b i k N : Nat} (R : RoI h.1 a b i N) (e : h.2 = b + 51 * i) (ha : a < b) (m : Mkd h X) (hk : k = i) : RoI (nSet X a k (vQ h.2)).1 a b (i + 1) N := by
  subst hk
  refine ⟨arr_step (f := fun j => vQ (b + 51 * j)) (m.2.1 a (by omega)) R.1.1 R.1.2 (by rw [e]), fun j hj => ?_⟩
  by_cases z : j = k
  · rw [z, ← e]
    exact m.2.2.keep (fun y hy => nSet_ne (by omega))
  · exact (R.2 j (by omega)).keep (fun y hy => by rw [nSet_ne (by omega), m.2.1 y (by omega)])
theorem RoI.keep {g g2 : Nat → nO} {a b n N : Nat} (hg : ∀ y, y = a ∨ (b ≤ y ∧ y < b + 51 * n) → g2 y = g y) (R : RoI g a b n N) : RoI g2 a b n N := by
  refine ⟨?_, fun j hj => (R.2 j hj).keep (fun y hy => hg y (Or.inr (by omega)))⟩
  rw [hg a (Or.inl rfl)]
  exact R.1
def HiI (h0 : nH) (q i : Nat) (h : nH) : Prop := h.2 = h0.2 + 1 + 51 * i ∧ (∀ y, y < h0.2 → y ≠ q → h.1 y = h0.1 y) ∧ ((h.1 q).1 = .inl 1 ∧ (h.1 q).2 0 = vQ h0.2 ∧ (h.1 q).2 1 = vI 0 ∧ (h.1 q).2 2 = vI 0) ∧ RoI h.1 h0.2 (h0.2 + 1) i 7
def SlI (h0 : nH) (q i : Nat) (h : nH) : Prop := h.2 = h0.2 + 2 + 51 * i ∧ (∀ y, y < h0.2 → y ≠ q → h.1 y = h0.1 y) ∧ ((h.1 q).1 = .inl 5 ∧ (h.1 q).2 0 = vQ h0.2 ∧ (h.1 q).2 1 = vQ (h0.2 + 1)) ∧ RoI h.1 h0.2 (h0.2 + 2) i 2 ∧ (h.1 (h0.2 + 1)).1 = .inr (.boolean, 2) ∧ ∀ j, (h.1 (h0.2 + 1)).2 j = vI 0
theorem HiI.step {h0 h X : nH} {q i k : Nat} (I : HiI h0 q i h) (hq : q < h0.2) (m : Mkd h X) (hk : k = i) : HiI h0 q (i + 1) (nSet X h0.2 k (vQ h.2)) := by
  obtain ⟨e, fr, ho, R⟩ := I
  have F : ∀ y, y < h.2 → y ≠ h0.2 → (nSet X h0.2 k (vQ h.2)).1 y = h.1 y := fun y a b => by rw [nSet_ne b, m.2.1 y a]
  refine ⟨?_, fun y h1 h2 => ?_, ?_, R.step e (by omega) m hk⟩
  · show X.2 = _
    rw [m.1]
    omega
  · rw [F y (by omega) (by omega)]
    exact fr y h1 h2
  · rw [F q (by omega) (by omega)]
    exact ho
theorem SlI.step {h0 h X : nH} {q i k : Nat} (I : SlI h0 q i h) (hq : q < h0.2) (m : Mkd h X) (hk : k = i) : SlI h0 q (i + 1) (nSet X h0.2 k (vQ h.2)) := by
  obtain ⟨e, fr, ho, R, sa⟩ := I
  have F : ∀ y, y < h.2 → y ≠ h0.2 → (nSet X h0.2 k (vQ h.2)).1 y = h.1 y := fun y a b => by rw [nSet_ne b, m.2.1 y a]
  refine ⟨?_, fun y h1 h2 => ?_, ?_, R.step e (by omega) m hk, ?_⟩
  · show X.2 = _
    rw [m.1]
    omega
  · rw [F y (by omega) (by omega)]
    exact fr y h1 h2
  · rw [F q (by omega) (by omega)]
    exact ho
  · rw [F (h0.2 + 1) (by omega) (by omega)]
    exact sa
section HISW
variable {q : Nat} {h0 : nH} {K : nH → Prop}
theorem mk_road {M : mM} {Z : Nat × Nat} {pc i1 i2 nc ns q2 : Nat} {j : Int32} {l : List mV} {h : nH} {Q : nH → Prop} (d1 : decode M.2.1 pc = .ok (.new i1, 3)) (d2 : decode M.2.1 (pc + 3) = .ok (.dup, 1)) (d3 : decode M.2.1 (pc + 4) = .ok (.invokespecial i2, 3)) (d4 : decode M.2.1 (pc + 7) = .ok (.aastore, 1)) (cl : Jvm.Cond.classLink M.1.cls i1 RX4 ∈ TB) (F : CfI M.1.cls M4_init i2 0) (hro : 3 ≤ M.2.2.2.2.1 ∧ 62 ≤ M.2.2.2.2.2) (h1 : nc + 51 ≤ Z.1) (h2 : ns + 669 ≤ Z.2) {n : Nat} (hq : q2 < h.2) (hk : (h.1 q2).1 = .inr (.object RX4, n)) (hin : vp_in j n) (kk : ∀ X, Mkd h X → nE M Z (pc + 8) l [] (nSet X q2 j.toNatClampNeg (vQ h.2)) (nc + 51) (ns + 669) Q) : nE M Z pc l [vI j, vQ q2] h nc ns Q := by
  refine nE.new (k := 0) d1 cls4 cl (tb_of 70 (by decide +kernel) rfl) (tb_of 53 (by decide +kernel) rfl) tyX4 tyX4_ok zok4 (by omega) (by show ns + 9 ≤ _; omega) ?_
  refine nE.dupR d2 ?_
  refine nE.call (M2 := M4_init) (Z2 := (50, 660)) (as := []) (K := fun X => RdI (nPush h (.inl 4, fun j => zV (tyX4 j))) h.2 40 6 80 X) d3 F ⟨hro.1, hro.2⟩ rfl rfl (by show 1 ≤ 2; decide) (fun _ => Nat.le_of_ble_eq_true rfl) (by show nc + 1 + 50 ≤ _; omega) (by show ns + 9 + 660 ≤ _; omega) (n4_init (Nat.lt_succ_self _) (by rw [nPush_eq rfl]) (fun a a1 _ => by rw [nPush_eq rfl]; exact zt4 a1) (fun h I => I)) (fun X I => ?_)
  have m := mkd_of I
  refine nE.aast (T := TX4) (z := 9) d4 (by have := m.1; omega) (by rw [m.2.1 q2 hq]; exact hk) in_ATs_4 (by have := m.1; omega) m.2.2.1.1 rfl hin ?_
  exact kk X m
theorem n1_rds (hq : q < h0.2) (kk : ∀ h, HiI h0 q 7 h → K h) : ∀ (n i : Nat) (h : nH) (nc ns : Nat), i + n = 7 → nc = 1 + 51 * i → ns = 7 + 669 * i → HiI h0 q i h → nE M1_init (358, 4690) 15 [vQ q, vI (nI i)] [] h nc ns K := by
  intro n
  induction n with
  | zero =>
    intro i h nc ns hi hc hs I
    have hi : i = 7 := by omega
    subst hi
    refine nE.iload_n (x := nI 7) dX1_init_15 rfl ?_
    refine nE.aload_n (q := q) dX1_init_16 rfl ?_
    refine nE.getf (w := rf h0.2) dX1_init_17 f1_11 rfl (by have := I.1; omega) I.2.2.1.1 I.2.2.1.2.1 ?_
    refine nE.alen (v := nI 7) dX1_init_20 (by have := I.1; omega) I.2.2.2.1.1 in_ATs_4 rfl ?_
    refine nE.icmp_ge (tgt := 43) dX1_init_21 rfl (fun _ => ?_) (fun z => absurd (nI_le (Nat.le_refl 7) (by decide)) z)
    exact nE.vret dX1_init_43 rfl (by show nc ≤ 358; omega) (by show ns ≤ 4690; omega) (kk h I)
  | succ n ih =>
    intro i h nc ns hi hc hs I
    refine nE.iload_n (x := nI i) dX1_init_15 rfl ?_
    refine nE.aload_n (q := q) dX1_init_16 rfl ?_
    refine nE.getf (w := rf h0.2) dX1_init_17 f1_11 rfl (by have := I.1; omega) I.2.2.1.1 I.2.2.1.2.1 ?_
    refine nE.alen (v := nI 7) dX1_init_20 (by have := I.1; omega) I.2.2.2.1.1 in_ATs_4 rfl ?_
    refine nE.icmp_ge (tgt := 43) dX1_init_21 rfl (fun z => absurd z (nI_ge (by omega) (by decide))) (fun _ => ?_)
    refine nE.aload_n (q := q) dX1_init_24 rfl ?_
    refine nE.getf (w := rf h0.2) dX1_init_25 f1_11 rfl (by have := I.1; omega) I.2.2.1.1 I.2.2.1.2.1 ?_
    refine nE.iload_n (x := nI i) dX1_init_28 rfl ?_
    refine mk_road dX1_init_29 dX1_init_32 dX1_init_33 dX1_init_36 (tb_of 233 (by decide +kernel) rfl) ci1_17 ⟨by decide, by decide⟩ (by show _ ≤ 358; omega) (by show _ ≤ 4690; omega) (by have := I.1; omega) I.2.2.2.1.1 (vp_in_nI (by omega) (by decide)) (fun X m => ?_)
    refine nE.iinc (l2 := [vQ q, vI (nI (i + 1))]) dX1_init_37 (x := nI i) rfl (inc_nI i) (by decide) rfl ?_
    refine nE.goto (tgt := 15) dX1_init_40 rfl ?_
    exact ih (i + 1) _ _ _ (by omega) (by omega) (by omega) (I.step hq m (nI_clamp (by omega)))
theorem n1_init (hq : q < h0.2) (hk : (h0.1 q).1 = .inl 1) (hz : ∀ a, 1 ≤ a → a < 3 → (h0.1 q).2 a = vI 0) (kk : ∀ h, HiI h0 q 7 h → K h) : nE M1_init (358, 4690) 0 (l0M M1_init [rf q]) [] h0 0 0 K := by
  refine nE.aload_n (q := q) dX1_init_0 rfl ?_
  refine nE.oinit dX1_init_1 oi_1 oi_i oi_c ⟨by decide, by decide⟩ ?_
  refine nE.aload_n (q := q) dX1_init_4 rfl ?_
  refine nE.bipush (v := 7) dX1_init_5 (by decide +kernel) ?_
  refine nE.anew (N := 7) dX1_init_7 (Or.inr (Or.inr rfl)) (tb_of 233 (by decide +kernel) rfl) (by decide +kernel) (by decide +kernel) (Nat.le_of_ble_eq_true rfl) (Nat.le_of_ble_eq_true rfl) (Nat.le_of_ble_eq_true rfl) ?_
  refine nE.putF (w := rf h0.2) dX1_init_10 fin1_11 rfl (Nat.lt_succ_of_lt hq) ((psh_k hq).trans hk) (fun _ => rfl) (fun _ => rfl) ?_
  refine nE.iconst (v := nI 0) dX1_init_13 (by decide +kernel) ?_
  refine nE.istore_n (l2 := [vQ q, vI (nI 0)]) dX1_init_14 (by decide) rfl ?_
  refine n1_rds hq kk 7 0 _ 1 7 rfl rfl rfl ⟨rfl, fun y h1 h2 => ?_, ⟨?_, ?_, ?_, ?_⟩, ⟨?_, fun j hj => by omega⟩, fun j hj => by omega⟩
  · rw [nSet_ne h2, nPush_ne (Nat.ne_of_lt h1)]
  · rw [nSet_k, psh_k hq]
    exact hk
  · rw [nSet_at rfl]
  · rw [nSet_ot (by decide), nPush_ne (Nat.ne_of_lt hq)]
    exact hz 1 (by decide) (by decide)
  · rw [nSet_ot (by decide), nPush_ne (Nat.ne_of_lt hq)]
    exact hz 2 (by decide) (by decide)
  · rw [nSet_ne (Nat.ne_of_gt hq), nPush_eq rfl]
theorem n5_rds (hq : q < h0.2) (kk : ∀ h, SlI h0 q 2 h → K h) : ∀ (n i : Nat) (h : nH) (nc ns : Nat), i + n = 2 → nc = 2 + 51 * i → ns = 4 + 669 * i → SlI h0 q i h → nE M5_init (104, 1342) 21 [vQ q, vI (nI i)] [] h nc ns K := by
  intro n
  induction n with
  | zero =>
    intro i h nc ns hi hc hs I
    have hi : i = 2 := by omega
    subst hi
    refine nE.iload_n (x := nI 2) dX5_init_21 rfl ?_
    refine nE.aload_n (q := q) dX5_init_22 rfl ?_
    refine nE.getf (w := rf h0.2) dX5_init_23 f5_11 rfl (by have := I.1; omega) I.2.2.1.1 I.2.2.1.2.1 ?_
    refine nE.alen (v := nI 2) dX5_init_26 (by have := I.1; omega) I.2.2.2.1.1.1 in_ATs_4 rfl ?_
    refine nE.icmp_ge (tgt := 49) dX5_init_27 rfl (fun _ => ?_) (fun z => absurd (nI_le (Nat.le_refl 2) (by decide)) z)
    exact nE.vret dX5_init_49 rfl (by show nc ≤ 104; omega) (by show ns ≤ 1342; omega) (kk h I)
  | succ n ih =>
    intro i h nc ns hi hc hs I
    refine nE.iload_n (x := nI i) dX5_init_21 rfl ?_
    refine nE.aload_n (q := q) dX5_init_22 rfl ?_
    refine nE.getf (w := rf h0.2) dX5_init_23 f5_11 rfl (by have := I.1; omega) I.2.2.1.1 I.2.2.1.2.1 ?_
    refine nE.alen (v := nI 2) dX5_init_26 (by have := I.1; omega) I.2.2.2.1.1.1 in_ATs_4 rfl ?_
    refine nE.icmp_ge (tgt := 49) dX5_init_27 rfl (fun z => absurd z (nI_ge (by omega) (by decide))) (fun _ => ?_)
    refine nE.aload_n (q := q) dX5_init_30 rfl ?_
    refine nE.getf (w := rf h0.2) dX5_init_31 f5_11 rfl (by have := I.1; omega) I.2.2.1.1 I.2.2.1.2.1 ?_
    refine nE.iload_n (x := nI i) dX5_init_34 rfl ?_
    refine mk_road dX5_init_35 dX5_init_38 dX5_init_39 dX5_init_42 (tb_of 253 (by decide +kernel) rfl) ci5_21 ⟨by decide, by decide⟩ (by show _ ≤ 104; omega) (by show _ ≤ 1342; omega) (by have := I.1; omega) I.2.2.2.1.1.1 (vp_in_nI (by omega) (by decide)) (fun X m => ?_)
    refine nE.iinc (l2 := [vQ q, vI (nI (i + 1))]) dX5_init_43 (x := nI i) rfl (inc_nI i) (by decide) rfl ?_
    refine nE.goto (tgt := 21) dX5_init_46 rfl ?_
    exact ih (i + 1) _ _ _ (by omega) (by omega) (by omega) (I.step hq m (nI_clamp (by omega)))
theorem n5_init (hq : q < h0.2) (hk : (h0.1 q).1 = .inl 5) (kk : ∀ h, SlI h0 q 2 h → K h) : nE M5_init (104, 1342) 0 (l0M M5_init [rf q]) [] h0 0 0 K := by
  refine nE.aload_n (q := q) dX5_init_0 rfl ?_
  refine nE.oinit dX5_init_1 oi_5 oi_i oi_c ⟨by decide, by decide⟩ ?_
  refine nE.aload_n (q := q) dX5_init_4 rfl ?_
  refine nE.iconst (v := 2) dX5_init_5 (by decide +kernel) ?_
  refine nE.anew (N := 2) dX5_init_6 (Or.inr (Or.inr rfl)) (tb_of 253 (by decide +kernel) rfl) (by decide +kernel) (by decide +kernel) (Nat.le_of_ble_eq_true rfl) (Nat.le_of_ble_eq_true rfl) (Nat.le_of_ble_eq_true rfl) ?_
  refine nE.putF (w := rf h0.2) dX5_init_9 fin5_11 rfl (Nat.lt_succ_of_lt hq) ((psh_k hq).trans hk) (fun _ => rfl) (fun _ => rfl) ?_
  refine nE.aload_n (q := q) dX5_init_12 rfl ?_
  refine nE.iconst (v := 2) dX5_init_13 (by decide +kernel) ?_
  refine nE.newa (t := .boolean) (N := 2) dX5_init_14 rfl acB (fun _ => rfl) (by decide +kernel) (by decide +kernel) (Nat.le_of_ble_eq_true rfl) (Nat.le_of_ble_eq_true rfl) (Nat.le_of_ble_eq_true rfl) ?_
  refine nE.putF (w := rf (h0.2 + 1)) dX5_init_16 fin5_17 rfl (by show q < h0.2 + 2; omega) ((psh_k (by show q < h0.2 + 1; omega)).trans (nSet_k.trans ((psh_k hq).trans hk))) (fun _ => rfl) (fun _ => rfl) ?_
  refine nE.iconst (v := nI 0) dX5_init_19 (by decide +kernel) ?_
  refine nE.istore_n (l2 := [vQ q, vI (nI 0)]) dX5_init_20 (by decide) rfl ?_
  refine n5_rds hq kk 2 0 _ 2 4 rfl rfl rfl ⟨rfl, fun y h1 h2 => ?_, ⟨?_, ?_, ?_⟩, ⟨⟨?_, fun j hj => by omega⟩, fun j hj => by omega⟩, ?_, fun j => ?_⟩
  · rw [nSet_ne h2, nPush_ne (by show y ≠ h0.2 + 1; omega), nSet_ne h2, nPush_ne (Nat.ne_of_lt h1)]
  · rw [nSet_k, psh_k (by show q < h0.2 + 1; omega), nSet_k, psh_k hq]
    exact hk
  · rw [nSet_ot (by decide), nPush_ne (by show q ≠ h0.2 + 1; omega), nSet_at rfl]
  · rw [nSet_at rfl]
  · rw [nSet_ne (Nat.ne_of_gt hq), nPush_ne (by show h0.2 ≠ h0.2 + 1; omega), nSet_ne (Nat.ne_of_gt hq), nPush_eq rfl]
  · rw [nSet_ne (by omega), nPush_eq (by rfl)]
  · rw [nSet_ne (by omega), nPush_eq (by rfl)]
    rfl
end HISW
