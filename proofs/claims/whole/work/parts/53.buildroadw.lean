/-! the constructors: Road's walk -/
theorem psh_k {h : nH} {o : nO} {q : Nat} (hq : q < h.2) : ((nPush h o).1 q).1 = (h.1 q).1 := by rw [nPush_ne (Nat.ne_of_lt hq)]
theorem inc_nI (i : Nat) : nI i + Int32.ofInt 1 = nI (i + 1) := nI_1 i
theorem in_ATs_0 : FieldType.object RX0 ∈ ATs := List.mem_of_getElem? (i := 3) rfl
theorem in_ATs_2 : FieldType.object RX2 ∈ ATs := List.mem_of_getElem? (i := 4) rfl
theorem in_ATs_4 : FieldType.object RX4 ∈ ATs := List.mem_of_getElem? (i := 5) rfl
theorem in_ATs_i : FieldType.int ∈ ATs := List.mem_of_getElem? (i := 0) rfl
section ROADW
variable {q : Nat} {h0 : nH} {K : nH → Prop}
theorem n4_tak (hq : q < h0.2) (kk : ∀ h, RdI h0 q 40 6 80 h → K h) : ∀ (n i : Nat) (h : nH), i + n = 80 → RdI h0 q 40 6 i h → nE M4_init (50, 660) 112 [vQ q, vI (nI i)] [] h 50 660 K := by
  intro n
  induction n with
  | zero =>
    intro i h hi I
    have hi : i = 80 := by omega
    subst hi
    refine nE.iload_n (x := nI 80) dX4_init_112 rfl ?_
    refine nE.aload_n (q := q) dX4_init_113 rfl ?_
    refine nE.getf (w := rf (h0.2 + 2)) dX4_init_114 f4_23 rfl (by have := I.1; omega) I.2.2.1.1 I.2.2.1.2.1.2.2.1 ?_
    refine nE.alen (v := nI 80) dX4_init_117 (by have := I.1; omega) I.2.2.2.2.2.1.1 in_ATs_i rfl ?_
    refine nE.icmp_ge (tgt := 135) dX4_init_118 rfl (fun _ => ?_) (fun z => absurd (nI_le (Nat.le_refl 80) (by decide)) z)
    exact nE.vret dX4_init_135 rfl (Nat.le_refl _) (Nat.le_refl _) (kk h I)
  | succ n ih =>
    intro i h hi I
    refine nE.iload_n (x := nI i) dX4_init_112 rfl ?_
    refine nE.aload_n (q := q) dX4_init_113 rfl ?_
    refine nE.getf (w := rf (h0.2 + 2)) dX4_init_114 f4_23 rfl (by have := I.1; omega) I.2.2.1.1 I.2.2.1.2.1.2.2.1 ?_
    refine nE.alen (v := nI 80) dX4_init_117 (by have := I.1; omega) I.2.2.2.2.2.1.1 in_ATs_i rfl ?_
    refine nE.icmp_ge (tgt := 135) dX4_init_118 rfl (fun z => absurd z (nI_ge (by omega) (by decide))) (fun _ => ?_)
    refine nE.aload_n (q := q) dX4_init_121 rfl ?_
    refine nE.getf (w := rf (h0.2 + 2)) dX4_init_122 f4_23 rfl (by have := I.1; omega) I.2.2.1.1 I.2.2.1.2.1.2.2.1 ?_
    refine nE.iload_n (x := nI i) dX4_init_125 rfl ?_
    refine nE.bipush (v := -6) dX4_init_126 (by decide +kernel) ?_
    refine nE.iast dX4_init_128 (by have := I.1; omega) I.2.2.2.2.2.1.1 (vp_in_nI (by omega) (by decide)) ?_
    refine nE.iinc (l2 := [vQ q, vI (nI (i + 1))]) dX4_init_129 (x := nI i) rfl (inc_nI i) (by decide) rfl ?_
    refine nE.goto (tgt := 112) dX4_init_132 rfl ?_
    exact ih (i + 1) _ (by omega) (RdI_tak I hq (nI_clamp (by omega)))
theorem n4_lop (hq : q < h0.2) (kk : ∀ h, RdI h0 q 40 6 80 h → K h) : ∀ (n i : Nat) (h : nH) (nc ns : Nat), i + n = 6 → nc = 44 + i → ns = 606 + 9 * i → RdI h0 q 40 i 0 h → nE M4_init (50, 660) 82 [vQ q, vI (nI i)] [] h nc ns K := by
  intro n
  induction n with
  | zero =>
    intro i h nc ns hi hc hs I
    have hi : i = 6 := by omega
    subst hi
    have hc : nc = 50 := by omega
    have hs : ns = 660 := by omega
    subst hc hs
    refine nE.iload_n (x := nI 6) dX4_init_82 rfl ?_
    refine nE.aload_n (q := q) dX4_init_83 rfl ?_
    refine nE.getf (w := rf (h0.2 + 1)) dX4_init_84 f4_19 rfl (by have := I.1; omega) I.2.2.1.1 I.2.2.1.2.1.2.1 ?_
    refine nE.alen (v := nI 6) dX4_init_87 (by have := I.1; omega) I.2.2.2.2.1.1 in_ATs_2 rfl ?_
    refine nE.icmp_ge (tgt := 110) dX4_init_88 rfl (fun _ => ?_) (fun z => absurd (nI_le (Nat.le_refl 6) (by decide)) z)
    refine nE.iconst (v := nI 0) dX4_init_110 (by decide +kernel) ?_
    refine nE.istore_n (l2 := [vQ q, vI (nI 0)]) dX4_init_111 (by decide) rfl ?_
    exact n4_tak hq kk 80 0 h rfl I
  | succ n ih =>
    intro i h nc ns hi hc hs I
    refine nE.iload_n (x := nI i) dX4_init_82 rfl ?_
    refine nE.aload_n (q := q) dX4_init_83 rfl ?_
    refine nE.getf (w := rf (h0.2 + 1)) dX4_init_84 f4_19 rfl (by have := I.1; omega) I.2.2.1.1 I.2.2.1.2.1.2.1 ?_
    refine nE.alen (v := nI 6) dX4_init_87 (by have := I.1; omega) I.2.2.2.2.1.1 in_ATs_2 rfl ?_
    refine nE.icmp_ge (tgt := 110) dX4_init_88 rfl (fun z => absurd z (nI_ge (by omega) (by decide))) (fun _ => ?_)
    refine nE.aload_n (q := q) dX4_init_91 rfl ?_
    refine nE.getf (w := rf (h0.2 + 1)) dX4_init_92 f4_19 rfl (by have := I.1; omega) I.2.2.1.1 I.2.2.1.2.1.2.1 ?_
    refine nE.iload_n (x := nI i) dX4_init_95 rfl ?_
    refine nE.new (k := 6) dX4_init_96 cls2 (tb_of 77 (by decide +kernel) rfl) (tb_of 133 (by decide +kernel) rfl) (tb_of 55 (by decide +kernel) rfl) tyX2 tyX2_ok zok2 (by show _ ≤ 50; omega) (by show _ + 9 ≤ 660; omega) ?_
    refine nE.dupR dX4_init_99 ?_
    refine nE.call (M2 := M2_init) (Z2 := (0, 0)) (as := []) (K := fun h1 => h1 = nPush h (.inl 2, fun j => zV (tyX2 j))) dX4_init_100 ci4_40 ⟨by decide, by decide⟩ rfl rfl (by show 1 ≤ 1; decide) (fun _ => Nat.le_of_ble_eq_true rfl) (by show _ ≤ 50; omega) (by show _ + 9 + 0 ≤ 660; omega) (n2_init rfl) (fun h1 e => ?_)
    subst e
    refine nE.aast (T := TX2) (z := 9) dX4_init_103 (by show _ < h.2 + 1; have := I.1; omega) (by rw [psh_k (by have := I.1; omega)]; exact I.2.2.2.2.1.1) in_ATs_2 (Nat.lt_succ_self _) (by rw [nPush_eq rfl]) rfl (vp_in_nI (by omega) (by decide)) ?_
    refine nE.iinc (l2 := [vQ q, vI (nI (i + 1))]) dX4_init_104 (x := nI i) rfl (inc_nI i) (by decide) rfl ?_
    refine nE.goto (tgt := 82) dX4_init_107 rfl ?_
    exact ih (i + 1) _ _ _ (by omega) (by show nc + 1 + 0 = _; omega) (by show ns + 9 + 0 = _; omega) (RdI_lop I hq (nI_clamp (by omega)))
theorem n4_car (hq : q < h0.2) (kk : ∀ h, RdI h0 q 40 6 80 h → K h) : ∀ (n i : Nat) (h : nH) (nc ns : Nat), i + n = 40 → nc = 4 + i → ns = 166 + 11 * i → RdI h0 q i 0 0 h → nE M4_init (50, 660) 51 [vQ q, vI (nI i)] [] h nc ns K := by
  intro n
  induction n with
  | zero =>
    intro i h nc ns hi hc hs I
    have hi : i = 40 := by omega
    subst hi
    refine nE.iload_n (x := nI 40) dX4_init_51 rfl ?_
    refine nE.aload_n (q := q) dX4_init_52 rfl ?_
    refine nE.getf (w := rf h0.2) dX4_init_53 f4_11 rfl (by have := I.1; omega) I.2.2.1.1 I.2.2.1.2.1.1 ?_
    refine nE.alen (v := nI 40) dX4_init_56 (by have := I.1; omega) I.2.2.2.1.1 in_ATs_0 rfl ?_
    refine nE.icmp_ge (tgt := 80) dX4_init_57 rfl (fun _ => ?_) (fun z => absurd (nI_le (Nat.le_refl 40) (by decide)) z)
    refine nE.iconst (v := nI 0) dX4_init_80 (by decide +kernel) ?_
    refine nE.istore_n (l2 := [vQ q, vI (nI 0)]) dX4_init_81 (by decide) rfl ?_
    exact n4_lop hq kk 6 0 h nc ns rfl (by omega) (by omega) I
  | succ n ih =>
    intro i h nc ns hi hc hs I
    refine nE.iload_n (x := nI i) dX4_init_51 rfl ?_
    refine nE.aload_n (q := q) dX4_init_52 rfl ?_
    refine nE.getf (w := rf h0.2) dX4_init_53 f4_11 rfl (by have := I.1; omega) I.2.2.1.1 I.2.2.1.2.1.1 ?_
    refine nE.alen (v := nI 40) dX4_init_56 (by have := I.1; omega) I.2.2.2.1.1 in_ATs_0 rfl ?_
    refine nE.icmp_ge (tgt := 80) dX4_init_57 rfl (fun z => absurd z (nI_ge (by omega) (by decide))) (fun _ => ?_)
    refine nE.aload_n (q := q) dX4_init_60 rfl ?_
    refine nE.getf (w := rf h0.2) dX4_init_61 f4_11 rfl (by have := I.1; omega) I.2.2.1.1 I.2.2.1.2.1.1 ?_
    refine nE.iload_n (x := nI i) dX4_init_64 rfl ?_
    refine nE.new (k := 5) dX4_init_65 cls0 (tb_of 75 (by decide +kernel) rfl) (tb_of 79 (by decide +kernel) rfl) (tb_of 54 (by decide +kernel) rfl) tyX0 tyX0_ok zok0 (by show _ ≤ 50; omega) (by show _ + 11 ≤ 660; omega) ?_
    refine nE.dupR dX4_init_68 ?_
    refine nE.iload_n (x := nI i) dX4_init_69 rfl ?_
    refine nE.call (M2 := M0_init) (Z2 := (0, 0)) (as := [.inl (nI i)]) (K := fun h1 => h1 = nSet (nPush h (.inl 0, fun j => zV (tyX0 j))) h.2 0 (vI (nI i))) dX4_init_70 ci4_37 ⟨by decide, by decide⟩ rfl rfl (by show 2 ≤ 2; decide) (fun _ => Nat.le_of_ble_eq_true rfl) (by show _ ≤ 50; omega) (by show _ + 11 + 0 ≤ 660; omega) (n0_init (Nat.lt_succ_self _) (by rw [nPush_eq rfl]) rfl) (fun h1 e => ?_)
    subst e
    refine nE.aast (T := TX0) (z := 11) dX4_init_73 (by show _ < h.2 + 1; have := I.1; omega) (by rw [nSet_k', psh_k (by have := I.1; omega)]; exact I.2.2.2.1.1) in_ATs_0 (Nat.lt_succ_self _) (by rw [nSet_k', nPush_eq rfl]) rfl (vp_in_nI (by omega) (by decide)) ?_
    refine nE.iinc (l2 := [vQ q, vI (nI (i + 1))]) dX4_init_74 (x := nI i) rfl (inc_nI i) (by decide) rfl ?_
    refine nE.goto (tgt := 51) dX4_init_77 rfl ?_
    exact ih (i + 1) _ _ _ (by omega) (by show nc + 1 + 0 = _; omega) (by show ns + 11 + 0 = _; omega) (RdI_car I hq rfl (nI_clamp (by omega)))
theorem n4_init (hq : q < h0.2) (hk : (h0.1 q).1 = .inl 4) (hz : ∀ a, 4 ≤ a → a < 9 → (h0.1 q).2 a = vI 0) (kk : ∀ h, RdI h0 q 40 6 80 h → K h) : nE M4_init (50, 660) 0 (l0M M4_init [rf q]) [] h0 0 0 K := by
  refine nE.aload_n (q := q) dX4_init_0 rfl ?_
  refine nE.oinit dX4_init_1 oi_4 oi_i oi_c ⟨by decide, by decide⟩ ?_
  refine nE.aload_n (q := q) dX4_init_4 rfl ?_
  refine nE.bipush (v := 40) dX4_init_5 (by decide +kernel) ?_
  refine nE.anew (N := 40) dX4_init_7 (Or.inl rfl) (tb_of 75 (by decide +kernel) rfl) (by decide +kernel) (by decide +kernel) (Nat.le_of_ble_eq_true rfl) (Nat.le_of_ble_eq_true rfl) (Nat.le_of_ble_eq_true rfl) ?_
  refine nE.putF (w := rf (h0.2 + 0)) dX4_init_10 fin4_11 rfl (by show q < h0.2 + 1; omega) ((psh_k (by show q < h0.2 + 0; omega)).trans hk) (fun _ => rfl) (fun _ => rfl) ?_
  refine nE.aload_n (q := q) dX4_init_13 rfl ?_
  refine nE.bipush (v := 6) dX4_init_14 (by decide +kernel) ?_
  refine nE.anew (N := 6) dX4_init_16 (Or.inr (Or.inl rfl)) (tb_of 77 (by decide +kernel) rfl) (by decide +kernel) (by decide +kernel) (Nat.le_of_ble_eq_true rfl) (Nat.le_of_ble_eq_true rfl) (Nat.le_of_ble_eq_true rfl) ?_
  refine nE.putF (w := rf (h0.2 + 1)) dX4_init_19 fin4_19 rfl (by show q < h0.2 + 2; omega) ((psh_k (by show q < h0.2 + 1; omega)).trans (nSet_k'.trans ((psh_k (by show q < h0.2 + 0; omega)).trans hk))) (fun _ => rfl) (fun _ => rfl) ?_
  refine nE.aload_n (q := q) dX4_init_22 rfl ?_
  refine nE.bipush (v := 80) dX4_init_23 (by decide +kernel) ?_
  refine nE.newa (t := .int) (N := 80) dX4_init_25 rfl acI (fun _ => rfl) (by decide +kernel) (by decide +kernel) (Nat.le_of_ble_eq_true rfl) (Nat.le_of_ble_eq_true rfl) (Nat.le_of_ble_eq_true rfl) ?_
  refine nE.putF (w := rf (h0.2 + 2)) dX4_init_27 fin4_23 rfl (by show q < h0.2 + 3; omega) ((psh_k (by show q < h0.2 + 2; omega)).trans (nSet_k'.trans ((psh_k (by show q < h0.2 + 1; omega)).trans (nSet_k'.trans ((psh_k (by show q < h0.2 + 0; omega)).trans hk))))) (fun _ => rfl) (fun _ => rfl) ?_
  refine nE.aload_n (q := q) dX4_init_30 rfl ?_
  refine nE.bipush (v := 40) dX4_init_31 (by decide +kernel) ?_
  refine nE.anew (N := 40) dX4_init_33 (Or.inl rfl) (tb_of 75 (by decide +kernel) rfl) (by decide +kernel) (by decide +kernel) (Nat.le_of_ble_eq_true rfl) (Nat.le_of_ble_eq_true rfl) (Nat.le_of_ble_eq_true rfl) ?_
  refine nE.putF (w := rf (h0.2 + 3)) dX4_init_36 fin4_27 rfl (by show q < h0.2 + 4; omega) ((psh_k (by show q < h0.2 + 3; omega)).trans (nSet_k'.trans ((psh_k (by show q < h0.2 + 2; omega)).trans (nSet_k'.trans ((psh_k (by show q < h0.2 + 1; omega)).trans (nSet_k'.trans ((psh_k (by show q < h0.2 + 0; omega)).trans hk))))))) (fun _ => rfl) (fun _ => rfl) ?_
  refine nE.aload_n (q := q) dX4_init_39 rfl ?_
  refine nE.iconst (v := 1) dX4_init_40 (by decide +kernel) ?_
  refine nE.putf (w := .inl 1) dX4_init_41 p4_30 rfl (by show q < h0.2 + 4; omega) (nSet_k'.trans ((psh_k (by show q < h0.2 + 3; omega)).trans (nSet_k'.trans ((psh_k (by show q < h0.2 + 2; omega)).trans (nSet_k'.trans ((psh_k (by show q < h0.2 + 1; omega)).trans (nSet_k'.trans ((psh_k (by show q < h0.2 + 0; omega)).trans hk)))))))) (fun _ => rfl) (fun _ => rfl) ?_
  refine nE.aload_n (q := q) dX4_init_44 rfl ?_
  refine nE.iconst (v := 1) dX4_init_45 (by decide +kernel) ?_
  refine nE.putf (w := .inl 1) dX4_init_46 p4_34 rfl (by show q < h0.2 + 4; omega) (nSet_k'.trans (nSet_k'.trans ((psh_k (by show q < h0.2 + 3; omega)).trans (nSet_k'.trans ((psh_k (by show q < h0.2 + 2; omega)).trans (nSet_k'.trans ((psh_k (by show q < h0.2 + 1; omega)).trans (nSet_k'.trans ((psh_k (by show q < h0.2 + 0; omega)).trans hk))))))))) (fun _ => rfl) (fun _ => rfl) ?_
  refine nE.iconst (v := nI 0) dX4_init_49 (by decide +kernel) ?_
  refine nE.istore_n (l2 := [vQ q, vI (nI 0)]) dX4_init_50 (by decide) rfl ?_
  exact n4_car hq kk 40 0 (rd0 h0 q) 4 166 rfl rfl rfl (RdI_0 hq hk hz)
end ROADW
