/-! written by wip/gen/mmgen.py: the reference -/
theorem w7_in {a1 : Int32} {a2 : Int32} {a3 : Int32} {h : mH} {Q : mV → mH → Prop} (w : (a1 < a2 → Q (vI 0) h) ∧ (¬ a1 < a2 → (a3 < a1 → Q (vI 0) h) ∧ (¬ a3 < a1 → Q (vI 1) h))) : mC M7_in [.inl a1, .inl a2, .inl a3] h Q := by
  show mE M7_in 0 [vI a1, vI a2, vI a3] [] h Q
  refine mE.iload_n dX7_in_0 rfl ?_
  refine mE.iload_n dX7_in_1 rfl ?_
  refine mE.icmp_lt (tgt := 14) dX7_in_2 (by decide) (fun c => ?_) (fun c => ?_)
  · have w := w.1 c
    refine mE.iconst (v := 0) dX7_in_14 (by decide) ?_
    exact mE.iret dX7_in_15 rfl rfl w
  · have w := w.2 c
    refine mE.iload_n dX7_in_5 rfl ?_
    refine mE.iload_n dX7_in_6 rfl ?_
    refine mE.icmp_gt (tgt := 14) dX7_in_7 (by decide) (fun c => ?_) (fun c => ?_)
    · have w := w.1 c
      refine mE.iconst (v := 0) dX7_in_14 (by decide) ?_
      exact mE.iret dX7_in_15 rfl rfl w
    · have w := w.2 c
      refine mE.iconst (v := 1) dX7_in_10 (by decide) ?_
      refine mE.goto (tgt := 15) dX7_in_11 (by decide) ?_
      exact mE.iret dX7_in_15 rfl rfl w
theorem w7_record  {h : mH} {Q : mV → mH → Prop} (w : ((h.1 20 0 0 8) = 0 → (¬ (h.1 20 0 0 3) = 6 → mE M7_record 55 [vR 20 0 0, vI 0] [] h Q) ∧ ((h.1 20 0 0 3) = 6 → mE M7_record 19 [vR 20 0 0, vI 0] [] h Q)) ∧ (¬ (h.1 20 0 0 8) = 0 → Q vU h)) : mC M7_record [.inr (.inr (some (20, 0, 0)))] h Q := by
  show mE M7_record 0 [vR 20 0 0, vU] [] h Q
  refine mE.aload_n dX7_record_0 rfl ?_
  refine mE.getf (w := .inl (h.1 20 0 0 8)) dX7_record_1 f7_38 rfl ?_
  refine mE.if_eq (tgt := 8) dX7_record_4 (by decide) (fun c => ?_) (fun c => ?_)
  · have w := w.1 c
    refine mE.aload_n dX7_record_8 rfl ?_
    refine mE.getf (w := .inl (h.1 20 0 0 3)) dX7_record_9 f7_42 rfl ?_
    refine mE.bipush (v := 6) dX7_record_12 (by decide) ?_
    refine mE.icmp_ne (tgt := 53) dX7_record_14 (by decide) (fun c => ?_) (fun c => ?_)
    · have w := w.1 c
      refine mE.iconst (v := 0) dX7_record_53 (by decide) ?_
      refine mE.istore_n (l2 := [vR 20 0 0, vI 0]) dX7_record_54 (by decide) rfl ?_
      exact w
    · have w := w.2 c
      refine mE.iconst (v := 0) dX7_record_17 (by decide) ?_
      refine mE.istore_n (l2 := [vR 20 0 0, vI 0]) dX7_record_18 (by decide) rfl ?_
      exact w
  · have w := w.2 c
    exact mE.vret dX7_record_7 rfl w
theorem w7_record_55 {y1 : Int32} {h : mH} {Q : mV → mH → Prop} (w : (470 ≤ y1 → Q vU (pI h 20 0 0 3 ((h.1 20 0 0 3) + 1))) ∧ (¬ 470 ≤ y1 → vp_in y1 470 ∧ (vp_in (((h.1 20 0 0 3) * 470) + y1) 2820 ∧ (mE M7_record 55 [vR 20 0 0, vI (y1 + 1)] [] (pI h 23 0 0 ((((h.1 20 0 0 3) * 470) + y1).toNatClampNeg) (h.1 21 0 0 y1.toNatClampNeg)) Q)))) : mE M7_record 55 [vR 20 0 0, vI y1] [] h Q := by
  refine mE.iload_n dX7_record_55 rfl ?_
  refine mE.sipush (v := 470) dX7_record_56 (by decide) ?_
  refine mE.icmp_ge (tgt := 89) dX7_record_59 (by decide) (fun c => ?_) (fun c => ?_)
  · have w := w.1 c
    refine mE.aload_n dX7_record_89 rfl ?_
    refine mE.dupR dX7_record_90 ?_
    refine mE.getf (w := .inl (h.1 20 0 0 3)) dX7_record_91 f7_42 rfl ?_
    refine mE.iconst (v := 1) dX7_record_94 (by decide) ?_
    refine mE.iadd dX7_record_95 ?_
    refine mE.putf dX7_record_96 p7_42 (fun _ _ _ => rfl) rfl rfl ?_
    exact mE.vret dX7_record_99 rfl w
  · have w := w.2 c
    refine mE.aload_n dX7_record_62 rfl ?_
    refine mE.getf (w := .inr (.inr (some (23, 0, 0)))) dX7_record_63 f7_16 rfl ?_
    refine mE.aload_n dX7_record_66 rfl ?_
    refine mE.getf (w := .inl (h.1 20 0 0 3)) dX7_record_67 f7_42 rfl ?_
    refine mE.sipush (v := 470) dX7_record_70 (by decide) ?_
    refine mE.imul dX7_record_73 ?_
    refine mE.iload_n dX7_record_74 rfl ?_
    refine mE.iadd dX7_record_75 ?_
    refine mE.aload_n dX7_record_76 rfl ?_
    refine mE.getf (w := .inr (.inr (some (21, 0, 0)))) dX7_record_77 f7_7 rfl ?_
    refine mE.iload_n dX7_record_80 rfl ?_
    refine mE.iald (x := h.1 21 0 0 y1.toNatClampNeg) dX7_record_81 rfl rfl w.1 rfl ?_
    have w := w.2
    refine mE.iast dX7_record_82 rfl rfl (fun _ _ _ _ => rfl) w.1 ?_
    have w := w.2
    refine mE.iinc (v := y1 + 1) (l2 := [vR 20 0 0, vI (y1 + 1)]) dX7_record_83 rfl rfl (by decide) rfl ?_
    refine mE.goto (tgt := 55) dX7_record_86 (by decide) ?_
    exact w
theorem w7_record_19 {y1 : Int32} {h : mH} {Q : mV → mH → Prop} (w : (2350 ≤ y1 → mE M7_record 55 [vR 20 0 0, vI 0] [] (pI h 20 0 0 3 5) Q) ∧ (¬ 2350 ≤ y1 → vp_in (y1 + 470) 2820 ∧ (vp_in y1 2820 ∧ (mE M7_record 19 [vR 20 0 0, vI (y1 + 1)] [] (pI h 23 0 0 y1.toNatClampNeg (h.1 23 0 0 ((y1 + 470).toNatClampNeg))) Q)))) : mE M7_record 19 [vR 20 0 0, vI y1] [] h Q := by
  refine mE.iload_n dX7_record_19 rfl ?_
  refine mE.sipush (v := 2350) dX7_record_20 (by decide) ?_
  refine mE.icmp_ge (tgt := 48) dX7_record_23 (by decide) (fun c => ?_) (fun c => ?_)
  · have w := w.1 c
    refine mE.aload_n dX7_record_48 rfl ?_
    refine mE.iconst (v := 5) dX7_record_49 (by decide) ?_
    refine mE.putf dX7_record_50 p7_42 (fun _ _ _ => rfl) rfl rfl ?_
    refine mE.iconst (v := 0) dX7_record_53 (by decide) ?_
    refine mE.istore_n (l2 := [vR 20 0 0, vI 0]) dX7_record_54 (by decide) rfl ?_
    exact w
  · have w := w.2 c
    refine mE.aload_n dX7_record_26 rfl ?_
    refine mE.getf (w := .inr (.inr (some (23, 0, 0)))) dX7_record_27 f7_16 rfl ?_
    refine mE.iload_n dX7_record_30 rfl ?_
    refine mE.aload_n dX7_record_31 rfl ?_
    refine mE.getf (w := .inr (.inr (some (23, 0, 0)))) dX7_record_32 f7_16 rfl ?_
    refine mE.iload_n dX7_record_35 rfl ?_
    refine mE.sipush (v := 470) dX7_record_36 (by decide) ?_
    refine mE.iadd dX7_record_39 ?_
    refine mE.iald (x := h.1 23 0 0 ((y1 + 470).toNatClampNeg)) dX7_record_40 rfl rfl w.1 rfl ?_
    have w := w.2
    refine mE.iast dX7_record_41 rfl rfl (fun _ _ _ _ => rfl) w.1 ?_
    have w := w.2
    refine mE.iinc (v := y1 + 1) (l2 := [vR 20 0 0, vI (y1 + 1)]) dX7_record_42 rfl rfl (by decide) rfl ?_
    refine mE.goto (tgt := 19) dX7_record_45 (by decide) ?_
    exact w
theorem w7_keep  {h : mH} {Q : mV → mH → Prop} (w : mE M7_keep 2 [vR 20 0 0, vI 0] [] h Q) : mC M7_keep [.inr (.inr (some (20, 0, 0)))] h Q := by
  show mE M7_keep 0 [vR 20 0 0, vU] [] h Q
  refine mE.iconst (v := 0) dX7_keep_0 (by decide) ?_
  refine mE.istore_n (l2 := [vR 20 0 0, vI 0]) dX7_keep_1 (by decide) rfl ?_
  exact w
theorem w7_keep_2 {y1 : Int32} {h : mH} {Q : mV → mH → Prop} (w : (470 ≤ y1 → Q vU h) ∧ (¬ 470 ≤ y1 → vp_in y1 470 ∧ (vp_in y1 470 ∧ (mE M7_keep 2 [vR 20 0 0, vI (y1 + 1)] [] (pI h 22 0 0 y1.toNatClampNeg (h.1 21 0 0 y1.toNatClampNeg)) Q)))) : mE M7_keep 2 [vR 20 0 0, vI y1] [] h Q := by
  refine mE.iload_n dX7_keep_2 rfl ?_
  refine mE.sipush (v := 470) dX7_keep_3 (by decide) ?_
  refine mE.icmp_ge (tgt := 27) dX7_keep_6 (by decide) (fun c => ?_) (fun c => ?_)
  · have w := w.1 c
    exact mE.vret dX7_keep_27 rfl w
  · have w := w.2 c
    refine mE.aload_n dX7_keep_9 rfl ?_
    refine mE.getf (w := .inr (.inr (some (22, 0, 0)))) dX7_keep_10 f7_13 rfl ?_
    refine mE.iload_n dX7_keep_13 rfl ?_
    refine mE.aload_n dX7_keep_14 rfl ?_
    refine mE.getf (w := .inr (.inr (some (21, 0, 0)))) dX7_keep_15 f7_7 rfl ?_
    refine mE.iload_n dX7_keep_18 rfl ?_
    refine mE.iald (x := h.1 21 0 0 y1.toNatClampNeg) dX7_keep_19 rfl rfl w.1 rfl ?_
    have w := w.2
    refine mE.iast dX7_keep_20 rfl rfl (fun _ _ _ _ => rfl) w.1 ?_
    have w := w.2
    refine mE.iinc (v := y1 + 1) (l2 := [vR 20 0 0, vI (y1 + 1)]) dX7_keep_21 rfl rfl (by decide) rfl ?_
    refine mE.goto (tgt := 2) dX7_keep_24 (by decide) ?_
    exact w
theorem w7_comeBack  {h : mH} {Q : mV → mH → Prop} (w : mE M7_comeBack 2 [vR 20 0 0, vI 0] [] h Q) : mC M7_comeBack [.inr (.inr (some (20, 0, 0)))] h Q := by
  show mE M7_comeBack 0 [vR 20 0 0, vU] [] h Q
  refine mE.iconst (v := 0) dX7_comeBack_0 (by decide) ?_
  refine mE.istore_n (l2 := [vR 20 0 0, vI 0]) dX7_comeBack_1 (by decide) rfl ?_
  exact w
theorem w7_comeBack_2 {y1 : Int32} {h : mH} {Q : mV → mH → Prop} (w : (470 ≤ y1 → Q vU h) ∧ (¬ 470 ≤ y1 → vp_in y1 470 ∧ (vp_in y1 470 ∧ (mE M7_comeBack 2 [vR 20 0 0, vI (y1 + 1)] [] (pI h 21 0 0 y1.toNatClampNeg (h.1 22 0 0 y1.toNatClampNeg)) Q)))) : mE M7_comeBack 2 [vR 20 0 0, vI y1] [] h Q := by
  refine mE.iload_n dX7_comeBack_2 rfl ?_
  refine mE.sipush (v := 470) dX7_comeBack_3 (by decide) ?_
  refine mE.icmp_ge (tgt := 27) dX7_comeBack_6 (by decide) (fun c => ?_) (fun c => ?_)
  · have w := w.1 c
    exact mE.vret dX7_comeBack_27 rfl w
  · have w := w.2 c
    refine mE.aload_n dX7_comeBack_9 rfl ?_
    refine mE.getf (w := .inr (.inr (some (21, 0, 0)))) dX7_comeBack_10 f7_7 rfl ?_
    refine mE.iload_n dX7_comeBack_13 rfl ?_
    refine mE.aload_n dX7_comeBack_14 rfl ?_
    refine mE.getf (w := .inr (.inr (some (22, 0, 0)))) dX7_comeBack_15 f7_13 rfl ?_
    refine mE.iload_n dX7_comeBack_18 rfl ?_
    refine mE.iald (x := h.1 22 0 0 y1.toNatClampNeg) dX7_comeBack_19 rfl rfl w.1 rfl ?_
    have w := w.2
    refine mE.iast dX7_comeBack_20 rfl rfl (fun _ _ _ _ => rfl) w.1 ?_
    have w := w.2
    refine mE.iinc (v := y1 + 1) (l2 := [vR 20 0 0, vI (y1 + 1)]) dX7_comeBack_21 rfl rfl (by decide) rfl ?_
    refine mE.goto (tgt := 2) dX7_comeBack_24 (by decide) ?_
    exact w
theorem w7_ofC {a1 : Int32} {a2 : Int32} {h : mH} {Q : mV → mH → Prop} (w : vp_in ((70 + (10 * a1)) + a2) 470 ∧ (Q (vI (h.1 21 0 0 (((70 + (10 * a1)) + a2).toNatClampNeg))) h)) : mC M7_ofC [.inr (.inr (some (20, 0, 0))), .inl a1, .inl a2] h Q := by
  show mE M7_ofC 0 [vR 20 0 0, vI a1, vI a2] [] h Q
  refine mE.aload_n dX7_ofC_0 rfl ?_
  refine mE.getf (w := .inr (.inr (some (21, 0, 0)))) dX7_ofC_1 f7_7 rfl ?_
  refine mE.bipush (v := 70) dX7_ofC_4 (by decide) ?_
  refine mE.bipush (v := 10) dX7_ofC_6 (by decide) ?_
  refine mE.iload_n dX7_ofC_8 rfl ?_
  refine mE.imul dX7_ofC_9 ?_
  refine mE.iadd dX7_ofC_10 ?_
  refine mE.iload_n dX7_ofC_11 rfl ?_
  refine mE.iadd dX7_ofC_12 ?_
  refine mE.iald (x := h.1 21 0 0 (((70 + (10 * a1)) + a2).toNatClampNeg)) dX7_ofC_13 rfl rfl w.1 rfl ?_
  have w := w.2
  exact mE.iret dX7_ofC_14 rfl rfl w
theorem w7_bookC {a1 : Int32} {a2 : Int32} {a3 : Int32} {h : mH} {Q : mV → mH → Prop} (w : vp_in ((70 + (10 * a1)) + a2) 470 ∧ (Q vU (pI h 21 0 0 (((70 + (10 * a1)) + a2).toNatClampNeg) a3))) : mC M7_bookC [.inr (.inr (some (20, 0, 0))), .inl a1, .inl a2, .inl a3] h Q := by
  show mE M7_bookC 0 [vR 20 0 0, vI a1, vI a2, vI a3] [] h Q
  refine mE.aload_n dX7_bookC_0 rfl ?_
  refine mE.getf (w := .inr (.inr (some (21, 0, 0)))) dX7_bookC_1 f7_7 rfl ?_
  refine mE.bipush (v := 70) dX7_bookC_4 (by decide) ?_
  refine mE.bipush (v := 10) dX7_bookC_6 (by decide) ?_
  refine mE.iload_n dX7_bookC_8 rfl ?_
  refine mE.imul dX7_bookC_9 ?_
  refine mE.iadd dX7_bookC_10 ?_
  refine mE.iload_n dX7_bookC_11 rfl ?_
  refine mE.iadd dX7_bookC_12 ?_
  refine mE.iload_n dX7_bookC_13 rfl ?_
  refine mE.iast dX7_bookC_14 rfl rfl (fun _ _ _ _ => rfl) w.1 ?_
  have w := w.2
  exact mE.vret dX7_bookC_15 rfl w
theorem w7_ofL {a1 : Int32} {a2 : Int32} {h : mH} {Q : mV → mH → Prop} (w : vp_in ((10 + (10 * a1)) + a2) 470 ∧ (Q (vI (h.1 21 0 0 (((10 + (10 * a1)) + a2).toNatClampNeg))) h)) : mC M7_ofL [.inr (.inr (some (20, 0, 0))), .inl a1, .inl a2] h Q := by
  show mE M7_ofL 0 [vR 20 0 0, vI a1, vI a2] [] h Q
  refine mE.aload_n dX7_ofL_0 rfl ?_
  refine mE.getf (w := .inr (.inr (some (21, 0, 0)))) dX7_ofL_1 f7_7 rfl ?_
  refine mE.bipush (v := 10) dX7_ofL_4 (by decide) ?_
  refine mE.bipush (v := 10) dX7_ofL_6 (by decide) ?_
  refine mE.iload_n dX7_ofL_8 rfl ?_
  refine mE.imul dX7_ofL_9 ?_
  refine mE.iadd dX7_ofL_10 ?_
  refine mE.iload_n dX7_ofL_11 rfl ?_
  refine mE.iadd dX7_ofL_12 ?_
  refine mE.iald (x := h.1 21 0 0 (((10 + (10 * a1)) + a2).toNatClampNeg)) dX7_ofL_13 rfl rfl w.1 rfl ?_
  have w := w.2
  exact mE.iret dX7_ofL_14 rfl rfl w
theorem w7_bookL {a1 : Int32} {a2 : Int32} {a3 : Int32} {h : mH} {Q : mV → mH → Prop} (w : vp_in ((10 + (10 * a1)) + a2) 470 ∧ (Q vU (pI h 21 0 0 (((10 + (10 * a1)) + a2).toNatClampNeg) a3))) : mC M7_bookL [.inr (.inr (some (20, 0, 0))), .inl a1, .inl a2, .inl a3] h Q := by
  show mE M7_bookL 0 [vR 20 0 0, vI a1, vI a2, vI a3] [] h Q
  refine mE.aload_n dX7_bookL_0 rfl ?_
  refine mE.getf (w := .inr (.inr (some (21, 0, 0)))) dX7_bookL_1 f7_7 rfl ?_
  refine mE.bipush (v := 10) dX7_bookL_4 (by decide) ?_
  refine mE.bipush (v := 10) dX7_bookL_6 (by decide) ?_
  refine mE.iload_n dX7_bookL_8 rfl ?_
  refine mE.imul dX7_bookL_9 ?_
  refine mE.iadd dX7_bookL_10 ?_
  refine mE.iload_n dX7_bookL_11 rfl ?_
  refine mE.iadd dX7_bookL_12 ?_
  refine mE.iload_n dX7_bookL_13 rfl ?_
  refine mE.iast dX7_bookL_14 rfl rfl (fun _ _ _ _ => rfl) w.1 ?_
  have w := w.2
  exact mE.vret dX7_bookL_15 rfl w
theorem w7_isOn {a1 : Int32} {h : mH} {Q : mV → mH → Prop} (w : mC M7_ofC [.inr (.inr (some (20, 0, 0))), .inl a1, .inl 5] h (kI (fun x398 h397 => (¬ x398 = 0 → Q (vI 0) h397) ∧ (x398 = 0 → Q (vI 1) h397)))) : mC M7_isOn [.inr (.inr (some (20, 0, 0))), .inl a1] h Q := by
  show mE M7_isOn 0 [vR 20 0 0, vI a1] [] h Q
  refine mE.aload_n dX7_isOn_0 rfl ?_
  refine mE.iload_n dX7_isOn_1 rfl ?_
  refine mE.iconst (v := 5) dX7_isOn_2 (by decide) ?_
  refine mE.callV (as := [.inl a1, .inl 5]) (k := 20) (r := 0) (i := 0) (st := []) dX7_isOn_3 cf7_isOn_46 rfl rfl (Nat.le_of_ble_eq_true rfl) (fun _ => Nat.le_of_ble_eq_true rfl) w (kI_on (fun x398 h397 w => ?_))
  refine mE.if_ne (tgt := 13) dX7_isOn_6 (by decide) (fun c => ?_) (fun c => ?_)
  · have w := w.1 c
    refine mE.iconst (v := 0) dX7_isOn_13 (by decide) ?_
    exact mE.iret dX7_isOn_14 rfl rfl w
  · have w := w.2 c
    refine mE.iconst (v := 1) dX7_isOn_9 (by decide) ?_
    refine mE.goto (tgt := 14) dX7_isOn_10 (by decide) ?_
    exact mE.iret dX7_isOn_14 rfl rfl w
theorem w7_lastCell {a1 : Int32} {h : mH} {Q : mV → mH → Prop} (w : mC M7_ofC [.inr (.inr (some (20, 0, 0))), .inl a1, .inl 1] h (kI (fun x400 h399 => mC M7_ofC [.inr (.inr (some (20, 0, 0))), .inl a1, .inl 2] h399 (kI (fun x402 h401 => Q (vI ((x400 - x402) + 1)) h401))))) : mC M7_lastCell [.inr (.inr (some (20, 0, 0))), .inl a1] h Q := by
  show mE M7_lastCell 0 [vR 20 0 0, vI a1] [] h Q
  refine mE.aload_n dX7_lastCell_0 rfl ?_
  refine mE.iload_n dX7_lastCell_1 rfl ?_
  refine mE.iconst (v := 1) dX7_lastCell_2 (by decide) ?_
  refine mE.callV (as := [.inl a1, .inl 1]) (k := 20) (r := 0) (i := 0) (st := []) dX7_lastCell_3 cf7_lastCell_46 rfl rfl (Nat.le_of_ble_eq_true rfl) (fun _ => Nat.le_of_ble_eq_true rfl) w (kI_on (fun x400 h399 w => ?_))
  refine mE.aload_n dX7_lastCell_6 rfl ?_
  refine mE.iload_n dX7_lastCell_7 rfl ?_
  refine mE.iconst (v := 2) dX7_lastCell_8 (by decide) ?_
  refine mE.callV (as := [.inl a1, .inl 2]) (k := 20) (r := 0) (i := 0) (st := [vI x400]) dX7_lastCell_9 cf7_lastCell_46 rfl rfl (Nat.le_of_ble_eq_true rfl) (fun _ => Nat.le_of_ble_eq_true rfl) w (kI_on (fun x402 h401 w => ?_))
  refine mE.isub dX7_lastCell_12 ?_
  refine mE.iconst (v := 1) dX7_lastCell_13 (by decide) ?_
  refine mE.iadd dX7_lastCell_14 ?_
  exact mE.iret dX7_lastCell_15 rfl rfl w
theorem w7_mark {a1 : Int32} {a2 : Int32} {h : mH} {Q : mV → mH → Prop} (w : mC M7_lastCell [.inr (.inr (some (20, 0, 0))), .inl a1] h (kI (fun x404 h403 => mE M7_mark 6 [vR 20 0 0, vI a1, vI a2, vI x404] [] h403 Q))) : mC M7_mark [.inr (.inr (some (20, 0, 0))), .inl a1, .inl a2] h Q := by
  show mE M7_mark 0 [vR 20 0 0, vI a1, vI a2, vU] [] h Q
  refine mE.aload_n dX7_mark_0 rfl ?_
  refine mE.iload_n dX7_mark_1 rfl ?_
  refine mE.callV (as := [.inl a1]) (k := 20) (r := 0) (i := 0) (st := []) dX7_mark_2 cf7_mark_50 rfl rfl (Nat.le_of_ble_eq_true rfl) (fun _ => Nat.le_of_ble_eq_true rfl) w (kI_on (fun x404 h403 w => ?_))
  refine mE.istore_n (l2 := [vR 20 0 0, vI a1, vI a2, vI x404]) dX7_mark_5 (by decide) rfl ?_
  exact w
theorem w7_mark_6 {y1 : Int32} {y2 : Int32} {y3 : Int32} {h : mH} {Q : mV → mH → Prop} (w : mC M7_ofC [.inr (.inr (some (20, 0, 0))), .inl y1, .inl 1] h (kI (fun x406 h405 => (x406 < y3 → Q vU h405) ∧ (¬ x406 < y3 → mC M7_in [.inl y3, .inl 0, .inl 39] h405 (kI (fun x408 h407 => (x408 = 0 → mE M7_mark 6 [vR 20 0 0, vI y1, vI y2, vI (y3 + 1)] [] h407 Q) ∧ (¬ x408 = 0 → mC M7_ofC [.inr (.inr (some (20, 0, 0))), .inl y1, .inl 0] h407 (kI (fun x410 h409 => vp_in ((40 * x410) + y3) 80 ∧ (mE M7_mark 6 [vR 20 0 0, vI y1, vI y2, vI (y3 + 1)] [] (pI h409 27 0 0 (((40 * x410) + y3).toNatClampNeg) y2) Q)))))))))) : mE M7_mark 6 [vR 20 0 0, vI y1, vI y2, vI y3] [] h Q := by
  refine mE.iload_n dX7_mark_6 rfl ?_
  refine mE.aload_n dX7_mark_7 rfl ?_
  refine mE.iload_n dX7_mark_8 rfl ?_
  refine mE.iconst (v := 1) dX7_mark_9 (by decide) ?_
  refine mE.callV (as := [.inl y1, .inl 1]) (k := 20) (r := 0) (i := 0) (st := [vI y3]) dX7_mark_10 cf7_mark_46 rfl rfl (Nat.le_of_ble_eq_true rfl) (fun _ => Nat.le_of_ble_eq_true rfl) w (kI_on (fun x406 h405 w => ?_))
  refine mE.icmp_gt (tgt := 49) dX7_mark_13 (by decide) (fun c => ?_) (fun c => ?_)
  · have w := w.1 c
    exact mE.vret dX7_mark_49 rfl w
  · have w := w.2 c
    refine mE.iload_n dX7_mark_16 rfl ?_
    refine mE.iconst (v := 0) dX7_mark_17 (by decide) ?_
    refine mE.bipush (v := 39) dX7_mark_18 (by decide) ?_
    refine mE.callS (as := [.inl y3, .inl 0, .inl 39]) (st := []) dX7_mark_20 cf7_mark_54 rfl rfl (Nat.le_of_ble_eq_true rfl) (fun _ => Nat.le_of_ble_eq_true rfl) w (kI_on (fun x408 h407 w => ?_))
    refine mE.if_eq (tgt := 43) dX7_mark_23 (by decide) (fun c => ?_) (fun c => ?_)
    · have w := w.1 c
      refine mE.iinc (v := y3 + 1) (l2 := [vR 20 0 0, vI y1, vI y2, vI (y3 + 1)]) dX7_mark_43 rfl rfl (by decide) rfl ?_
      refine mE.goto (tgt := 6) dX7_mark_46 (by decide) ?_
      exact w
    · have w := w.2 c
      refine mE.aload_n dX7_mark_26 rfl ?_
      refine mE.getf (w := .inr (.inr (some (27, 0, 0)))) dX7_mark_27 f7_29 rfl ?_
      refine mE.bipush (v := 40) dX7_mark_30 (by decide) ?_
      refine mE.aload_n dX7_mark_32 rfl ?_
      refine mE.iload_n dX7_mark_33 rfl ?_
      refine mE.iconst (v := 0) dX7_mark_34 (by decide) ?_
      refine mE.callV (as := [.inl y1, .inl 0]) (k := 20) (r := 0) (i := 0) (st := [vI 40, vR 27 0 0]) dX7_mark_35 cf7_mark_46 rfl rfl (Nat.le_of_ble_eq_true rfl) (fun _ => Nat.le_of_ble_eq_true rfl) w (kI_on (fun x410 h409 w => ?_))
      refine mE.imul dX7_mark_38 ?_
      refine mE.iload_n dX7_mark_39 rfl ?_
      refine mE.iadd dX7_mark_40 ?_
      refine mE.iload_n dX7_mark_41 rfl ?_
      refine mE.iast dX7_mark_42 rfl rfl (fun _ _ _ _ => rfl) w.1 ?_
      have w := w.2
      refine mE.iinc (v := y3 + 1) (l2 := [vR 20 0 0, vI y1, vI y2, vI (y3 + 1)]) dX7_mark_43 rfl rfl (by decide) rfl ?_
      refine mE.goto (tgt := 6) dX7_mark_46 (by decide) ?_
      exact w
theorem w7_layCells  {h : mH} {Q : mV → mH → Prop} (w : mE M7_layCells 2 [vR 20 0 0, vI 0] [] h Q) : mC M7_layCells [.inr (.inr (some (20, 0, 0)))] h Q := by
  show mE M7_layCells 0 [vR 20 0 0, vU] [] h Q
  refine mE.iconst (v := 0) dX7_layCells_0 (by decide) ?_
  refine mE.istore_n (l2 := [vR 20 0 0, vI 0]) dX7_layCells_1 (by decide) rfl ?_
  exact w
theorem w7_layCells_2 {y1 : Int32} {h : mH} {Q : mV → mH → Prop} (w : (80 ≤ y1 → mE M7_layCells 24 [vR 20 0 0, vI 0] [] h Q) ∧ (¬ 80 ≤ y1 → vp_in y1 80 ∧ (mE M7_layCells 2 [vR 20 0 0, vI (y1 + 1)] [] (pI h 27 0 0 y1.toNatClampNeg (-6)) Q))) : mE M7_layCells 2 [vR 20 0 0, vI y1] [] h Q := by
  refine mE.iload_n dX7_layCells_2 rfl ?_
  refine mE.bipush (v := 80) dX7_layCells_3 (by decide) ?_
  refine mE.icmp_ge (tgt := 22) dX7_layCells_5 (by decide) (fun c => ?_) (fun c => ?_)
  · have w := w.1 c
    refine mE.iconst (v := 0) dX7_layCells_22 (by decide) ?_
    refine mE.istore_n (l2 := [vR 20 0 0, vI 0]) dX7_layCells_23 (by decide) rfl ?_
    exact w
  · have w := w.2 c
    refine mE.aload_n dX7_layCells_8 rfl ?_
    refine mE.getf (w := .inr (.inr (some (27, 0, 0)))) dX7_layCells_9 f7_29 rfl ?_
    refine mE.iload_n dX7_layCells_12 rfl ?_
    refine mE.bipush (v := -6) dX7_layCells_13 (by decide) ?_
    refine mE.iast dX7_layCells_15 rfl rfl (fun _ _ _ _ => rfl) w.1 ?_
    have w := w.2
    refine mE.iinc (v := y1 + 1) (l2 := [vR 20 0 0, vI (y1 + 1)]) dX7_layCells_16 rfl rfl (by decide) rfl ?_
    refine mE.goto (tgt := 2) dX7_layCells_19 (by decide) ?_
    exact w
theorem w7_layCells_24 {y1 : Int32} {h : mH} {Q : mV → mH → Prop} (w : vp_in 4 470 ∧ (((h.1 21 0 0 ((4 : Int32).toNatClampNeg)) ≤ y1 → Q vU h) ∧ (¬ (h.1 21 0 0 ((4 : Int32).toNatClampNeg)) ≤ y1 → mC M7_isOn [.inr (.inr (some (20, 0, 0))), .inl y1] h (kI (fun x412 h411 => (x412 = 0 → mE M7_layCells 24 [vR 20 0 0, vI (y1 + 1)] [] h411 Q) ∧ (¬ x412 = 0 → mC M7_mark [.inr (.inr (some (20, 0, 0))), .inl y1, .inl y1] h411 (kV (fun h413 => mE M7_layCells 24 [vR 20 0 0, vI (y1 + 1)] [] h413 Q)))))))) : mE M7_layCells 24 [vR 20 0 0, vI y1] [] h Q := by
  refine mE.iload_n dX7_layCells_24 rfl ?_
  refine mE.aload_n dX7_layCells_25 rfl ?_
  refine mE.getf (w := .inr (.inr (some (21, 0, 0)))) dX7_layCells_26 f7_7 rfl ?_
  refine mE.iconst (v := 4) dX7_layCells_29 (by decide) ?_
  refine mE.iald (x := h.1 21 0 0 ((4 : Int32).toNatClampNeg)) dX7_layCells_30 rfl rfl w.1 rfl ?_
  have w := w.2
  refine mE.icmp_ge (tgt := 54) dX7_layCells_31 (by decide) (fun c => ?_) (fun c => ?_)
  · have w := w.1 c
    exact mE.vret dX7_layCells_54 rfl w
  · have w := w.2 c
    refine mE.aload_n dX7_layCells_34 rfl ?_
    refine mE.iload_n dX7_layCells_35 rfl ?_
    refine mE.callV (as := [.inl y1]) (k := 20) (r := 0) (i := 0) (st := []) dX7_layCells_36 cf7_layCells_58 rfl rfl (Nat.le_of_ble_eq_true rfl) (fun _ => Nat.le_of_ble_eq_true rfl) w (kI_on (fun x412 h411 w => ?_))
    refine mE.if_eq (tgt := 48) dX7_layCells_39 (by decide) (fun c => ?_) (fun c => ?_)
    · have w := w.1 c
      refine mE.iinc (v := y1 + 1) (l2 := [vR 20 0 0, vI (y1 + 1)]) dX7_layCells_48 rfl rfl (by decide) rfl ?_
      refine mE.goto (tgt := 24) dX7_layCells_51 (by decide) ?_
      exact w
    · have w := w.2 c
      refine mE.aload_n dX7_layCells_42 rfl ?_
      refine mE.iload_n dX7_layCells_43 rfl ?_
      refine mE.iload_n dX7_layCells_44 rfl ?_
      refine mE.callV (as := [.inl y1, .inl y1]) (k := 20) (r := 0) (i := 0) (st := []) dX7_layCells_45 cf7_layCells_62 rfl rfl (Nat.le_of_ble_eq_true rfl) (fun _ => Nat.le_of_ble_eq_true rfl) w (kV_on (fun h413 w => ?_))
      refine mE.iinc (v := y1 + 1) (l2 := [vR 20 0 0, vI (y1 + 1)]) dX7_layCells_48 rfl rfl (by decide) rfl ?_
      refine mE.goto (tgt := 24) dX7_layCells_51 (by decide) ?_
      exact w
theorem w7_isFree {a1 : Int32} {a2 : Int32} {h : mH} {Q : mV → mH → Prop} (w : mC M7_in [.inl a2, .inl 0, .inl 39] h (kI (fun x415 h414 => (x415 = 0 → Q (vI 1) h414) ∧ (¬ x415 = 0 → vp_in ((40 * a1) + a2) 80 ∧ ((0 ≤ (h414.1 27 0 0 (((40 * a1) + a2).toNatClampNeg)) → Q (vI 0) h414) ∧ (¬ 0 ≤ (h414.1 27 0 0 (((40 * a1) + a2).toNatClampNeg)) → Q (vI 1) h414)))))) : mC M7_isFree [.inr (.inr (some (20, 0, 0))), .inl a1, .inl a2] h Q := by
  show mE M7_isFree 0 [vR 20 0 0, vI a1, vI a2] [] h Q
  refine mE.iload_n dX7_isFree_0 rfl ?_
  refine mE.iconst (v := 0) dX7_isFree_1 (by decide) ?_
  refine mE.bipush (v := 39) dX7_isFree_2 (by decide) ?_
  refine mE.callS (as := [.inl a2, .inl 0, .inl 39]) (st := []) dX7_isFree_4 cf7_isFree_54 rfl rfl (Nat.le_of_ble_eq_true rfl) (fun _ => Nat.le_of_ble_eq_true rfl) w (kI_on (fun x415 h414 w => ?_))
  refine mE.if_eq (tgt := 24) dX7_isFree_7 (by decide) (fun c => ?_) (fun c => ?_)
  · have w := w.1 c
    refine mE.iconst (v := 1) dX7_isFree_24 (by decide) ?_
    refine mE.goto (tgt := 29) dX7_isFree_25 (by decide) ?_
    exact mE.iret dX7_isFree_29 rfl rfl w
  · have w := w.2 c
    refine mE.aload_n dX7_isFree_10 rfl ?_
    refine mE.getf (w := .inr (.inr (some (27, 0, 0)))) dX7_isFree_11 f7_29 rfl ?_
    refine mE.bipush (v := 40) dX7_isFree_14 (by decide) ?_
    refine mE.iload_n dX7_isFree_16 rfl ?_
    refine mE.imul dX7_isFree_17 ?_
    refine mE.iload_n dX7_isFree_18 rfl ?_
    refine mE.iadd dX7_isFree_19 ?_
    refine mE.iald (x := h414.1 27 0 0 (((40 * a1) + a2).toNatClampNeg)) dX7_isFree_20 rfl rfl w.1 rfl ?_
    have w := w.2
    refine mE.if_ge (tgt := 28) dX7_isFree_21 (by decide) (fun c => ?_) (fun c => ?_)
    · have w := w.1 c
      refine mE.iconst (v := 0) dX7_isFree_28 (by decide) ?_
      exact mE.iret dX7_isFree_29 rfl rfl w
    · have w := w.2 c
      refine mE.iconst (v := 1) dX7_isFree_24 (by decide) ?_
      refine mE.goto (tgt := 29) dX7_isFree_25 (by decide) ?_
      exact mE.iret dX7_isFree_29 rfl rfl w
theorem w7_canChange {a1 : Int32} {h : mH} {Q : mV → mH → Prop} (w : mC M7_ofC [.inr (.inr (some (20, 0, 0))), .inl a1, .inl 6] h (kI (fun x417 h416 => (¬ x417 = 1 → mC M7_lastCell [.inr (.inr (some (20, 0, 0))), .inl a1] h416 (kI (fun x419 h418 => mE M7_canChange 23 [vR 20 0 0, vI a1, vI 0, vI x419] [] h418 Q))) ∧ (x417 = 1 → mC M7_lastCell [.inr (.inr (some (20, 0, 0))), .inl a1] h416 (kI (fun x421 h420 => mE M7_canChange 23 [vR 20 0 0, vI a1, vI 1, vI x421] [] h420 Q)))))) : mC M7_canChange [.inr (.inr (some (20, 0, 0))), .inl a1] h Q := by
  show mE M7_canChange 0 [vR 20 0 0, vI a1, vU, vU] [] h Q
  refine mE.aload_n dX7_canChange_0 rfl ?_
  refine mE.iload_n dX7_canChange_1 rfl ?_
  refine mE.bipush (v := 6) dX7_canChange_2 (by decide) ?_
  refine mE.callV (as := [.inl a1, .inl 6]) (k := 20) (r := 0) (i := 0) (st := []) dX7_canChange_4 cf7_canChange_46 rfl rfl (Nat.le_of_ble_eq_true rfl) (fun _ => Nat.le_of_ble_eq_true rfl) w (kI_on (fun x417 h416 w => ?_))
  refine mE.iconst (v := 1) dX7_canChange_7 (by decide) ?_
  refine mE.icmp_ne (tgt := 15) dX7_canChange_8 (by decide) (fun c => ?_) (fun c => ?_)
  · have w := w.1 c
    refine mE.iconst (v := 0) dX7_canChange_15 (by decide) ?_
    refine mE.istore_n (l2 := [vR 20 0 0, vI a1, vI 0, vU]) dX7_canChange_16 (by decide) rfl ?_
    refine mE.aload_n dX7_canChange_17 rfl ?_
    refine mE.iload_n dX7_canChange_18 rfl ?_
    refine mE.callV (as := [.inl a1]) (k := 20) (r := 0) (i := 0) (st := []) dX7_canChange_19 cf7_canChange_50 rfl rfl (Nat.le_of_ble_eq_true rfl) (fun _ => Nat.le_of_ble_eq_true rfl) w (kI_on (fun x419 h418 w => ?_))
    refine mE.istore_n (l2 := [vR 20 0 0, vI a1, vI 0, vI x419]) dX7_canChange_22 (by decide) rfl ?_
    exact w
  · have w := w.2 c
    refine mE.iconst (v := 1) dX7_canChange_11 (by decide) ?_
    refine mE.goto (tgt := 16) dX7_canChange_12 (by decide) ?_
    refine mE.istore_n (l2 := [vR 20 0 0, vI a1, vI 1, vU]) dX7_canChange_16 (by decide) rfl ?_
    refine mE.aload_n dX7_canChange_17 rfl ?_
    refine mE.iload_n dX7_canChange_18 rfl ?_
    refine mE.callV (as := [.inl a1]) (k := 20) (r := 0) (i := 0) (st := []) dX7_canChange_19 cf7_canChange_50 rfl rfl (Nat.le_of_ble_eq_true rfl) (fun _ => Nat.le_of_ble_eq_true rfl) w (kI_on (fun x421 h420 w => ?_))
    refine mE.istore_n (l2 := [vR 20 0 0, vI a1, vI 1, vI x421]) dX7_canChange_22 (by decide) rfl ?_
    exact w
theorem w7_canChange_23 {y1 : Int32} {y2 : Int32} {y3 : Int32} {h : mH} {Q : mV → mH → Prop} (w : mC M7_ofC [.inr (.inr (some (20, 0, 0))), .inl y1, .inl 1] h (kI (fun x423 h422 => (x423 < y3 → (y2 = 0 ∨ y2 = 1) ∧ Q (vI y2) h422) ∧ (¬ x423 < y3 → (y2 = 0 → mE M7_canChange 23 [vR 20 0 0, vI y1, vI 0, vI (y3 + 1)] [] h422 Q) ∧ (¬ y2 = 0 → mC M7_ofC [.inr (.inr (some (20, 0, 0))), .inl y1, .inl 0] h422 (kI (fun x425 h424 => mC M7_isFree [.inr (.inr (some (20, 0, 0))), .inl (1 - x425), .inl y3] h424 (kI (fun x427 h426 => (x427 = 0 → mE M7_canChange 23 [vR 20 0 0, vI y1, vI 0, vI (y3 + 1)] [] h426 Q) ∧ (¬ x427 = 0 → mE M7_canChange 23 [vR 20 0 0, vI y1, vI 1, vI (y3 + 1)] [] h426 Q)))))))))) : mE M7_canChange 23 [vR 20 0 0, vI y1, vI y2, vI y3] [] h Q := by
  refine mE.iload_n dX7_canChange_23 rfl ?_
  refine mE.aload_n dX7_canChange_24 rfl ?_
  refine mE.iload_n dX7_canChange_25 rfl ?_
  refine mE.iconst (v := 1) dX7_canChange_26 (by decide) ?_
  refine mE.callV (as := [.inl y1, .inl 1]) (k := 20) (r := 0) (i := 0) (st := [vI y3]) dX7_canChange_27 cf7_canChange_46 rfl rfl (Nat.le_of_ble_eq_true rfl) (fun _ => Nat.le_of_ble_eq_true rfl) w (kI_on (fun x423 h422 w => ?_))
  refine mE.icmp_gt (tgt := 65) dX7_canChange_30 (by decide) (fun c => ?_) (fun c => ?_)
  · have w := w.1 c
    refine mE.iload_n dX7_canChange_65 rfl ?_
    exact mE.iret dX7_canChange_66 rfl (nar_b w.1) w.2
  · have w := w.2 c
    refine mE.iload_n dX7_canChange_33 rfl ?_
    refine mE.if_eq (tgt := 57) dX7_canChange_34 (by decide) (fun c => ?_) (fun c => ?_)
    · have w := w.1 c
      refine mE.iconst (v := 0) dX7_canChange_57 (by decide) ?_
      refine mE.istore_n (l2 := [vR 20 0 0, vI y1, vI 0, vI y3]) dX7_canChange_58 (by decide) rfl ?_
      refine mE.iinc (v := y3 + 1) (l2 := [vR 20 0 0, vI y1, vI 0, vI (y3 + 1)]) dX7_canChange_59 rfl rfl (by decide) rfl ?_
      refine mE.goto (tgt := 23) dX7_canChange_62 (by decide) ?_
      exact w
    · have w := w.2 c
      refine mE.aload_n dX7_canChange_37 rfl ?_
      refine mE.iconst (v := 1) dX7_canChange_38 (by decide) ?_
      refine mE.aload_n dX7_canChange_39 rfl ?_
      refine mE.iload_n dX7_canChange_40 rfl ?_
      refine mE.iconst (v := 0) dX7_canChange_41 (by decide) ?_
      refine mE.callV (as := [.inl y1, .inl 0]) (k := 20) (r := 0) (i := 0) (st := [vI 1, vR 20 0 0]) dX7_canChange_42 cf7_canChange_46 rfl rfl (Nat.le_of_ble_eq_true rfl) (fun _ => Nat.le_of_ble_eq_true rfl) w (kI_on (fun x425 h424 w => ?_))
      refine mE.isub dX7_canChange_45 ?_
      refine mE.iload_n dX7_canChange_46 rfl ?_
      refine mE.callV (as := [.inl (1 - x425), .inl y3]) (k := 20) (r := 0) (i := 0) (st := []) dX7_canChange_47 cf7_canChange_66 rfl rfl (Nat.le_of_ble_eq_true rfl) (fun _ => Nat.le_of_ble_eq_true rfl) w (kI_on (fun x427 h426 w => ?_))
      refine mE.if_eq (tgt := 57) dX7_canChange_50 (by decide) (fun c => ?_) (fun c => ?_)
      · have w := w.1 c
        refine mE.iconst (v := 0) dX7_canChange_57 (by decide) ?_
        refine mE.istore_n (l2 := [vR 20 0 0, vI y1, vI 0, vI y3]) dX7_canChange_58 (by decide) rfl ?_
        refine mE.iinc (v := y3 + 1) (l2 := [vR 20 0 0, vI y1, vI 0, vI (y3 + 1)]) dX7_canChange_59 rfl rfl (by decide) rfl ?_
        refine mE.goto (tgt := 23) dX7_canChange_62 (by decide) ?_
        exact w
      · have w := w.2 c
        refine mE.iconst (v := 1) dX7_canChange_53 (by decide) ?_
        refine mE.goto (tgt := 58) dX7_canChange_54 (by decide) ?_
        refine mE.istore_n (l2 := [vR 20 0 0, vI y1, vI 1, vI y3]) dX7_canChange_58 (by decide) rfl ?_
        refine mE.iinc (v := y3 + 1) (l2 := [vR 20 0 0, vI y1, vI 1, vI (y3 + 1)]) dX7_canChange_59 rfl rfl (by decide) rfl ?_
        refine mE.goto (tgt := 23) dX7_canChange_62 (by decide) ?_
        exact w
theorem w7_move {a1 : Int32} {h : mH} {Q : mV → mH → Prop} (w : mC M7_canChange [.inr (.inr (some (20, 0, 0))), .inl a1] h (kI (fun x429 h428 => mC M7_ofC [.inr (.inr (some (20, 0, 0))), .inl a1, .inl 0] h428 (kI (fun x431 h430 => mC M7_mark [.inr (.inr (some (20, 0, 0))), .inl a1, .inl (-6)] h430 (kV (fun h432 => (x429 = 0 → mE M7_move 63 [vR 20 0 0, vI a1, vU, vI x431, vI 0] [] h432 Q) ∧ (¬ x429 = 0 → mC M7_bookC [.inr (.inr (some (20, 0, 0))), .inl a1, .inl 0, .inl (1 - x431)] h432 (kV (fun h433 => mC M7_bookC [.inr (.inr (some (20, 0, 0))), .inl a1, .inl 6, .inl 0] h433 (kV (fun h434 => mC M7_ofC [.inr (.inr (some (20, 0, 0))), .inl a1, .inl 7] h434 (kI (fun x436 h435 => mC M7_bookC [.inr (.inr (some (20, 0, 0))), .inl a1, .inl 7, .inl (x436 + 1)] h435 (kV (fun h437 => mE M7_move 180 [vR 20 0 0, vI a1, vU, vU, vU] [] h437 Q)))))))))))))))) : mC M7_move [.inr (.inr (some (20, 0, 0))), .inl a1] h Q := by
  show mE M7_move 0 [vR 20 0 0, vI a1, vU, vU, vU] [] h Q
  refine mE.aload_n dX7_move_0 rfl ?_
  refine mE.iload_n dX7_move_1 rfl ?_
  refine mE.callV (as := [.inl a1]) (k := 20) (r := 0) (i := 0) (st := []) dX7_move_2 cf7_move_70 rfl rfl (Nat.le_of_ble_eq_true rfl) (fun _ => Nat.le_of_ble_eq_true rfl) w (kI_on (fun x429 h428 w => ?_))
  refine mE.istore_n (l2 := [vR 20 0 0, vI a1, vI x429, vU, vU]) dX7_move_5 (by decide) rfl ?_
  refine mE.aload_n dX7_move_6 rfl ?_
  refine mE.iload_n dX7_move_7 rfl ?_
  refine mE.iconst (v := 0) dX7_move_8 (by decide) ?_
  refine mE.callV (as := [.inl a1, .inl 0]) (k := 20) (r := 0) (i := 0) (st := []) dX7_move_9 cf7_move_46 rfl rfl (Nat.le_of_ble_eq_true rfl) (fun _ => Nat.le_of_ble_eq_true rfl) w (kI_on (fun x431 h430 w => ?_))
  refine mE.istore_n (l2 := [vR 20 0 0, vI a1, vI x429, vI x431, vU]) dX7_move_12 (by decide) rfl ?_
  refine mE.aload_n dX7_move_13 rfl ?_
  refine mE.iload_n dX7_move_14 rfl ?_
  refine mE.bipush (v := -6) dX7_move_15 (by decide) ?_
  refine mE.callV (as := [.inl a1, .inl (-6)]) (k := 20) (r := 0) (i := 0) (st := []) dX7_move_17 cf7_move_62 rfl rfl (Nat.le_of_ble_eq_true rfl) (fun _ => Nat.le_of_ble_eq_true rfl) w (kV_on (fun h432 w => ?_))
  refine mE.iload_n dX7_move_20 rfl ?_
  refine mE.if_eq (tgt := 60) dX7_move_21 (by decide) (fun c => ?_) (fun c => ?_)
  · have w := w.1 c
    refine mE.iconst (v := 0) dX7_move_60 (by decide) ?_
    refine mE.istore (l2 := [vR 20 0 0, vI a1, vI x429, vI x431, vI 0]) dX7_move_61 (by decide) rfl ?_
    exact mE.less (by exact ⟨Or.inr rfl, ⟨Or.inr rfl, ⟨Or.inl rfl, ⟨Or.inr rfl, ⟨Or.inr rfl, trivial⟩⟩⟩⟩⟩) w
  · have w := w.2 c
    refine mE.aload_n dX7_move_24 rfl ?_
    refine mE.iload_n dX7_move_25 rfl ?_
    refine mE.iconst (v := 0) dX7_move_26 (by decide) ?_
    refine mE.iconst (v := 1) dX7_move_27 (by decide) ?_
    refine mE.iload_n dX7_move_28 rfl ?_
    refine mE.isub dX7_move_29 ?_
    refine mE.callV (as := [.inl a1, .inl 0, .inl (1 - x431)]) (k := 20) (r := 0) (i := 0) (st := []) dX7_move_30 cf7_move_73 rfl rfl (Nat.le_of_ble_eq_true rfl) (fun _ => Nat.le_of_ble_eq_true rfl) w (kV_on (fun h433 w => ?_))
    refine mE.aload_n dX7_move_33 rfl ?_
    refine mE.iload_n dX7_move_34 rfl ?_
    refine mE.bipush (v := 6) dX7_move_35 (by decide) ?_
    refine mE.iconst (v := 0) dX7_move_37 (by decide) ?_
    refine mE.callV (as := [.inl a1, .inl 6, .inl 0]) (k := 20) (r := 0) (i := 0) (st := []) dX7_move_38 cf7_move_73 rfl rfl (Nat.le_of_ble_eq_true rfl) (fun _ => Nat.le_of_ble_eq_true rfl) w (kV_on (fun h434 w => ?_))
    refine mE.aload_n dX7_move_41 rfl ?_
    refine mE.iload_n dX7_move_42 rfl ?_
    refine mE.bipush (v := 7) dX7_move_43 (by decide) ?_
    refine mE.aload_n dX7_move_45 rfl ?_
    refine mE.iload_n dX7_move_46 rfl ?_
    refine mE.bipush (v := 7) dX7_move_47 (by decide) ?_
    refine mE.callV (as := [.inl a1, .inl 7]) (k := 20) (r := 0) (i := 0) (st := [vI 7, vI a1, vR 20 0 0]) dX7_move_49 cf7_move_46 rfl rfl (Nat.le_of_ble_eq_true rfl) (fun _ => Nat.le_of_ble_eq_true rfl) w (kI_on (fun x436 h435 w => ?_))
    refine mE.iconst (v := 1) dX7_move_52 (by decide) ?_
    refine mE.iadd dX7_move_53 ?_
    refine mE.callV (as := [.inl a1, .inl 7, .inl (x436 + 1)]) (k := 20) (r := 0) (i := 0) (st := []) dX7_move_54 cf7_move_73 rfl rfl (Nat.le_of_ble_eq_true rfl) (fun _ => Nat.le_of_ble_eq_true rfl) w (kV_on (fun h437 w => ?_))
    refine mE.goto (tgt := 180) dX7_move_57 (by decide) ?_
    exact mE.less (by exact ⟨Or.inr rfl, ⟨Or.inr rfl, ⟨Or.inl rfl, ⟨Or.inl rfl, ⟨Or.inl rfl, trivial⟩⟩⟩⟩⟩) w
theorem w7_move_63 {y1 : Int32} {y3 : Int32} {y4 : Int32} {h : mH} {Q : mV → mH → Prop} (w : mC M7_ofC [.inr (.inr (some (20, 0, 0))), .inl y1, .inl 3] h (kI (fun x439 h438 => (x439 ≤ y4 → mE M7_move 120 [vR 20 0 0, vI y1, vU, vU, vI y4] [] h438 Q) ∧ (¬ x439 ≤ y4 → mC M7_lastCell [.inr (.inr (some (20, 0, 0))), .inl y1] h438 (kI (fun x441 h440 => (40 ≤ x441 → mE M7_move 120 [vR 20 0 0, vI y1, vU, vU, vI y4] [] h440 Q) ∧ (¬ 40 ≤ x441 → mC M7_ofC [.inr (.inr (some (20, 0, 0))), .inl y1, .inl 1] h440 (kI (fun x443 h442 => mC M7_isFree [.inr (.inr (some (20, 0, 0))), .inl y3, .inl (x443 + 1)] h442 (kI (fun x445 h444 => (x445 = 0 → mE M7_move 120 [vR 20 0 0, vI y1, vU, vU, vI y4] [] h444 Q) ∧ (¬ x445 = 0 → mC M7_ofC [.inr (.inr (some (20, 0, 0))), .inl y1, .inl 1] h444 (kI (fun x447 h446 => mC M7_bookC [.inr (.inr (some (20, 0, 0))), .inl y1, .inl 1, .inl (x447 + 1)] h446 (kV (fun h448 => mE M7_move 63 [vR 20 0 0, vI y1, vU, vI y3, vI (y4 + 1)] [] h448 Q)))))))))))))))) : mE M7_move 63 [vR 20 0 0, vI y1, vU, vI y3, vI y4] [] h Q := by
  refine mE.iload dX7_move_63 rfl ?_
  refine mE.aload_n dX7_move_65 rfl ?_
  refine mE.iload_n dX7_move_66 rfl ?_
  refine mE.iconst (v := 3) dX7_move_67 (by decide) ?_
  refine mE.callV (as := [.inl y1, .inl 3]) (k := 20) (r := 0) (i := 0) (st := [vI y4]) dX7_move_68 cf7_move_46 rfl rfl (Nat.le_of_ble_eq_true rfl) (fun _ => Nat.le_of_ble_eq_true rfl) w (kI_on (fun x439 h438 w => ?_))
  refine mE.icmp_ge (tgt := 120) dX7_move_71 (by decide) (fun c => ?_) (fun c => ?_)
  · have w := w.1 c
    exact mE.less (by exact ⟨Or.inr rfl, ⟨Or.inr rfl, ⟨Or.inl rfl, ⟨Or.inl rfl, ⟨Or.inr rfl, trivial⟩⟩⟩⟩⟩) w
  · have w := w.2 c
    refine mE.aload_n dX7_move_74 rfl ?_
    refine mE.iload_n dX7_move_75 rfl ?_
    refine mE.callV (as := [.inl y1]) (k := 20) (r := 0) (i := 0) (st := []) dX7_move_76 cf7_move_50 rfl rfl (Nat.le_of_ble_eq_true rfl) (fun _ => Nat.le_of_ble_eq_true rfl) w (kI_on (fun x441 h440 w => ?_))
    refine mE.bipush (v := 40) dX7_move_79 (by decide) ?_
    refine mE.icmp_ge (tgt := 120) dX7_move_81 (by decide) (fun c => ?_) (fun c => ?_)
    · have w := w.1 c
      exact mE.less (by exact ⟨Or.inr rfl, ⟨Or.inr rfl, ⟨Or.inl rfl, ⟨Or.inl rfl, ⟨Or.inr rfl, trivial⟩⟩⟩⟩⟩) w
    · have w := w.2 c
      refine mE.aload_n dX7_move_84 rfl ?_
      refine mE.iload_n dX7_move_85 rfl ?_
      refine mE.aload_n dX7_move_86 rfl ?_
      refine mE.iload_n dX7_move_87 rfl ?_
      refine mE.iconst (v := 1) dX7_move_88 (by decide) ?_
      refine mE.callV (as := [.inl y1, .inl 1]) (k := 20) (r := 0) (i := 0) (st := [vI y3, vR 20 0 0]) dX7_move_89 cf7_move_46 rfl rfl (Nat.le_of_ble_eq_true rfl) (fun _ => Nat.le_of_ble_eq_true rfl) w (kI_on (fun x443 h442 w => ?_))
      refine mE.iconst (v := 1) dX7_move_92 (by decide) ?_
      refine mE.iadd dX7_move_93 ?_
      refine mE.callV (as := [.inl y3, .inl (x443 + 1)]) (k := 20) (r := 0) (i := 0) (st := []) dX7_move_94 cf7_move_66 rfl rfl (Nat.le_of_ble_eq_true rfl) (fun _ => Nat.le_of_ble_eq_true rfl) w (kI_on (fun x445 h444 w => ?_))
      refine mE.if_eq (tgt := 120) dX7_move_97 (by decide) (fun c => ?_) (fun c => ?_)
      · have w := w.1 c
        exact mE.less (by exact ⟨Or.inr rfl, ⟨Or.inr rfl, ⟨Or.inl rfl, ⟨Or.inl rfl, ⟨Or.inr rfl, trivial⟩⟩⟩⟩⟩) w
      · have w := w.2 c
        refine mE.aload_n dX7_move_100 rfl ?_
        refine mE.iload_n dX7_move_101 rfl ?_
        refine mE.iconst (v := 1) dX7_move_102 (by decide) ?_
        refine mE.aload_n dX7_move_103 rfl ?_
        refine mE.iload_n dX7_move_104 rfl ?_
        refine mE.iconst (v := 1) dX7_move_105 (by decide) ?_
        refine mE.callV (as := [.inl y1, .inl 1]) (k := 20) (r := 0) (i := 0) (st := [vI 1, vI y1, vR 20 0 0]) dX7_move_106 cf7_move_46 rfl rfl (Nat.le_of_ble_eq_true rfl) (fun _ => Nat.le_of_ble_eq_true rfl) w (kI_on (fun x447 h446 w => ?_))
        refine mE.iconst (v := 1) dX7_move_109 (by decide) ?_
        refine mE.iadd dX7_move_110 ?_
        refine mE.callV (as := [.inl y1, .inl 1, .inl (x447 + 1)]) (k := 20) (r := 0) (i := 0) (st := []) dX7_move_111 cf7_move_73 rfl rfl (Nat.le_of_ble_eq_true rfl) (fun _ => Nat.le_of_ble_eq_true rfl) w (kV_on (fun h448 w => ?_))
        refine mE.iinc (v := y4 + 1) (l2 := [vR 20 0 0, vI y1, vU, vI y3, vI (y4 + 1)]) dX7_move_114 rfl rfl (by decide) rfl ?_
        refine mE.goto (tgt := 63) dX7_move_117 (by decide) ?_
        exact w
theorem w7_move_180 {y1 : Int32} {h : mH} {Q : mV → mH → Prop} (w : mC M7_isOn [.inr (.inr (some (20, 0, 0))), .inl y1] h (kI (fun x450 h449 => (x450 = 0 → Q vU h449) ∧ (¬ x450 = 0 → mC M7_mark [.inr (.inr (some (20, 0, 0))), .inl y1, .inl y1] h449 (kV (fun h451 => Q vU h451)))))) : mE M7_move 180 [vR 20 0 0, vI y1, vU, vU, vU] [] h Q := by
  refine mE.aload_n dX7_move_180 rfl ?_
  refine mE.iload_n dX7_move_181 rfl ?_
  refine mE.callV (as := [.inl y1]) (k := 20) (r := 0) (i := 0) (st := []) dX7_move_182 cf7_move_58 rfl rfl (Nat.le_of_ble_eq_true rfl) (fun _ => Nat.le_of_ble_eq_true rfl) w (kI_on (fun x450 h449 w => ?_))
  refine mE.if_eq (tgt := 194) dX7_move_185 (by decide) (fun c => ?_) (fun c => ?_)
  · have w := w.1 c
    exact mE.vret dX7_move_194 rfl w
  · have w := w.2 c
    refine mE.aload_n dX7_move_188 rfl ?_
    refine mE.iload_n dX7_move_189 rfl ?_
    refine mE.iload_n dX7_move_190 rfl ?_
    refine mE.callV (as := [.inl y1, .inl y1]) (k := 20) (r := 0) (i := 0) (st := []) dX7_move_191 cf7_move_62 rfl rfl (Nat.le_of_ble_eq_true rfl) (fun _ => Nat.le_of_ble_eq_true rfl) w (kV_on (fun h451 w => ?_))
    exact mE.vret dX7_move_194 rfl w
theorem w7_move_120 {y1 : Int32} {y4 : Int32} {h : mH} {Q : mV → mH → Prop} (w : mC M7_lastCell [.inr (.inr (some (20, 0, 0))), .inl y1] h (kI (fun x453 h452 => (x453 ≤ 39 → mC M7_bookC [.inr (.inr (some (20, 0, 0))), .inl y1, .inl 5, .inl 0] h452 (kV (fun h454 => mE M7_move 141 [vR 20 0 0, vI y1, vU, vU, vI y4] [] h454 Q))) ∧ (¬ x453 ≤ 39 → mC M7_bookC [.inr (.inr (some (20, 0, 0))), .inl y1, .inl 5, .inl 1] h452 (kV (fun h455 => mE M7_move 141 [vR 20 0 0, vI y1, vU, vU, vI y4] [] h455 Q)))))) : mE M7_move 120 [vR 20 0 0, vI y1, vU, vU, vI y4] [] h Q := by
  refine mE.aload_n dX7_move_120 rfl ?_
  refine mE.iload_n dX7_move_121 rfl ?_
  refine mE.iconst (v := 5) dX7_move_122 (by decide) ?_
  refine mE.aload_n dX7_move_123 rfl ?_
  refine mE.iload_n dX7_move_124 rfl ?_
  refine mE.callV (as := [.inl y1]) (k := 20) (r := 0) (i := 0) (st := [vI 5, vI y1, vR 20 0 0]) dX7_move_125 cf7_move_50 rfl rfl (Nat.le_of_ble_eq_true rfl) (fun _ => Nat.le_of_ble_eq_true rfl) w (kI_on (fun x453 h452 w => ?_))
  refine mE.bipush (v := 39) dX7_move_128 (by decide) ?_
  refine mE.icmp_le (tgt := 137) dX7_move_130 (by decide) (fun c => ?_) (fun c => ?_)
  · have w := w.1 c
    refine mE.iconst (v := 0) dX7_move_137 (by decide) ?_
    refine mE.callV (as := [.inl y1, .inl 5, .inl 0]) (k := 20) (r := 0) (i := 0) (st := []) dX7_move_138 cf7_move_73 rfl rfl (Nat.le_of_ble_eq_true rfl) (fun _ => Nat.le_of_ble_eq_true rfl) w (kV_on (fun h454 w => ?_))
    exact w
  · have w := w.2 c
    refine mE.iconst (v := 1) dX7_move_133 (by decide) ?_
    refine mE.goto (tgt := 138) dX7_move_134 (by decide) ?_
    refine mE.callV (as := [.inl y1, .inl 5, .inl 1]) (k := 20) (r := 0) (i := 0) (st := []) dX7_move_138 cf7_move_73 rfl rfl (Nat.le_of_ble_eq_true rfl) (fun _ => Nat.le_of_ble_eq_true rfl) w (kV_on (fun h455 w => ?_))
    exact w
theorem w7_move_141 {y1 : Int32} {y4 : Int32} {h : mH} {Q : mV → mH → Prop} (w : mC M7_ofC [.inr (.inr (some (20, 0, 0))), .inl y1, .inl 8] h (kI (fun x457 h456 => mC M7_ofC [.inr (.inr (some (20, 0, 0))), .inl y1, .inl 3] h456 (kI (fun x459 h458 => (x459 ≤ y4 → mC M7_bookC [.inr (.inr (some (20, 0, 0))), .inl y1, .inl 8, .inl (x457 + 0)] h458 (kV (fun h460 => mE M7_move 180 [vR 20 0 0, vI y1, vU, vU, vU] [] h460 Q))) ∧ (¬ x459 ≤ y4 → mC M7_isOn [.inr (.inr (some (20, 0, 0))), .inl y1] h458 (kI (fun x462 h461 => (x462 = 0 → mC M7_bookC [.inr (.inr (some (20, 0, 0))), .inl y1, .inl 8, .inl (x457 + 0)] h461 (kV (fun h463 => mE M7_move 180 [vR 20 0 0, vI y1, vU, vU, vU] [] h463 Q))) ∧ (¬ x462 = 0 → mC M7_bookC [.inr (.inr (some (20, 0, 0))), .inl y1, .inl 8, .inl (x457 + 1)] h461 (kV (fun h464 => mE M7_move 180 [vR 20 0 0, vI y1, vU, vU, vU] [] h464 Q))))))))))) : mE M7_move 141 [vR 20 0 0, vI y1, vU, vU, vI y4] [] h Q := by
  refine mE.aload_n dX7_move_141 rfl ?_
  refine mE.iload_n dX7_move_142 rfl ?_
  refine mE.bipush (v := 8) dX7_move_143 (by decide) ?_
  refine mE.aload_n dX7_move_145 rfl ?_
  refine mE.iload_n dX7_move_146 rfl ?_
  refine mE.bipush (v := 8) dX7_move_147 (by decide) ?_
  refine mE.callV (as := [.inl y1, .inl 8]) (k := 20) (r := 0) (i := 0) (st := [vI 8, vI y1, vR 20 0 0]) dX7_move_149 cf7_move_46 rfl rfl (Nat.le_of_ble_eq_true rfl) (fun _ => Nat.le_of_ble_eq_true rfl) w (kI_on (fun x457 h456 w => ?_))
  refine mE.iload dX7_move_152 rfl ?_
  refine mE.aload_n dX7_move_154 rfl ?_
  refine mE.iload_n dX7_move_155 rfl ?_
  refine mE.iconst (v := 3) dX7_move_156 (by decide) ?_
  refine mE.callV (as := [.inl y1, .inl 3]) (k := 20) (r := 0) (i := 0) (st := [vI y4, vI x457, vI 8, vI y1, vR 20 0 0]) dX7_move_157 cf7_move_46 rfl rfl (Nat.le_of_ble_eq_true rfl) (fun _ => Nat.le_of_ble_eq_true rfl) w (kI_on (fun x459 h458 w => ?_))
  refine mE.icmp_ge (tgt := 175) dX7_move_160 (by decide) (fun c => ?_) (fun c => ?_)
  · have w := w.1 c
    refine mE.iconst (v := 0) dX7_move_175 (by decide) ?_
    refine mE.iadd dX7_move_176 ?_
    refine mE.callV (as := [.inl y1, .inl 8, .inl (x457 + 0)]) (k := 20) (r := 0) (i := 0) (st := []) dX7_move_177 cf7_move_73 rfl rfl (Nat.le_of_ble_eq_true rfl) (fun _ => Nat.le_of_ble_eq_true rfl) w (kV_on (fun h460 w => ?_))
    exact mE.less (by exact ⟨Or.inr rfl, ⟨Or.inr rfl, ⟨Or.inl rfl, ⟨Or.inl rfl, ⟨Or.inl rfl, trivial⟩⟩⟩⟩⟩) w
  · have w := w.2 c
    refine mE.aload_n dX7_move_163 rfl ?_
    refine mE.iload_n dX7_move_164 rfl ?_
    refine mE.callV (as := [.inl y1]) (k := 20) (r := 0) (i := 0) (st := [vI x457, vI 8, vI y1, vR 20 0 0]) dX7_move_165 cf7_move_58 rfl rfl (Nat.le_of_ble_eq_true rfl) (fun _ => Nat.le_of_ble_eq_true rfl) w (kI_on (fun x462 h461 w => ?_))
    refine mE.if_eq (tgt := 175) dX7_move_168 (by decide) (fun c => ?_) (fun c => ?_)
    · have w := w.1 c
      refine mE.iconst (v := 0) dX7_move_175 (by decide) ?_
      refine mE.iadd dX7_move_176 ?_
      refine mE.callV (as := [.inl y1, .inl 8, .inl (x457 + 0)]) (k := 20) (r := 0) (i := 0) (st := []) dX7_move_177 cf7_move_73 rfl rfl (Nat.le_of_ble_eq_true rfl) (fun _ => Nat.le_of_ble_eq_true rfl) w (kV_on (fun h463 w => ?_))
      exact mE.less (by exact ⟨Or.inr rfl, ⟨Or.inr rfl, ⟨Or.inl rfl, ⟨Or.inl rfl, ⟨Or.inl rfl, trivial⟩⟩⟩⟩⟩) w
    · have w := w.2 c
      refine mE.iconst (v := 1) dX7_move_171 (by decide) ?_
      refine mE.goto (tgt := 176) dX7_move_172 (by decide) ?_
      refine mE.iadd dX7_move_176 ?_
      refine mE.callV (as := [.inl y1, .inl 8, .inl (x457 + 1)]) (k := 20) (r := 0) (i := 0) (st := []) dX7_move_177 cf7_move_73 rfl rfl (Nat.le_of_ble_eq_true rfl) (fun _ => Nat.le_of_ble_eq_true rfl) w (kV_on (fun h464 w => ?_))
      exact mE.less (by exact ⟨Or.inr rfl, ⟨Or.inr rfl, ⟨Or.inl rfl, ⟨Or.inl rfl, ⟨Or.inl rfl, trivial⟩⟩⟩⟩⟩) w
theorem w7_moveAll  {h : mH} {Q : mV → mH → Prop} (w : mE M7_moveAll 4 [vR 20 0 0, vI 0, vI 0, vU] [] h Q) : mC M7_moveAll [.inr (.inr (some (20, 0, 0)))] h Q := by
  show mE M7_moveAll 0 [vR 20 0 0, vU, vU, vU] [] h Q
  refine mE.iconst (v := 0) dX7_moveAll_0 (by decide) ?_
  refine mE.istore_n (l2 := [vR 20 0 0, vI 0, vU, vU]) dX7_moveAll_1 (by decide) rfl ?_
  refine mE.iconst (v := 0) dX7_moveAll_2 (by decide) ?_
  refine mE.istore_n (l2 := [vR 20 0 0, vI 0, vI 0, vU]) dX7_moveAll_3 (by decide) rfl ?_
  exact w
theorem w7_moveAll_4 {y1 : Int32} {y2 : Int32} {h : mH} {Q : mV → mH → Prop} (w : vp_in 4 470 ∧ (((h.1 21 0 0 ((4 : Int32).toNatClampNeg)) ≤ y2 → mC M7_layCells [.inr (.inr (some (20, 0, 0)))] h (kV (fun h465 => mE M7_moveAll 92 [vR 20 0 0, vI y1, vI 0, vU] [] h465 Q))) ∧ (¬ (h.1 21 0 0 ((4 : Int32).toNatClampNeg)) ≤ y2 → mC M7_isOn [.inr (.inr (some (20, 0, 0))), .inl y2] h (kI (fun x467 h466 => (x467 = 0 → mE M7_moveAll 4 [vR 20 0 0, vI y1, vI (y2 + 1), vU] [] h466 Q) ∧ (¬ x467 = 0 → mE M7_moveAll 24 [vR 20 0 0, vI y1, vI y2, vI y1] [] h466 Q)))))) : mE M7_moveAll 4 [vR 20 0 0, vI y1, vI y2, vU] [] h Q := by
  refine mE.iload_n dX7_moveAll_4 rfl ?_
  refine mE.aload_n dX7_moveAll_5 rfl ?_
  refine mE.getf (w := .inr (.inr (some (21, 0, 0)))) dX7_moveAll_6 f7_7 rfl ?_
  refine mE.iconst (v := 4) dX7_moveAll_9 (by decide) ?_
  refine mE.iald (x := h.1 21 0 0 ((4 : Int32).toNatClampNeg)) dX7_moveAll_10 rfl rfl w.1 rfl ?_
  have w := w.2
  refine mE.icmp_ge (tgt := 86) dX7_moveAll_11 (by decide) (fun c => ?_) (fun c => ?_)
  · have w := w.1 c
    refine mE.aload_n dX7_moveAll_86 rfl ?_
    refine mE.callV (as := []) (k := 20) (r := 0) (i := 0) (st := []) dX7_moveAll_87 cf7_moveAll_77 rfl rfl (Nat.le_of_ble_eq_true rfl) (fun _ => Nat.le_of_ble_eq_true rfl) w (kV_on (fun h465 w => ?_))
    refine mE.iconst (v := 0) dX7_moveAll_90 (by decide) ?_
    refine mE.istore_n (l2 := [vR 20 0 0, vI y1, vI 0, vU]) dX7_moveAll_91 (by decide) rfl ?_
    exact w
  · have w := w.2 c
    refine mE.aload_n dX7_moveAll_14 rfl ?_
    refine mE.iload_n dX7_moveAll_15 rfl ?_
    refine mE.callV (as := [.inl y2]) (k := 20) (r := 0) (i := 0) (st := []) dX7_moveAll_16 cf7_moveAll_58 rfl rfl (Nat.le_of_ble_eq_true rfl) (fun _ => Nat.le_of_ble_eq_true rfl) w (kI_on (fun x467 h466 w => ?_))
    refine mE.if_eq (tgt := 80) dX7_moveAll_19 (by decide) (fun c => ?_) (fun c => ?_)
    · have w := w.1 c
      refine mE.iinc (v := y2 + 1) (l2 := [vR 20 0 0, vI y1, vI (y2 + 1), vU]) dX7_moveAll_80 rfl rfl (by decide) rfl ?_
      refine mE.goto (tgt := 4) dX7_moveAll_83 (by decide) ?_
      exact w
    · have w := w.2 c
      refine mE.iload_n dX7_moveAll_22 rfl ?_
      refine mE.istore_n (l2 := [vR 20 0 0, vI y1, vI y2, vI y1]) dX7_moveAll_23 (by decide) rfl ?_
      exact w
theorem w7_moveAll_92 {y1 : Int32} {y2 : Int32} {h : mH} {Q : mV → mH → Prop} (w : (y1 ≤ y2 → Q vU h) ∧ (¬ y1 ≤ y2 → vp_in y2 40 ∧ (mC M7_move [.inr (.inr (some (20, 0, 0))), .inl (h.1 28 0 0 y2.toNatClampNeg)] h (kV (fun h468 => mE M7_moveAll 92 [vR 20 0 0, vI y1, vI (y2 + 1), vU] [] h468 Q))))) : mE M7_moveAll 92 [vR 20 0 0, vI y1, vI y2, vU] [] h Q := by
  refine mE.iload_n dX7_moveAll_92 rfl ?_
  refine mE.iload_n dX7_moveAll_93 rfl ?_
  refine mE.icmp_ge (tgt := 113) dX7_moveAll_94 (by decide) (fun c => ?_) (fun c => ?_)
  · have w := w.1 c
    exact mE.vret dX7_moveAll_113 rfl w
  · have w := w.2 c
    refine mE.aload_n dX7_moveAll_97 rfl ?_
    refine mE.aload_n dX7_moveAll_98 rfl ?_
    refine mE.getf (w := .inr (.inr (some (28, 0, 0)))) dX7_moveAll_99 f7_32 rfl ?_
    refine mE.iload_n dX7_moveAll_102 rfl ?_
    refine mE.iald (x := h.1 28 0 0 y2.toNatClampNeg) dX7_moveAll_103 rfl rfl w.1 rfl ?_
    have w := w.2
    refine mE.callV (as := [.inl (h.1 28 0 0 y2.toNatClampNeg)]) (k := 20) (r := 0) (i := 0) (st := []) dX7_moveAll_104 cf7_moveAll_80 rfl rfl (Nat.le_of_ble_eq_true rfl) (fun _ => Nat.le_of_ble_eq_true rfl) w (kV_on (fun h468 w => ?_))
    refine mE.iinc (v := y2 + 1) (l2 := [vR 20 0 0, vI y1, vI (y2 + 1), vU]) dX7_moveAll_107 rfl rfl (by decide) rfl ?_
    refine mE.goto (tgt := 92) dX7_moveAll_110 (by decide) ?_
    exact w
theorem w7_moveAll_24 {y1 : Int32} {y2 : Int32} {y3 : Int32} {h : mH} {Q : mV → mH → Prop} (w : (y3 ≤ 0 → vp_in y3 40 ∧ (mE M7_moveAll 4 [vR 20 0 0, vI (y1 + 1), vI (y2 + 1), vU] [] (pI h 28 0 0 y3.toNatClampNeg y2) Q)) ∧ (¬ y3 ≤ 0 → vp_in (y3 - 1) 40 ∧ (mC M7_ofC [.inr (.inr (some (20, 0, 0))), .inl (h.1 28 0 0 ((y3 - 1).toNatClampNeg)), .inl 1] h (kI (fun x470 h469 => mC M7_ofC [.inr (.inr (some (20, 0, 0))), .inl y2, .inl 1] h469 (kI (fun x472 h471 => (x472 ≤ x470 → vp_in y3 40 ∧ (mE M7_moveAll 4 [vR 20 0 0, vI (y1 + 1), vI (y2 + 1), vU] [] (pI h471 28 0 0 y3.toNatClampNeg y2) Q)) ∧ (¬ x472 ≤ x470 → vp_in (y3 - 1) 40 ∧ (vp_in y3 40 ∧ (mE M7_moveAll 24 [vR 20 0 0, vI y1, vI y2, vI (y3 + (-1))] [] (pI h471 28 0 0 y3.toNatClampNeg (h471.1 28 0 0 ((y3 - 1).toNatClampNeg))) Q)))))))))) : mE M7_moveAll 24 [vR 20 0 0, vI y1, vI y2, vI y3] [] h Q := by
  refine mE.iload_n dX7_moveAll_24 rfl ?_
  refine mE.if_le (tgt := 70) dX7_moveAll_25 (by decide) (fun c => ?_) (fun c => ?_)
  · have w := w.1 c
    refine mE.aload_n dX7_moveAll_70 rfl ?_
    refine mE.getf (w := .inr (.inr (some (28, 0, 0)))) dX7_moveAll_71 f7_32 rfl ?_
    refine mE.iload_n dX7_moveAll_74 rfl ?_
    refine mE.iload_n dX7_moveAll_75 rfl ?_
    refine mE.iast dX7_moveAll_76 rfl rfl (fun _ _ _ _ => rfl) w.1 ?_
    have w := w.2
    refine mE.iinc (v := y1 + 1) (l2 := [vR 20 0 0, vI (y1 + 1), vI y2, vI y3]) dX7_moveAll_77 rfl rfl (by decide) rfl ?_
    refine mE.iinc (v := y2 + 1) (l2 := [vR 20 0 0, vI (y1 + 1), vI (y2 + 1), vI y3]) dX7_moveAll_80 rfl rfl (by decide) rfl ?_
    refine mE.goto (tgt := 4) dX7_moveAll_83 (by decide) ?_
    exact mE.less (by exact ⟨Or.inr rfl, ⟨Or.inr rfl, ⟨Or.inr rfl, ⟨Or.inl rfl, trivial⟩⟩⟩⟩) w
  · have w := w.2 c
    refine mE.aload_n dX7_moveAll_28 rfl ?_
    refine mE.aload_n dX7_moveAll_29 rfl ?_
    refine mE.getf (w := .inr (.inr (some (28, 0, 0)))) dX7_moveAll_30 f7_32 rfl ?_
    refine mE.iload_n dX7_moveAll_33 rfl ?_
    refine mE.iconst (v := 1) dX7_moveAll_34 (by decide) ?_
    refine mE.isub dX7_moveAll_35 ?_
    refine mE.iald (x := h.1 28 0 0 ((y3 - 1).toNatClampNeg)) dX7_moveAll_36 rfl rfl w.1 rfl ?_
    have w := w.2
    refine mE.iconst (v := 1) dX7_moveAll_37 (by decide) ?_
    refine mE.callV (as := [.inl (h.1 28 0 0 ((y3 - 1).toNatClampNeg)), .inl 1]) (k := 20) (r := 0) (i := 0) (st := []) dX7_moveAll_38 cf7_moveAll_46 rfl rfl (Nat.le_of_ble_eq_true rfl) (fun _ => Nat.le_of_ble_eq_true rfl) w (kI_on (fun x470 h469 w => ?_))
    refine mE.aload_n dX7_moveAll_41 rfl ?_
    refine mE.iload_n dX7_moveAll_42 rfl ?_
    refine mE.iconst (v := 1) dX7_moveAll_43 (by decide) ?_
    refine mE.callV (as := [.inl y2, .inl 1]) (k := 20) (r := 0) (i := 0) (st := [vI x470]) dX7_moveAll_44 cf7_moveAll_46 rfl rfl (Nat.le_of_ble_eq_true rfl) (fun _ => Nat.le_of_ble_eq_true rfl) w (kI_on (fun x472 h471 w => ?_))
    refine mE.icmp_ge (tgt := 70) dX7_moveAll_47 (by decide) (fun c => ?_) (fun c => ?_)
    · have w := w.1 c
      refine mE.aload_n dX7_moveAll_70 rfl ?_
      refine mE.getf (w := .inr (.inr (some (28, 0, 0)))) dX7_moveAll_71 f7_32 rfl ?_
      refine mE.iload_n dX7_moveAll_74 rfl ?_
      refine mE.iload_n dX7_moveAll_75 rfl ?_
      refine mE.iast dX7_moveAll_76 rfl rfl (fun _ _ _ _ => rfl) w.1 ?_
      have w := w.2
      refine mE.iinc (v := y1 + 1) (l2 := [vR 20 0 0, vI (y1 + 1), vI y2, vI y3]) dX7_moveAll_77 rfl rfl (by decide) rfl ?_
      refine mE.iinc (v := y2 + 1) (l2 := [vR 20 0 0, vI (y1 + 1), vI (y2 + 1), vI y3]) dX7_moveAll_80 rfl rfl (by decide) rfl ?_
      refine mE.goto (tgt := 4) dX7_moveAll_83 (by decide) ?_
      exact mE.less (by exact ⟨Or.inr rfl, ⟨Or.inr rfl, ⟨Or.inr rfl, ⟨Or.inl rfl, trivial⟩⟩⟩⟩) w
    · have w := w.2 c
      refine mE.aload_n dX7_moveAll_50 rfl ?_
      refine mE.getf (w := .inr (.inr (some (28, 0, 0)))) dX7_moveAll_51 f7_32 rfl ?_
      refine mE.iload_n dX7_moveAll_54 rfl ?_
      refine mE.aload_n dX7_moveAll_55 rfl ?_
      refine mE.getf (w := .inr (.inr (some (28, 0, 0)))) dX7_moveAll_56 f7_32 rfl ?_
      refine mE.iload_n dX7_moveAll_59 rfl ?_
      refine mE.iconst (v := 1) dX7_moveAll_60 (by decide) ?_
      refine mE.isub dX7_moveAll_61 ?_
      refine mE.iald (x := h471.1 28 0 0 ((y3 - 1).toNatClampNeg)) dX7_moveAll_62 rfl rfl w.1 rfl ?_
      have w := w.2
      refine mE.iast dX7_moveAll_63 rfl rfl (fun _ _ _ _ => rfl) w.1 ?_
      have w := w.2
      refine mE.iinc (v := y3 + (-1)) (l2 := [vR 20 0 0, vI y1, vI y2, vI (y3 + (-1))]) dX7_moveAll_64 rfl rfl (by decide) rfl ?_
      refine mE.goto (tgt := 24) dX7_moveAll_67 (by decide) ?_
      exact w
theorem w7_isOver {a1 : Int32} {a2 : Int32} {h : mH} {Q : mV → mH → Prop} (w : mC M7_ofL [.inr (.inr (some (20, 0, 0))), .inl a2, .inl 1] h (kI (fun x474 h473 => mC M7_ofL [.inr (.inr (some (20, 0, 0))), .inl a2, .inl 2] h473 (kI (fun x476 h475 => mC M7_isOn [.inr (.inr (some (20, 0, 0))), .inl a1] h475 (kI (fun x478 h477 => (x478 = 0 → Q (vI 0) h477) ∧ (¬ x478 = 0 → mC M7_ofC [.inr (.inr (some (20, 0, 0))), .inl a1, .inl 0] h477 (kI (fun x480 h479 => mC M7_ofL [.inr (.inr (some (20, 0, 0))), .inl a2, .inl 0] h479 (kI (fun x482 h481 => (¬ x480 = x482 → Q (vI 0) h481) ∧ (x480 = x482 → mC M7_ofC [.inr (.inr (some (20, 0, 0))), .inl a1, .inl 1] h481 (kI (fun x484 h483 => (x484 < x474 → Q (vI 0) h483) ∧ (¬ x484 < x474 → mC M7_lastCell [.inr (.inr (some (20, 0, 0))), .inl a1] h483 (kI (fun x486 h485 => (((x474 + x476) - 1) < x486 → Q (vI 0) h485) ∧ (¬ ((x474 + x476) - 1) < x486 → Q (vI 1) h485))))))))))))))))))) : mC M7_isOver [.inr (.inr (some (20, 0, 0))), .inl a1, .inl a2] h Q := by
  show mE M7_isOver 0 [vR 20 0 0, vI a1, vI a2, vU, vU] [] h Q
  refine mE.aload_n dX7_isOver_0 rfl ?_
  refine mE.iload_n dX7_isOver_1 rfl ?_
  refine mE.iconst (v := 1) dX7_isOver_2 (by decide) ?_
  refine mE.callV (as := [.inl a2, .inl 1]) (k := 20) (r := 0) (i := 0) (st := []) dX7_isOver_3 cf7_isOver_84 rfl rfl (Nat.le_of_ble_eq_true rfl) (fun _ => Nat.le_of_ble_eq_true rfl) w (kI_on (fun x474 h473 w => ?_))
  refine mE.istore_n (l2 := [vR 20 0 0, vI a1, vI a2, vI x474, vU]) dX7_isOver_6 (by decide) rfl ?_
  refine mE.iload_n dX7_isOver_7 rfl ?_
  refine mE.aload_n dX7_isOver_8 rfl ?_
  refine mE.iload_n dX7_isOver_9 rfl ?_
  refine mE.iconst (v := 2) dX7_isOver_10 (by decide) ?_
  refine mE.callV (as := [.inl a2, .inl 2]) (k := 20) (r := 0) (i := 0) (st := [vI x474]) dX7_isOver_11 cf7_isOver_84 rfl rfl (Nat.le_of_ble_eq_true rfl) (fun _ => Nat.le_of_ble_eq_true rfl) w (kI_on (fun x476 h475 w => ?_))
  refine mE.iadd dX7_isOver_14 ?_
  refine mE.iconst (v := 1) dX7_isOver_15 (by decide) ?_
  refine mE.isub dX7_isOver_16 ?_
  refine mE.istore (l2 := [vR 20 0 0, vI a1, vI a2, vI x474, vI ((x474 + x476) - 1)]) dX7_isOver_17 (by decide) rfl ?_
  refine mE.aload_n dX7_isOver_19 rfl ?_
  refine mE.iload_n dX7_isOver_20 rfl ?_
  refine mE.callV (as := [.inl a1]) (k := 20) (r := 0) (i := 0) (st := []) dX7_isOver_21 cf7_isOver_58 rfl rfl (Nat.le_of_ble_eq_true rfl) (fun _ => Nat.le_of_ble_eq_true rfl) w (kI_on (fun x478 h477 w => ?_))
  refine mE.if_eq (tgt := 66) dX7_isOver_24 (by decide) (fun c => ?_) (fun c => ?_)
  · have w := w.1 c
    refine mE.iconst (v := 0) dX7_isOver_66 (by decide) ?_
    exact mE.iret dX7_isOver_67 rfl rfl w
  · have w := w.2 c
    refine mE.aload_n dX7_isOver_27 rfl ?_
    refine mE.iload_n dX7_isOver_28 rfl ?_
    refine mE.iconst (v := 0) dX7_isOver_29 (by decide) ?_
    refine mE.callV (as := [.inl a1, .inl 0]) (k := 20) (r := 0) (i := 0) (st := []) dX7_isOver_30 cf7_isOver_46 rfl rfl (Nat.le_of_ble_eq_true rfl) (fun _ => Nat.le_of_ble_eq_true rfl) w (kI_on (fun x480 h479 w => ?_))
    refine mE.aload_n dX7_isOver_33 rfl ?_
    refine mE.iload_n dX7_isOver_34 rfl ?_
    refine mE.iconst (v := 0) dX7_isOver_35 (by decide) ?_
    refine mE.callV (as := [.inl a2, .inl 0]) (k := 20) (r := 0) (i := 0) (st := [vI x480]) dX7_isOver_36 cf7_isOver_84 rfl rfl (Nat.le_of_ble_eq_true rfl) (fun _ => Nat.le_of_ble_eq_true rfl) w (kI_on (fun x482 h481 w => ?_))
    refine mE.icmp_ne (tgt := 66) dX7_isOver_39 (by decide) (fun c => ?_) (fun c => ?_)
    · have w := w.1 c
      refine mE.iconst (v := 0) dX7_isOver_66 (by decide) ?_
      exact mE.iret dX7_isOver_67 rfl rfl w
    · have w := w.2 c
      refine mE.aload_n dX7_isOver_42 rfl ?_
      refine mE.iload_n dX7_isOver_43 rfl ?_
      refine mE.iconst (v := 1) dX7_isOver_44 (by decide) ?_
      refine mE.callV (as := [.inl a1, .inl 1]) (k := 20) (r := 0) (i := 0) (st := []) dX7_isOver_45 cf7_isOver_46 rfl rfl (Nat.le_of_ble_eq_true rfl) (fun _ => Nat.le_of_ble_eq_true rfl) w (kI_on (fun x484 h483 w => ?_))
      refine mE.iload_n dX7_isOver_48 rfl ?_
      refine mE.icmp_lt (tgt := 66) dX7_isOver_49 (by decide) (fun c => ?_) (fun c => ?_)
      · have w := w.1 c
        refine mE.iconst (v := 0) dX7_isOver_66 (by decide) ?_
        exact mE.iret dX7_isOver_67 rfl rfl w
      · have w := w.2 c
        refine mE.aload_n dX7_isOver_52 rfl ?_
        refine mE.iload_n dX7_isOver_53 rfl ?_
        refine mE.callV (as := [.inl a1]) (k := 20) (r := 0) (i := 0) (st := []) dX7_isOver_54 cf7_isOver_50 rfl rfl (Nat.le_of_ble_eq_true rfl) (fun _ => Nat.le_of_ble_eq_true rfl) w (kI_on (fun x486 h485 w => ?_))
        refine mE.iload dX7_isOver_57 rfl ?_
        refine mE.icmp_gt (tgt := 66) dX7_isOver_59 (by decide) (fun c => ?_) (fun c => ?_)
        · have w := w.1 c
          refine mE.iconst (v := 0) dX7_isOver_66 (by decide) ?_
          exact mE.iret dX7_isOver_67 rfl rfl w
        · have w := w.2 c
          refine mE.iconst (v := 1) dX7_isOver_62 (by decide) ?_
          refine mE.goto (tgt := 67) dX7_isOver_63 (by decide) ?_
          exact mE.iret dX7_isOver_67 rfl rfl w
theorem w7_overBy {a1 : Int32} {h : mH} {Q : mV → mH → Prop} (w : mE M7_overBy 4 [vR 20 0 0, vI a1, vI 0, vI 0] [] h Q) : mC M7_overBy [.inr (.inr (some (20, 0, 0))), .inl a1] h Q := by
  show mE M7_overBy 0 [vR 20 0 0, vI a1, vU, vU] [] h Q
  refine mE.iconst (v := 0) dX7_overBy_0 (by decide) ?_
  refine mE.istore_n (l2 := [vR 20 0 0, vI a1, vI 0, vU]) dX7_overBy_1 (by decide) rfl ?_
  refine mE.iconst (v := 0) dX7_overBy_2 (by decide) ?_
  refine mE.istore_n (l2 := [vR 20 0 0, vI a1, vI 0, vI 0]) dX7_overBy_3 (by decide) rfl ?_
  exact w
theorem w7_overBy_4 {y1 : Int32} {y2 : Int32} {y3 : Int32} {h : mH} {Q : mV → mH → Prop} (w : vp_in 3 470 ∧ (((h.1 21 0 0 ((3 : Int32).toNatClampNeg)) ≤ y3 → Q (vI y2) h) ∧ (¬ (h.1 21 0 0 ((3 : Int32).toNatClampNeg)) ≤ y3 → mC M7_isOver [.inr (.inr (some (20, 0, 0))), .inl y1, .inl y3] h (kI (fun x488 h487 => (x488 = 0 → mE M7_overBy 4 [vR 20 0 0, vI y1, vI (y2 ||| 0), vI (y3 + 1)] [] h487 Q) ∧ (¬ x488 = 0 → mE M7_overBy 4 [vR 20 0 0, vI y1, vI (y2 ||| (1 <<< (y3 &&& 31))), vI (y3 + 1)] [] h487 Q)))))) : mE M7_overBy 4 [vR 20 0 0, vI y1, vI y2, vI y3] [] h Q := by
  refine mE.iload_n dX7_overBy_4 rfl ?_
  refine mE.aload_n dX7_overBy_5 rfl ?_
  refine mE.getf (w := .inr (.inr (some (21, 0, 0)))) dX7_overBy_6 f7_7 rfl ?_
  refine mE.iconst (v := 3) dX7_overBy_9 (by decide) ?_
  refine mE.iald (x := h.1 21 0 0 ((3 : Int32).toNatClampNeg)) dX7_overBy_10 rfl rfl w.1 rfl ?_
  have w := w.2
  refine mE.icmp_ge (tgt := 39) dX7_overBy_11 (by decide) (fun c => ?_) (fun c => ?_)
  · have w := w.1 c
    refine mE.iload_n dX7_overBy_39 rfl ?_
    exact mE.iret dX7_overBy_40 rfl rfl w
  · have w := w.2 c
    refine mE.iload_n dX7_overBy_14 rfl ?_
    refine mE.aload_n dX7_overBy_15 rfl ?_
    refine mE.iload_n dX7_overBy_16 rfl ?_
    refine mE.iload_n dX7_overBy_17 rfl ?_
    refine mE.callV (as := [.inl y1, .inl y3]) (k := 20) (r := 0) (i := 0) (st := [vI y2]) dX7_overBy_18 cf7_overBy_87 rfl rfl (Nat.le_of_ble_eq_true rfl) (fun _ => Nat.le_of_ble_eq_true rfl) w (kI_on (fun x488 h487 w => ?_))
    refine mE.if_eq (tgt := 30) dX7_overBy_21 (by decide) (fun c => ?_) (fun c => ?_)
    · have w := w.1 c
      refine mE.iconst (v := 0) dX7_overBy_30 (by decide) ?_
      refine mE.ior dX7_overBy_31 ?_
      refine mE.istore_n (l2 := [vR 20 0 0, vI y1, vI (y2 ||| 0), vI y3]) dX7_overBy_32 (by decide) rfl ?_
      refine mE.iinc (v := y3 + 1) (l2 := [vR 20 0 0, vI y1, vI (y2 ||| 0), vI (y3 + 1)]) dX7_overBy_33 rfl rfl (by decide) rfl ?_
      refine mE.goto (tgt := 4) dX7_overBy_36 (by decide) ?_
      exact w
    · have w := w.2 c
      refine mE.iconst (v := 1) dX7_overBy_24 (by decide) ?_
      refine mE.iload_n dX7_overBy_25 rfl ?_
      refine mE.ishl dX7_overBy_26 ?_
      refine mE.goto (tgt := 31) dX7_overBy_27 (by decide) ?_
      refine mE.ior dX7_overBy_31 ?_
      refine mE.istore_n (l2 := [vR 20 0 0, vI y1, vI (y2 ||| (1 <<< (y3 &&& 31))), vI y3]) dX7_overBy_32 (by decide) rfl ?_
      refine mE.iinc (v := y3 + 1) (l2 := [vR 20 0 0, vI y1, vI (y2 ||| (1 <<< (y3 &&& 31))), vI (y3 + 1)]) dX7_overBy_33 rfl rfl (by decide) rfl ?_
      refine mE.goto (tgt := 4) dX7_overBy_36 (by decide) ?_
      exact w
theorem w7_passAll  {h : mH} {Q : mV → mH → Prop} (w : mE M7_passAll 2 [vR 20 0 0, vI 0, vU, vU] [] h Q) : mC M7_passAll [.inr (.inr (some (20, 0, 0)))] h Q := by
  show mE M7_passAll 0 [vR 20 0 0, vU, vU, vU] [] h Q
  refine mE.iconst (v := 0) dX7_passAll_0 (by decide) ?_
  refine mE.istore_n (l2 := [vR 20 0 0, vI 0, vU, vU]) dX7_passAll_1 (by decide) rfl ?_
  exact w
theorem w7_passAll_2 {y1 : Int32} {h : mH} {Q : mV → mH → Prop} (w : vp_in 4 470 ∧ (((h.1 21 0 0 ((4 : Int32).toNatClampNeg)) ≤ y1 → Q vU h) ∧ (¬ (h.1 21 0 0 ((4 : Int32).toNatClampNeg)) ≤ y1 → mC M7_overBy [.inr (.inr (some (20, 0, 0))), .inl y1] h (kI (fun x490 h489 => mE M7_passAll 20 [vR 20 0 0, vI y1, vI x490, vI 0] [] h489 Q))))) : mE M7_passAll 2 [vR 20 0 0, vI y1, vU, vU] [] h Q := by
  refine mE.iload_n dX7_passAll_2 rfl ?_
  refine mE.aload_n dX7_passAll_3 rfl ?_
  refine mE.getf (w := .inr (.inr (some (21, 0, 0)))) dX7_passAll_4 f7_7 rfl ?_
  refine mE.iconst (v := 4) dX7_passAll_7 (by decide) ?_
  refine mE.iald (x := h.1 21 0 0 ((4 : Int32).toNatClampNeg)) dX7_passAll_8 rfl rfl w.1 rfl ?_
  have w := w.2
  refine mE.icmp_ge (tgt := 82) dX7_passAll_9 (by decide) (fun c => ?_) (fun c => ?_)
  · have w := w.1 c
    exact mE.vret dX7_passAll_82 rfl w
  · have w := w.2 c
    refine mE.aload_n dX7_passAll_12 rfl ?_
    refine mE.iload_n dX7_passAll_13 rfl ?_
    refine mE.callV (as := [.inl y1]) (k := 20) (r := 0) (i := 0) (st := []) dX7_passAll_14 cf7_passAll_90 rfl rfl (Nat.le_of_ble_eq_true rfl) (fun _ => Nat.le_of_ble_eq_true rfl) w (kI_on (fun x490 h489 w => ?_))
    refine mE.istore_n (l2 := [vR 20 0 0, vI y1, vI x490, vU]) dX7_passAll_17 (by decide) rfl ?_
    refine mE.iconst (v := 0) dX7_passAll_18 (by decide) ?_
    refine mE.istore_n (l2 := [vR 20 0 0, vI y1, vI x490, vI 0]) dX7_passAll_19 (by decide) rfl ?_
    exact w
theorem w7_passAll_20 {y1 : Int32} {y2 : Int32} {y3 : Int32} {h : mH} {Q : mV → mH → Prop} (w : vp_in 3 470 ∧ (((h.1 21 0 0 ((3 : Int32).toNatClampNeg)) ≤ y3 → mC M7_bookC [.inr (.inr (some (20, 0, 0))), .inl y1, .inl 9, .inl y2] h (kV (fun h491 => mE M7_passAll 2 [vR 20 0 0, vI (y1 + 1), vU, vU] [] h491 Q))) ∧ (¬ (h.1 21 0 0 ((3 : Int32).toNatClampNeg)) ≤ y3 → mC M7_ofL [.inr (.inr (some (20, 0, 0))), .inl y3, .inl 7] h (kI (fun x493 h492 => mC M7_ofC [.inr (.inr (some (20, 0, 0))), .inl y1, .inl 9] h492 (kI (fun x495 h494 => mC M7_bookL [.inr (.inr (some (20, 0, 0))), .inl y3, .inl 7, .inl (x493 + (((y2 >>> (y3 &&& 31)) &&& ((x495 >>> (y3 &&& 31)) ^^^ (-1))) &&& 1))] h494 (kV (fun h496 => mE M7_passAll 20 [vR 20 0 0, vI y1, vI y2, vI (y3 + 1)] [] h496 Q))))))))) : mE M7_passAll 20 [vR 20 0 0, vI y1, vI y2, vI y3] [] h Q := by
  refine mE.iload_n dX7_passAll_20 rfl ?_
  refine mE.aload_n dX7_passAll_21 rfl ?_
  refine mE.getf (w := .inr (.inr (some (21, 0, 0)))) dX7_passAll_22 f7_7 rfl ?_
  refine mE.iconst (v := 3) dX7_passAll_25 (by decide) ?_
  refine mE.iald (x := h.1 21 0 0 ((3 : Int32).toNatClampNeg)) dX7_passAll_26 rfl rfl w.1 rfl ?_
  have w := w.2
  refine mE.icmp_ge (tgt := 68) dX7_passAll_27 (by decide) (fun c => ?_) (fun c => ?_)
  · have w := w.1 c
    refine mE.aload_n dX7_passAll_68 rfl ?_
    refine mE.iload_n dX7_passAll_69 rfl ?_
    refine mE.bipush (v := 9) dX7_passAll_70 (by decide) ?_
    refine mE.iload_n dX7_passAll_72 rfl ?_
    refine mE.callV (as := [.inl y1, .inl 9, .inl y2]) (k := 20) (r := 0) (i := 0) (st := []) dX7_passAll_73 cf7_passAll_73 rfl rfl (Nat.le_of_ble_eq_true rfl) (fun _ => Nat.le_of_ble_eq_true rfl) w (kV_on (fun h491 w => ?_))
    refine mE.iinc (v := y1 + 1) (l2 := [vR 20 0 0, vI (y1 + 1), vI y2, vI y3]) dX7_passAll_76 rfl rfl (by decide) rfl ?_
    refine mE.goto (tgt := 2) dX7_passAll_79 (by decide) ?_
    exact mE.less (by exact ⟨Or.inr rfl, ⟨Or.inr rfl, ⟨Or.inl rfl, ⟨Or.inl rfl, trivial⟩⟩⟩⟩) w
  · have w := w.2 c
    refine mE.aload_n dX7_passAll_30 rfl ?_
    refine mE.iload_n dX7_passAll_31 rfl ?_
    refine mE.bipush (v := 7) dX7_passAll_32 (by decide) ?_
    refine mE.aload_n dX7_passAll_34 rfl ?_
    refine mE.iload_n dX7_passAll_35 rfl ?_
    refine mE.bipush (v := 7) dX7_passAll_36 (by decide) ?_
    refine mE.callV (as := [.inl y3, .inl 7]) (k := 20) (r := 0) (i := 0) (st := [vI 7, vI y3, vR 20 0 0]) dX7_passAll_38 cf7_passAll_84 rfl rfl (Nat.le_of_ble_eq_true rfl) (fun _ => Nat.le_of_ble_eq_true rfl) w (kI_on (fun x493 h492 w => ?_))
    refine mE.iload_n dX7_passAll_41 rfl ?_
    refine mE.iload_n dX7_passAll_42 rfl ?_
    refine mE.ishr dX7_passAll_43 ?_
    refine mE.aload_n dX7_passAll_44 rfl ?_
    refine mE.iload_n dX7_passAll_45 rfl ?_
    refine mE.bipush (v := 9) dX7_passAll_46 (by decide) ?_
    refine mE.callV (as := [.inl y1, .inl 9]) (k := 20) (r := 0) (i := 0) (st := [vI (y2 >>> (y3 &&& 31)), vI x493, vI 7, vI y3, vR 20 0 0]) dX7_passAll_48 cf7_passAll_46 rfl rfl (Nat.le_of_ble_eq_true rfl) (fun _ => Nat.le_of_ble_eq_true rfl) w (kI_on (fun x495 h494 w => ?_))
    refine mE.iload_n dX7_passAll_51 rfl ?_
    refine mE.ishr dX7_passAll_52 ?_
    refine mE.iconst (v := -1) dX7_passAll_53 (by decide) ?_
    refine mE.ixor dX7_passAll_54 ?_
    refine mE.iand dX7_passAll_55 ?_
    refine mE.iconst (v := 1) dX7_passAll_56 (by decide) ?_
    refine mE.iand dX7_passAll_57 ?_
    refine mE.iadd dX7_passAll_58 ?_
    refine mE.callV (as := [.inl y3, .inl 7, .inl (x493 + (((y2 >>> (y3 &&& 31)) &&& ((x495 >>> (y3 &&& 31)) ^^^ (-1))) &&& 1))]) (k := 20) (r := 0) (i := 0) (st := []) dX7_passAll_59 cf7_passAll_93 rfl rfl (Nat.le_of_ble_eq_true rfl) (fun _ => Nat.le_of_ble_eq_true rfl) w (kV_on (fun h496 w => ?_))
    refine mE.iinc (v := y3 + 1) (l2 := [vR 20 0 0, vI y1, vI y2, vI (y3 + 1)]) dX7_passAll_62 rfl rfl (by decide) rfl ?_
    refine mE.goto (tgt := 20) dX7_passAll_65 (by decide) ?_
    exact w
theorem w7_metal {a1 : Int32} {a2 : Int32} {h : mH} {Q : mV → mH → Prop} (w : mC M7_ofL [.inr (.inr (some (20, 0, 0))), .inl a1, .inl 1] h (kI (fun x498 h497 => mE M7_metal 10 [vR 20 0 0, vI a1, vI a2, vI 0, vI x498, vU] [] h497 Q))) : mC M7_metal [.inr (.inr (some (20, 0, 0))), .inl a1, .inl a2] h Q := by
  show mE M7_metal 0 [vR 20 0 0, vI a1, vI a2, vU, vU, vU] [] h Q
  refine mE.iconst (v := 0) dX7_metal_0 (by decide) ?_
  refine mE.istore_n (l2 := [vR 20 0 0, vI a1, vI a2, vI 0, vU, vU]) dX7_metal_1 (by decide) rfl ?_
  refine mE.aload_n dX7_metal_2 rfl ?_
  refine mE.iload_n dX7_metal_3 rfl ?_
  refine mE.iconst (v := 1) dX7_metal_4 (by decide) ?_
  refine mE.callV (as := [.inl a1, .inl 1]) (k := 20) (r := 0) (i := 0) (st := []) dX7_metal_5 cf7_metal_84 rfl rfl (Nat.le_of_ble_eq_true rfl) (fun _ => Nat.le_of_ble_eq_true rfl) w (kI_on (fun x498 h497 w => ?_))
  refine mE.istore (l2 := [vR 20 0 0, vI a1, vI a2, vI 0, vI x498, vU]) dX7_metal_8 (by decide) rfl ?_
  exact w
theorem w7_metal_10 {y1 : Int32} {y2 : Int32} {y3 : Int32} {y4 : Int32} {h : mH} {Q : mV → mH → Prop} (w : mC M7_ofL [.inr (.inr (some (20, 0, 0))), .inl y1, .inl 1] h (kI (fun x500 h499 => mC M7_ofL [.inr (.inr (some (20, 0, 0))), .inl y1, .inl 2] h499 (kI (fun x502 h501 => ((x500 + x502) ≤ y4 → Q (vI y3) h501) ∧ (¬ (x500 + x502) ≤ y4 → vp_in ((40 * y2) + y4) 80 ∧ ((0 ≤ (h501.1 27 0 0 (((40 * y2) + y4).toNatClampNeg)) → mC M7_ofC [.inr (.inr (some (20, 0, 0))), .inl (h501.1 27 0 0 (((40 * y2) + y4).toNatClampNeg)), .inl 4] h501 (kI (fun x504 h503 => mE M7_metal 10 [vR 20 0 0, vI y1, vI y2, vI (y3 + x504), vI (y4 + 1), vU] [] h503 Q))) ∧ (¬ 0 ≤ (h501.1 27 0 0 (((40 * y2) + y4).toNatClampNeg)) → mE M7_metal 10 [vR 20 0 0, vI y1, vI y2, vI (y3 + 0), vI (y4 + 1), vU] [] h501 Q)))))))) : mE M7_metal 10 [vR 20 0 0, vI y1, vI y2, vI y3, vI y4, vU] [] h Q := by
  refine mE.iload dX7_metal_10 rfl ?_
  refine mE.aload_n dX7_metal_12 rfl ?_
  refine mE.iload_n dX7_metal_13 rfl ?_
  refine mE.iconst (v := 1) dX7_metal_14 (by decide) ?_
  refine mE.callV (as := [.inl y1, .inl 1]) (k := 20) (r := 0) (i := 0) (st := [vI y4]) dX7_metal_15 cf7_metal_84 rfl rfl (Nat.le_of_ble_eq_true rfl) (fun _ => Nat.le_of_ble_eq_true rfl) w (kI_on (fun x500 h499 w => ?_))
  refine mE.aload_n dX7_metal_18 rfl ?_
  refine mE.iload_n dX7_metal_19 rfl ?_
  refine mE.iconst (v := 2) dX7_metal_20 (by decide) ?_
  refine mE.callV (as := [.inl y1, .inl 2]) (k := 20) (r := 0) (i := 0) (st := [vI x500, vI y4]) dX7_metal_21 cf7_metal_84 rfl rfl (Nat.le_of_ble_eq_true rfl) (fun _ => Nat.le_of_ble_eq_true rfl) w (kI_on (fun x502 h501 w => ?_))
  refine mE.iadd dX7_metal_24 ?_
  refine mE.icmp_ge (tgt := 67) dX7_metal_25 (by decide) (fun c => ?_) (fun c => ?_)
  · have w := w.1 c
    refine mE.iload_n dX7_metal_67 rfl ?_
    exact mE.iret dX7_metal_68 rfl rfl w
  · have w := w.2 c
    refine mE.aload_n dX7_metal_28 rfl ?_
    refine mE.getf (w := .inr (.inr (some (27, 0, 0)))) dX7_metal_29 f7_29 rfl ?_
    refine mE.bipush (v := 40) dX7_metal_32 (by decide) ?_
    refine mE.iload_n dX7_metal_34 rfl ?_
    refine mE.imul dX7_metal_35 ?_
    refine mE.iload dX7_metal_36 rfl ?_
    refine mE.iadd dX7_metal_38 ?_
    refine mE.iald (x := h501.1 27 0 0 (((40 * y2) + y4).toNatClampNeg)) dX7_metal_39 rfl rfl w.1 rfl ?_
    have w := w.2
    refine mE.istore (l2 := [vR 20 0 0, vI y1, vI y2, vI y3, vI y4, vI (h501.1 27 0 0 (((40 * y2) + y4).toNatClampNeg))]) dX7_metal_40 (by decide) rfl ?_
    refine mE.iload_n dX7_metal_42 rfl ?_
    refine mE.iload dX7_metal_43 rfl ?_
    refine mE.if_ge (tgt := 52) dX7_metal_45 (by decide) (fun c => ?_) (fun c => ?_)
    · have w := w.1 c
      refine mE.aload_n dX7_metal_52 rfl ?_
      refine mE.iload dX7_metal_53 rfl ?_
      refine mE.iconst (v := 4) dX7_metal_55 (by decide) ?_
      refine mE.callV (as := [.inl (h501.1 27 0 0 (((40 * y2) + y4).toNatClampNeg)), .inl 4]) (k := 20) (r := 0) (i := 0) (st := [vI y3]) dX7_metal_56 cf7_metal_46 rfl rfl (Nat.le_of_ble_eq_true rfl) (fun _ => Nat.le_of_ble_eq_true rfl) w (kI_on (fun x504 h503 w => ?_))
      refine mE.iadd dX7_metal_59 ?_
      refine mE.istore_n (l2 := [vR 20 0 0, vI y1, vI y2, vI (y3 + x504), vI y4, vI (h501.1 27 0 0 (((40 * y2) + y4).toNatClampNeg))]) dX7_metal_60 (by decide) rfl ?_
      refine mE.iinc (v := y4 + 1) (l2 := [vR 20 0 0, vI y1, vI y2, vI (y3 + x504), vI (y4 + 1), vI (h501.1 27 0 0 (((40 * y2) + y4).toNatClampNeg))]) dX7_metal_61 rfl rfl (by decide) rfl ?_
      refine mE.goto (tgt := 10) dX7_metal_64 (by decide) ?_
      exact mE.less (by exact ⟨Or.inr rfl, ⟨Or.inr rfl, ⟨Or.inr rfl, ⟨Or.inr rfl, ⟨Or.inr rfl, ⟨Or.inl rfl, trivial⟩⟩⟩⟩⟩⟩) w
    · have w := w.2 c
      refine mE.iconst (v := 0) dX7_metal_48 (by decide) ?_
      refine mE.goto (tgt := 59) dX7_metal_49 (by decide) ?_
      refine mE.iadd dX7_metal_59 ?_
      refine mE.istore_n (l2 := [vR 20 0 0, vI y1, vI y2, vI (y3 + 0), vI y4, vI (h501.1 27 0 0 (((40 * y2) + y4).toNatClampNeg))]) dX7_metal_60 (by decide) rfl ?_
      refine mE.iinc (v := y4 + 1) (l2 := [vR 20 0 0, vI y1, vI y2, vI (y3 + 0), vI (y4 + 1), vI (h501.1 27 0 0 (((40 * y2) + y4).toNatClampNeg))]) dX7_metal_61 rfl rfl (by decide) rfl ?_
      refine mE.goto (tgt := 10) dX7_metal_64 (by decide) ?_
      exact mE.less (by exact ⟨Or.inr rfl, ⟨Or.inr rfl, ⟨Or.inr rfl, ⟨Or.inr rfl, ⟨Or.inr rfl, ⟨Or.inl rfl, trivial⟩⟩⟩⟩⟩⟩) w
theorem w7_strength {a1 : Int32} {h : mH} {Q : mV → mH → Prop} (w : mC M7_ofL [.inr (.inr (some (20, 0, 0))), .inl a1, .inl 0] h (kI (fun x506 h505 => mC M7_metal [.inr (.inr (some (20, 0, 0))), .inl a1, .inl x506] h505 (kI (fun x508 h507 => vp_in 0 470 ∧ (mC M7_metal [.inr (.inr (some (20, 0, 0))), .inl a1, .inl (1 - x506)] h507 (kI (fun x510 h509 => Q (vI ((4 * x508) + ((h507.1 21 0 0 ((0 : Int32).toNatClampNeg)) * x510))) h509)))))))) : mC M7_strength [.inr (.inr (some (20, 0, 0))), .inl a1] h Q := by
  show mE M7_strength 0 [vR 20 0 0, vI a1, vU] [] h Q
  refine mE.aload_n dX7_strength_0 rfl ?_
  refine mE.iload_n dX7_strength_1 rfl ?_
  refine mE.iconst (v := 0) dX7_strength_2 (by decide) ?_
  refine mE.callV (as := [.inl a1, .inl 0]) (k := 20) (r := 0) (i := 0) (st := []) dX7_strength_3 cf7_strength_84 rfl rfl (Nat.le_of_ble_eq_true rfl) (fun _ => Nat.le_of_ble_eq_true rfl) w (kI_on (fun x506 h505 w => ?_))
  refine mE.istore_n (l2 := [vR 20 0 0, vI a1, vI x506]) dX7_strength_6 (by decide) rfl ?_
  refine mE.iconst (v := 4) dX7_strength_7 (by decide) ?_
  refine mE.aload_n dX7_strength_8 rfl ?_
  refine mE.iload_n dX7_strength_9 rfl ?_
  refine mE.iload_n dX7_strength_10 rfl ?_
  refine mE.callV (as := [.inl a1, .inl x506]) (k := 20) (r := 0) (i := 0) (st := [vI 4]) dX7_strength_11 cf7_strength_96 rfl rfl (Nat.le_of_ble_eq_true rfl) (fun _ => Nat.le_of_ble_eq_true rfl) w (kI_on (fun x508 h507 w => ?_))
  refine mE.imul dX7_strength_14 ?_
  refine mE.aload_n dX7_strength_15 rfl ?_
  refine mE.getf (w := .inr (.inr (some (21, 0, 0)))) dX7_strength_16 f7_7 rfl ?_
  refine mE.iconst (v := 0) dX7_strength_19 (by decide) ?_
  refine mE.iald (x := h507.1 21 0 0 ((0 : Int32).toNatClampNeg)) dX7_strength_20 rfl rfl w.1 rfl ?_
  have w := w.2
  refine mE.aload_n dX7_strength_21 rfl ?_
  refine mE.iload_n dX7_strength_22 rfl ?_
  refine mE.iconst (v := 1) dX7_strength_23 (by decide) ?_
  refine mE.iload_n dX7_strength_24 rfl ?_
  refine mE.isub dX7_strength_25 ?_
  refine mE.callV (as := [.inl a1, .inl (1 - x506)]) (k := 20) (r := 0) (i := 0) (st := [vI (h507.1 21 0 0 ((0 : Int32).toNatClampNeg)), vI (4 * x508)]) dX7_strength_26 cf7_strength_96 rfl rfl (Nat.le_of_ble_eq_true rfl) (fun _ => Nat.le_of_ble_eq_true rfl) w (kI_on (fun x510 h509 w => ?_))
  refine mE.imul dX7_strength_29 ?_
  refine mE.iadd dX7_strength_30 ?_
  exact mE.iret dX7_strength_31 rfl rfl w
theorem w7_listen {a1 : Int32} {h : mH} {Q : mV → mH → Prop} (w : mC M7_strength [.inr (.inr (some (20, 0, 0))), .inl a1] h (kI (fun x512 h511 => mC M7_ofL [.inr (.inr (some (20, 0, 0))), .inl a1, .inl 9] h511 (kI (fun x514 h513 => mC M7_bookL [.inr (.inr (some (20, 0, 0))), .inl a1, .inl 9, .inl (x514 + 1)] h513 (kV (fun h515 => mC M7_ofL [.inr (.inr (some (20, 0, 0))), .inl a1, .inl 5] h515 (kI (fun x517 h516 => (¬ x517 = 0 → mC M7_ofL [.inr (.inr (some (20, 0, 0))), .inl a1, .inl 5] h516 (kI (fun x519 h518 => (¬ x519 = 1 → Q vU h518) ∧ (x519 = 1 → mC M7_ofL [.inr (.inr (some (20, 0, 0))), .inl a1, .inl 4] h518 (kI (fun x521 h520 => (x521 ≤ x512 → Q vU h520) ∧ (¬ x521 ≤ x512 → mC M7_bookL [.inr (.inr (some (20, 0, 0))), .inl a1, .inl 5, .inl 0] h520 (kV (fun h522 => Q vU h522))))))))) ∧ (x517 = 0 → mC M7_ofL [.inr (.inr (some (20, 0, 0))), .inl a1, .inl 3] h516 (kI (fun x524 h523 => (x512 < x524 → mC M7_ofL [.inr (.inr (some (20, 0, 0))), .inl a1, .inl 5] h523 (kI (fun x526 h525 => (¬ x526 = 1 → Q vU h525) ∧ (x526 = 1 → mC M7_ofL [.inr (.inr (some (20, 0, 0))), .inl a1, .inl 4] h525 (kI (fun x528 h527 => (x528 ≤ x512 → Q vU h527) ∧ (¬ x528 ≤ x512 → mC M7_bookL [.inr (.inr (some (20, 0, 0))), .inl a1, .inl 5, .inl 0] h527 (kV (fun h529 => Q vU h529))))))))) ∧ (¬ x512 < x524 → mC M7_bookL [.inr (.inr (some (20, 0, 0))), .inl a1, .inl 5, .inl 1] h523 (kV (fun h530 => mC M7_ofL [.inr (.inr (some (20, 0, 0))), .inl a1, .inl 6] h530 (kI (fun x532 h531 => mC M7_bookL [.inr (.inr (some (20, 0, 0))), .inl a1, .inl 6, .inl (x532 + 1)] h531 (kV (fun h533 => Q vU h533))))))))))))))))))) : mC M7_listen [.inr (.inr (some (20, 0, 0))), .inl a1] h Q := by
  show mE M7_listen 0 [vR 20 0 0, vI a1, vU] [] h Q
  refine mE.aload_n dX7_listen_0 rfl ?_
  refine mE.iload_n dX7_listen_1 rfl ?_
  refine mE.callV (as := [.inl a1]) (k := 20) (r := 0) (i := 0) (st := []) dX7_listen_2 cf7_listen_99 rfl rfl (Nat.le_of_ble_eq_true rfl) (fun _ => Nat.le_of_ble_eq_true rfl) w (kI_on (fun x512 h511 w => ?_))
  refine mE.istore_n (l2 := [vR 20 0 0, vI a1, vI x512]) dX7_listen_5 (by decide) rfl ?_
  refine mE.aload_n dX7_listen_6 rfl ?_
  refine mE.iload_n dX7_listen_7 rfl ?_
  refine mE.bipush (v := 9) dX7_listen_8 (by decide) ?_
  refine mE.aload_n dX7_listen_10 rfl ?_
  refine mE.iload_n dX7_listen_11 rfl ?_
  refine mE.bipush (v := 9) dX7_listen_12 (by decide) ?_
  refine mE.callV (as := [.inl a1, .inl 9]) (k := 20) (r := 0) (i := 0) (st := [vI 9, vI a1, vR 20 0 0]) dX7_listen_14 cf7_listen_84 rfl rfl (Nat.le_of_ble_eq_true rfl) (fun _ => Nat.le_of_ble_eq_true rfl) w (kI_on (fun x514 h513 w => ?_))
  refine mE.iconst (v := 1) dX7_listen_17 (by decide) ?_
  refine mE.iadd dX7_listen_18 ?_
  refine mE.callV (as := [.inl a1, .inl 9, .inl (x514 + 1)]) (k := 20) (r := 0) (i := 0) (st := []) dX7_listen_19 cf7_listen_93 rfl rfl (Nat.le_of_ble_eq_true rfl) (fun _ => Nat.le_of_ble_eq_true rfl) w (kV_on (fun h515 w => ?_))
  refine mE.aload_n dX7_listen_22 rfl ?_
  refine mE.iload_n dX7_listen_23 rfl ?_
  refine mE.iconst (v := 5) dX7_listen_24 (by decide) ?_
  refine mE.callV (as := [.inl a1, .inl 5]) (k := 20) (r := 0) (i := 0) (st := []) dX7_listen_25 cf7_listen_84 rfl rfl (Nat.le_of_ble_eq_true rfl) (fun _ => Nat.le_of_ble_eq_true rfl) w (kI_on (fun x517 h516 w => ?_))
  refine mE.if_ne (tgt := 67) dX7_listen_28 (by decide) (fun c => ?_) (fun c => ?_)
  · have w := w.1 c
    refine mE.aload_n dX7_listen_67 rfl ?_
    refine mE.iload_n dX7_listen_68 rfl ?_
    refine mE.iconst (v := 5) dX7_listen_69 (by decide) ?_
    refine mE.callV (as := [.inl a1, .inl 5]) (k := 20) (r := 0) (i := 0) (st := []) dX7_listen_70 cf7_listen_84 rfl rfl (Nat.le_of_ble_eq_true rfl) (fun _ => Nat.le_of_ble_eq_true rfl) w (kI_on (fun x519 h518 w => ?_))
    refine mE.iconst (v := 1) dX7_listen_73 (by decide) ?_
    refine mE.icmp_ne (tgt := 94) dX7_listen_74 (by decide) (fun c => ?_) (fun c => ?_)
    · have w := w.1 c
      exact mE.vret dX7_listen_94 rfl w
    · have w := w.2 c
      refine mE.iload_n dX7_listen_77 rfl ?_
      refine mE.aload_n dX7_listen_78 rfl ?_
      refine mE.iload_n dX7_listen_79 rfl ?_
      refine mE.iconst (v := 4) dX7_listen_80 (by decide) ?_
      refine mE.callV (as := [.inl a1, .inl 4]) (k := 20) (r := 0) (i := 0) (st := [vI x512]) dX7_listen_81 cf7_listen_84 rfl rfl (Nat.le_of_ble_eq_true rfl) (fun _ => Nat.le_of_ble_eq_true rfl) w (kI_on (fun x521 h520 w => ?_))
      refine mE.icmp_ge (tgt := 94) dX7_listen_84 (by decide) (fun c => ?_) (fun c => ?_)
      · have w := w.1 c
        exact mE.vret dX7_listen_94 rfl w
      · have w := w.2 c
        refine mE.aload_n dX7_listen_87 rfl ?_
        refine mE.iload_n dX7_listen_88 rfl ?_
        refine mE.iconst (v := 5) dX7_listen_89 (by decide) ?_
        refine mE.iconst (v := 0) dX7_listen_90 (by decide) ?_
        refine mE.callV (as := [.inl a1, .inl 5, .inl 0]) (k := 20) (r := 0) (i := 0) (st := []) dX7_listen_91 cf7_listen_93 rfl rfl (Nat.le_of_ble_eq_true rfl) (fun _ => Nat.le_of_ble_eq_true rfl) w (kV_on (fun h522 w => ?_))
        exact mE.vret dX7_listen_94 rfl w
  · have w := w.2 c
    refine mE.iload_n dX7_listen_31 rfl ?_
    refine mE.aload_n dX7_listen_32 rfl ?_
    refine mE.iload_n dX7_listen_33 rfl ?_
    refine mE.iconst (v := 3) dX7_listen_34 (by decide) ?_
    refine mE.callV (as := [.inl a1, .inl 3]) (k := 20) (r := 0) (i := 0) (st := [vI x512]) dX7_listen_35 cf7_listen_84 rfl rfl (Nat.le_of_ble_eq_true rfl) (fun _ => Nat.le_of_ble_eq_true rfl) w (kI_on (fun x524 h523 w => ?_))
    refine mE.icmp_lt (tgt := 67) dX7_listen_38 (by decide) (fun c => ?_) (fun c => ?_)
    · have w := w.1 c
      refine mE.aload_n dX7_listen_67 rfl ?_
      refine mE.iload_n dX7_listen_68 rfl ?_
      refine mE.iconst (v := 5) dX7_listen_69 (by decide) ?_
      refine mE.callV (as := [.inl a1, .inl 5]) (k := 20) (r := 0) (i := 0) (st := []) dX7_listen_70 cf7_listen_84 rfl rfl (Nat.le_of_ble_eq_true rfl) (fun _ => Nat.le_of_ble_eq_true rfl) w (kI_on (fun x526 h525 w => ?_))
      refine mE.iconst (v := 1) dX7_listen_73 (by decide) ?_
      refine mE.icmp_ne (tgt := 94) dX7_listen_74 (by decide) (fun c => ?_) (fun c => ?_)
      · have w := w.1 c
        exact mE.vret dX7_listen_94 rfl w
      · have w := w.2 c
        refine mE.iload_n dX7_listen_77 rfl ?_
        refine mE.aload_n dX7_listen_78 rfl ?_
        refine mE.iload_n dX7_listen_79 rfl ?_
        refine mE.iconst (v := 4) dX7_listen_80 (by decide) ?_
        refine mE.callV (as := [.inl a1, .inl 4]) (k := 20) (r := 0) (i := 0) (st := [vI x512]) dX7_listen_81 cf7_listen_84 rfl rfl (Nat.le_of_ble_eq_true rfl) (fun _ => Nat.le_of_ble_eq_true rfl) w (kI_on (fun x528 h527 w => ?_))
        refine mE.icmp_ge (tgt := 94) dX7_listen_84 (by decide) (fun c => ?_) (fun c => ?_)
        · have w := w.1 c
          exact mE.vret dX7_listen_94 rfl w
        · have w := w.2 c
          refine mE.aload_n dX7_listen_87 rfl ?_
          refine mE.iload_n dX7_listen_88 rfl ?_
          refine mE.iconst (v := 5) dX7_listen_89 (by decide) ?_
          refine mE.iconst (v := 0) dX7_listen_90 (by decide) ?_
          refine mE.callV (as := [.inl a1, .inl 5, .inl 0]) (k := 20) (r := 0) (i := 0) (st := []) dX7_listen_91 cf7_listen_93 rfl rfl (Nat.le_of_ble_eq_true rfl) (fun _ => Nat.le_of_ble_eq_true rfl) w (kV_on (fun h529 w => ?_))
          exact mE.vret dX7_listen_94 rfl w
    · have w := w.2 c
      refine mE.aload_n dX7_listen_41 rfl ?_
      refine mE.iload_n dX7_listen_42 rfl ?_
      refine mE.iconst (v := 5) dX7_listen_43 (by decide) ?_
      refine mE.iconst (v := 1) dX7_listen_44 (by decide) ?_
      refine mE.callV (as := [.inl a1, .inl 5, .inl 1]) (k := 20) (r := 0) (i := 0) (st := []) dX7_listen_45 cf7_listen_93 rfl rfl (Nat.le_of_ble_eq_true rfl) (fun _ => Nat.le_of_ble_eq_true rfl) w (kV_on (fun h530 w => ?_))
      refine mE.aload_n dX7_listen_48 rfl ?_
      refine mE.iload_n dX7_listen_49 rfl ?_
      refine mE.bipush (v := 6) dX7_listen_50 (by decide) ?_
      refine mE.aload_n dX7_listen_52 rfl ?_
      refine mE.iload_n dX7_listen_53 rfl ?_
      refine mE.bipush (v := 6) dX7_listen_54 (by decide) ?_
      refine mE.callV (as := [.inl a1, .inl 6]) (k := 20) (r := 0) (i := 0) (st := [vI 6, vI a1, vR 20 0 0]) dX7_listen_56 cf7_listen_84 rfl rfl (Nat.le_of_ble_eq_true rfl) (fun _ => Nat.le_of_ble_eq_true rfl) w (kI_on (fun x532 h531 w => ?_))
      refine mE.iconst (v := 1) dX7_listen_59 (by decide) ?_
      refine mE.iadd dX7_listen_60 ?_
      refine mE.callV (as := [.inl a1, .inl 6, .inl (x532 + 1)]) (k := 20) (r := 0) (i := 0) (st := []) dX7_listen_61 cf7_listen_93 rfl rfl (Nat.le_of_ble_eq_true rfl) (fun _ => Nat.le_of_ble_eq_true rfl) w (kV_on (fun h533 w => ?_))
      refine mE.goto (tgt := 94) dX7_listen_64 (by decide) ?_
      exact mE.vret dX7_listen_94 rfl w
theorem w7_listener  {h : mH} {Q : mV → mH → Prop} (w : vp_in 3 470 ∧ ((¬ (h.1 21 0 0 ((3 : Int32).toNatClampNeg)) = 0 → vp_in 2 470 ∧ (vp_in 1 470 ∧ (¬ (h.1 21 0 0 ((1 : Int32).toNatClampNeg)) = 0 ∧ (vp_in 3 470 ∧ (¬ (h.1 21 0 0 ((3 : Int32).toNatClampNeg)) = 0 ∧ (Q (vI (((h.1 21 0 0 ((2 : Int32).toNatClampNeg)) / (h.1 21 0 0 ((1 : Int32).toNatClampNeg))) - ((h.1 21 0 0 ((2 : Int32).toNatClampNeg)) / (h.1 21 0 0 ((1 : Int32).toNatClampNeg))) / (h.1 21 0 0 ((3 : Int32).toNatClampNeg)) * (h.1 21 0 0 ((3 : Int32).toNatClampNeg)))) h)))))) ∧ ((h.1 21 0 0 ((3 : Int32).toNatClampNeg)) = 0 → Q (vI (-6)) h))) : mC M7_listener [.inr (.inr (some (20, 0, 0)))] h Q := by
  show mE M7_listener 0 [vR 20 0 0] [] h Q
  refine mE.aload_n dX7_listener_0 rfl ?_
  refine mE.getf (w := .inr (.inr (some (21, 0, 0)))) dX7_listener_1 f7_7 rfl ?_
  refine mE.iconst (v := 3) dX7_listener_4 (by decide) ?_
  refine mE.iald (x := h.1 21 0 0 ((3 : Int32).toNatClampNeg)) dX7_listener_5 rfl rfl w.1 rfl ?_
  have w := w.2
  refine mE.if_ne (tgt := 14) dX7_listener_6 (by decide) (fun c => ?_) (fun c => ?_)
  · have w := w.1 c
    refine mE.aload_n dX7_listener_14 rfl ?_
    refine mE.getf (w := .inr (.inr (some (21, 0, 0)))) dX7_listener_15 f7_7 rfl ?_
    refine mE.iconst (v := 2) dX7_listener_18 (by decide) ?_
    refine mE.iald (x := h.1 21 0 0 ((2 : Int32).toNatClampNeg)) dX7_listener_19 rfl rfl w.1 rfl ?_
    have w := w.2
    refine mE.aload_n dX7_listener_20 rfl ?_
    refine mE.getf (w := .inr (.inr (some (21, 0, 0)))) dX7_listener_21 f7_7 rfl ?_
    refine mE.iconst (v := 1) dX7_listener_24 (by decide) ?_
    refine mE.iald (x := h.1 21 0 0 ((1 : Int32).toNatClampNeg)) dX7_listener_25 rfl rfl w.1 rfl ?_
    have w := w.2
    refine mE.idiv dX7_listener_26 w.1 ?_
    have w := w.2
    refine mE.aload_n dX7_listener_27 rfl ?_
    refine mE.getf (w := .inr (.inr (some (21, 0, 0)))) dX7_listener_28 f7_7 rfl ?_
    refine mE.iconst (v := 3) dX7_listener_31 (by decide) ?_
    refine mE.iald (x := h.1 21 0 0 ((3 : Int32).toNatClampNeg)) dX7_listener_32 rfl rfl w.1 rfl ?_
    have w := w.2
    refine mE.irem dX7_listener_33 w.1 ?_
    have w := w.2
    exact mE.iret dX7_listener_34 rfl rfl w
  · have w := w.2 c
    refine mE.bipush (v := -6) dX7_listener_9 (by decide) ?_
    refine mE.goto (tgt := 34) dX7_listener_11 (by decide) ?_
    exact mE.iret dX7_listener_34 rfl rfl w
theorem w7_pass {a1 : Int32} {h : mH} {Q : mV → mH → Prop} (w : mC M7_moveAll [.inr (.inr (some (20, 0, 0)))] h (kV (fun h534 => mC M7_passAll [.inr (.inr (some (20, 0, 0)))] h534 (kV (fun h535 => (0 ≤ a1 → (a1 < 0 → vp_in 2 470 ∧ (vp_in 2 470 ∧ (Q vU (pI h535 21 0 0 ((2 : Int32).toNatClampNeg) ((h535.1 21 0 0 ((2 : Int32).toNatClampNeg)) + 1))))) ∧ (¬ a1 < 0 → mC M7_listen [.inr (.inr (some (20, 0, 0))), .inl a1] h535 (kV (fun h536 => vp_in 2 470 ∧ (vp_in 2 470 ∧ (Q vU (pI h536 21 0 0 ((2 : Int32).toNatClampNeg) ((h536.1 21 0 0 ((2 : Int32).toNatClampNeg)) + 1)))))))) ∧ (¬ 0 ≤ a1 → mC M7_listener [.inr (.inr (some (20, 0, 0)))] h535 (kI (fun x538 h537 => (x538 < 0 → vp_in 2 470 ∧ (vp_in 2 470 ∧ (Q vU (pI h537 21 0 0 ((2 : Int32).toNatClampNeg) ((h537.1 21 0 0 ((2 : Int32).toNatClampNeg)) + 1))))) ∧ (¬ x538 < 0 → mC M7_listen [.inr (.inr (some (20, 0, 0))), .inl x538] h537 (kV (fun h539 => vp_in 2 470 ∧ (vp_in 2 470 ∧ (Q vU (pI h539 21 0 0 ((2 : Int32).toNatClampNeg) ((h539.1 21 0 0 ((2 : Int32).toNatClampNeg)) + 1))))))))))))))) : mC M7_pass [.inr (.inr (some (20, 0, 0))), .inl a1] h Q := by
  show mE M7_pass 0 [vR 20 0 0, vI a1, vU] [] h Q
  refine mE.aload_n dX7_pass_0 rfl ?_
  refine mE.callV (as := []) (k := 20) (r := 0) (i := 0) (st := []) dX7_pass_1 cf7_pass_102 rfl rfl (Nat.le_of_ble_eq_true rfl) (fun _ => Nat.le_of_ble_eq_true rfl) w (kV_on (fun h534 w => ?_))
  refine mE.aload_n dX7_pass_4 rfl ?_
  refine mE.callV (as := []) (k := 20) (r := 0) (i := 0) (st := []) dX7_pass_5 cf7_pass_105 rfl rfl (Nat.le_of_ble_eq_true rfl) (fun _ => Nat.le_of_ble_eq_true rfl) w (kV_on (fun h535 w => ?_))
  refine mE.iload_n dX7_pass_8 rfl ?_
  refine mE.if_ge (tgt := 19) dX7_pass_9 (by decide) (fun c => ?_) (fun c => ?_)
  · have w := w.1 c
    refine mE.iload_n dX7_pass_19 rfl ?_
    refine mE.istore_n (l2 := [vR 20 0 0, vI a1, vI a1]) dX7_pass_20 (by decide) rfl ?_
    refine mE.iload_n dX7_pass_21 rfl ?_
    refine mE.if_lt (tgt := 30) dX7_pass_22 (by decide) (fun c => ?_) (fun c => ?_)
    · have w := w.1 c
      refine mE.aload_n dX7_pass_30 rfl ?_
      refine mE.getf (w := .inr (.inr (some (21, 0, 0)))) dX7_pass_31 f7_7 rfl ?_
      refine mE.iconst (v := 2) dX7_pass_34 (by decide) ?_
      refine mE.dup2 dX7_pass_35 ?_
      refine mE.iald (x := h535.1 21 0 0 ((2 : Int32).toNatClampNeg)) dX7_pass_36 rfl rfl w.1 rfl ?_
      have w := w.2
      refine mE.iconst (v := 1) dX7_pass_37 (by decide) ?_
      refine mE.iadd dX7_pass_38 ?_
      refine mE.iast dX7_pass_39 rfl rfl (fun _ _ _ _ => rfl) w.1 ?_
      have w := w.2
      exact mE.vret dX7_pass_40 rfl w
    · have w := w.2 c
      refine mE.aload_n dX7_pass_25 rfl ?_
      refine mE.iload_n dX7_pass_26 rfl ?_
      refine mE.callV (as := [.inl a1]) (k := 20) (r := 0) (i := 0) (st := []) dX7_pass_27 cf7_pass_112 rfl rfl (Nat.le_of_ble_eq_true rfl) (fun _ => Nat.le_of_ble_eq_true rfl) w (kV_on (fun h536 w => ?_))
      refine mE.aload_n dX7_pass_30 rfl ?_
      refine mE.getf (w := .inr (.inr (some (21, 0, 0)))) dX7_pass_31 f7_7 rfl ?_
      refine mE.iconst (v := 2) dX7_pass_34 (by decide) ?_
      refine mE.dup2 dX7_pass_35 ?_
      refine mE.iald (x := h536.1 21 0 0 ((2 : Int32).toNatClampNeg)) dX7_pass_36 rfl rfl w.1 rfl ?_
      have w := w.2
      refine mE.iconst (v := 1) dX7_pass_37 (by decide) ?_
      refine mE.iadd dX7_pass_38 ?_
      refine mE.iast dX7_pass_39 rfl rfl (fun _ _ _ _ => rfl) w.1 ?_
      have w := w.2
      exact mE.vret dX7_pass_40 rfl w
  · have w := w.2 c
    refine mE.aload_n dX7_pass_12 rfl ?_
    refine mE.callV (as := []) (k := 20) (r := 0) (i := 0) (st := []) dX7_pass_13 cf7_pass_108 rfl rfl (Nat.le_of_ble_eq_true rfl) (fun _ => Nat.le_of_ble_eq_true rfl) w (kI_on (fun x538 h537 w => ?_))
    refine mE.goto (tgt := 20) dX7_pass_16 (by decide) ?_
    refine mE.istore_n (l2 := [vR 20 0 0, vI a1, vI x538]) dX7_pass_20 (by decide) rfl ?_
    refine mE.iload_n dX7_pass_21 rfl ?_
    refine mE.if_lt (tgt := 30) dX7_pass_22 (by decide) (fun c => ?_) (fun c => ?_)
    · have w := w.1 c
      refine mE.aload_n dX7_pass_30 rfl ?_
      refine mE.getf (w := .inr (.inr (some (21, 0, 0)))) dX7_pass_31 f7_7 rfl ?_
      refine mE.iconst (v := 2) dX7_pass_34 (by decide) ?_
      refine mE.dup2 dX7_pass_35 ?_
      refine mE.iald (x := h537.1 21 0 0 ((2 : Int32).toNatClampNeg)) dX7_pass_36 rfl rfl w.1 rfl ?_
      have w := w.2
      refine mE.iconst (v := 1) dX7_pass_37 (by decide) ?_
      refine mE.iadd dX7_pass_38 ?_
      refine mE.iast dX7_pass_39 rfl rfl (fun _ _ _ _ => rfl) w.1 ?_
      have w := w.2
      exact mE.vret dX7_pass_40 rfl w
    · have w := w.2 c
      refine mE.aload_n dX7_pass_25 rfl ?_
      refine mE.iload_n dX7_pass_26 rfl ?_
      refine mE.callV (as := [.inl x538]) (k := 20) (r := 0) (i := 0) (st := []) dX7_pass_27 cf7_pass_112 rfl rfl (Nat.le_of_ble_eq_true rfl) (fun _ => Nat.le_of_ble_eq_true rfl) w (kV_on (fun h539 w => ?_))
      refine mE.aload_n dX7_pass_30 rfl ?_
      refine mE.getf (w := .inr (.inr (some (21, 0, 0)))) dX7_pass_31 f7_7 rfl ?_
      refine mE.iconst (v := 2) dX7_pass_34 (by decide) ?_
      refine mE.dup2 dX7_pass_35 ?_
      refine mE.iald (x := h539.1 21 0 0 ((2 : Int32).toNatClampNeg)) dX7_pass_36 rfl rfl w.1 rfl ?_
      have w := w.2
      refine mE.iconst (v := 1) dX7_pass_37 (by decide) ?_
      refine mE.iadd dX7_pass_38 ?_
      refine mE.iast dX7_pass_39 rfl rfl (fun _ _ _ _ => rfl) w.1 ?_
      have w := w.2
      exact mE.vret dX7_pass_40 rfl w
theorem w7_set {a1 : Int32} {a2 : Int32} {h : mH} {Q : mV → mH → Prop} (w : mC M7_in [.inl a1, .inl 0, .inl 1] h (kI (fun x541 h540 => (x541 = 0 → Q (vI (-2)) h540) ∧ (¬ x541 = 0 → (¬ a1 = 0 → mC M7_in [.inl a2, .inl a1, .inl 5] h540 (kI (fun x543 h542 => (¬ x543 = 0 → mC M7_record [.inr (.inr (some (20, 0, 0)))] h542 (kV (fun h544 => vp_in a1 470 ∧ (vp_in a1 470 ∧ (Q (vI (h544.1 21 0 0 a1.toNatClampNeg)) (pI h544 21 0 0 a1.toNatClampNeg a2)))))) ∧ (x543 = 0 → Q (vI (-2)) h542)))) ∧ (a1 = 0 → mC M7_in [.inl a2, .inl a1, .inl 8] h540 (kI (fun x546 h545 => (¬ x546 = 0 → mC M7_record [.inr (.inr (some (20, 0, 0)))] h545 (kV (fun h547 => vp_in a1 470 ∧ (vp_in a1 470 ∧ (Q (vI (h547.1 21 0 0 a1.toNatClampNeg)) (pI h547 21 0 0 a1.toNatClampNeg a2)))))) ∧ (x546 = 0 → Q (vI (-2)) h545)))))))) : mC M7_set [.inr (.inr (some (20, 0, 0))), .inl a1, .inl a2] h Q := by
  show mE M7_set 0 [vR 20 0 0, vI a1, vI a2, vU] [] h Q
  refine mE.iload_n dX7_set_0 rfl ?_
  refine mE.iconst (v := 0) dX7_set_1 (by decide) ?_
  refine mE.iconst (v := 1) dX7_set_2 (by decide) ?_
  refine mE.callS (as := [.inl a1, .inl 0, .inl 1]) (st := []) dX7_set_3 cf7_set_54 rfl rfl (Nat.le_of_ble_eq_true rfl) (fun _ => Nat.le_of_ble_eq_true rfl) w (kI_on (fun x541 h540 w => ?_))
  refine mE.if_eq (tgt := 27) dX7_set_6 (by decide) (fun c => ?_) (fun c => ?_)
  · have w := w.1 c
    refine mE.bipush (v := -2) dX7_set_27 (by decide) ?_
    exact mE.iret dX7_set_29 rfl rfl w
  · have w := w.2 c
    refine mE.iload_n dX7_set_9 rfl ?_
    refine mE.iload_n dX7_set_10 rfl ?_
    refine mE.iload_n dX7_set_11 rfl ?_
    refine mE.if_ne (tgt := 20) dX7_set_12 (by decide) (fun c => ?_) (fun c => ?_)
    · have w := w.1 c
      refine mE.iconst (v := 5) dX7_set_20 (by decide) ?_
      refine mE.callS (as := [.inl a2, .inl a1, .inl 5]) (st := []) dX7_set_21 cf7_set_54 rfl rfl (Nat.le_of_ble_eq_true rfl) (fun _ => Nat.le_of_ble_eq_true rfl) w (kI_on (fun x543 h542 w => ?_))
      refine mE.if_ne (tgt := 30) dX7_set_24 (by decide) (fun c => ?_) (fun c => ?_)
      · have w := w.1 c
        refine mE.aload_n dX7_set_30 rfl ?_
        refine mE.callV (as := []) (k := 20) (r := 0) (i := 0) (st := []) dX7_set_31 cf7_set_115 rfl rfl (Nat.le_of_ble_eq_true rfl) (fun _ => Nat.le_of_ble_eq_true rfl) w (kV_on (fun h544 w => ?_))
        refine mE.aload_n dX7_set_34 rfl ?_
        refine mE.getf (w := .inr (.inr (some (21, 0, 0)))) dX7_set_35 f7_7 rfl ?_
        refine mE.iload_n dX7_set_38 rfl ?_
        refine mE.iald (x := h544.1 21 0 0 a1.toNatClampNeg) dX7_set_39 rfl rfl w.1 rfl ?_
        have w := w.2
        refine mE.istore_n (l2 := [vR 20 0 0, vI a1, vI a2, vI (h544.1 21 0 0 a1.toNatClampNeg)]) dX7_set_40 (by decide) rfl ?_
        refine mE.aload_n dX7_set_41 rfl ?_
        refine mE.getf (w := .inr (.inr (some (21, 0, 0)))) dX7_set_42 f7_7 rfl ?_
        refine mE.iload_n dX7_set_45 rfl ?_
        refine mE.iload_n dX7_set_46 rfl ?_
        refine mE.iast dX7_set_47 rfl rfl (fun _ _ _ _ => rfl) w.1 ?_
        have w := w.2
        refine mE.iload_n dX7_set_48 rfl ?_
        exact mE.iret dX7_set_49 rfl rfl w
      · have w := w.2 c
        refine mE.bipush (v := -2) dX7_set_27 (by decide) ?_
        exact mE.iret dX7_set_29 rfl rfl w
    · have w := w.2 c
      refine mE.bipush (v := 8) dX7_set_15 (by decide) ?_
      refine mE.goto (tgt := 21) dX7_set_17 (by decide) ?_
      refine mE.callS (as := [.inl a2, .inl a1, .inl 8]) (st := []) dX7_set_21 cf7_set_54 rfl rfl (Nat.le_of_ble_eq_true rfl) (fun _ => Nat.le_of_ble_eq_true rfl) w (kI_on (fun x546 h545 w => ?_))
      refine mE.if_ne (tgt := 30) dX7_set_24 (by decide) (fun c => ?_) (fun c => ?_)
      · have w := w.1 c
        refine mE.aload_n dX7_set_30 rfl ?_
        refine mE.callV (as := []) (k := 20) (r := 0) (i := 0) (st := []) dX7_set_31 cf7_set_115 rfl rfl (Nat.le_of_ble_eq_true rfl) (fun _ => Nat.le_of_ble_eq_true rfl) w (kV_on (fun h547 w => ?_))
        refine mE.aload_n dX7_set_34 rfl ?_
        refine mE.getf (w := .inr (.inr (some (21, 0, 0)))) dX7_set_35 f7_7 rfl ?_
        refine mE.iload_n dX7_set_38 rfl ?_
        refine mE.iald (x := h547.1 21 0 0 a1.toNatClampNeg) dX7_set_39 rfl rfl w.1 rfl ?_
        have w := w.2
        refine mE.istore_n (l2 := [vR 20 0 0, vI a1, vI a2, vI (h547.1 21 0 0 a1.toNatClampNeg)]) dX7_set_40 (by decide) rfl ?_
        refine mE.aload_n dX7_set_41 rfl ?_
        refine mE.getf (w := .inr (.inr (some (21, 0, 0)))) dX7_set_42 f7_7 rfl ?_
        refine mE.iload_n dX7_set_45 rfl ?_
        refine mE.iload_n dX7_set_46 rfl ?_
        refine mE.iast dX7_set_47 rfl rfl (fun _ _ _ _ => rfl) w.1 ?_
        have w := w.2
        refine mE.iload_n dX7_set_48 rfl ?_
        exact mE.iret dX7_set_49 rfl rfl w
      · have w := w.2 c
        refine mE.bipush (v := -2) dX7_set_27 (by decide) ?_
        exact mE.iret dX7_set_29 rfl rfl w
theorem w7_areBounds {a1 : Int32} {a2 : Int32} {h : mH} {Q : mV → mH → Prop} (w : mC M7_in [.inl a1, .inl 1, .inl 200] h (kI (fun x549 h548 => (x549 = 0 → Q (vI 0) h548) ∧ (¬ x549 = 0 → mC M7_in [.inl a2, .inl 1, .inl a1] h548 (kI (fun x551 h550 => (x551 = 0 → Q (vI 0) h550) ∧ (¬ x551 = 0 → Q (vI 1) h550))))))) : mC M7_areBounds [.inl a1, .inl a2] h Q := by
  show mE M7_areBounds 0 [vI a1, vI a2] [] h Q
  refine mE.iload_n dX7_areBounds_0 rfl ?_
  refine mE.iconst (v := 1) dX7_areBounds_1 (by decide) ?_
  refine mE.sipush (v := 200) dX7_areBounds_2 (by decide) ?_
  refine mE.callS (as := [.inl a1, .inl 1, .inl 200]) (st := []) dX7_areBounds_5 cf7_areBounds_54 rfl rfl (Nat.le_of_ble_eq_true rfl) (fun _ => Nat.le_of_ble_eq_true rfl) w (kI_on (fun x549 h548 w => ?_))
  refine mE.if_eq (tgt := 24) dX7_areBounds_8 (by decide) (fun c => ?_) (fun c => ?_)
  · have w := w.1 c
    refine mE.iconst (v := 0) dX7_areBounds_24 (by decide) ?_
    exact mE.iret dX7_areBounds_25 rfl rfl w
  · have w := w.2 c
    refine mE.iload_n dX7_areBounds_11 rfl ?_
    refine mE.iconst (v := 1) dX7_areBounds_12 (by decide) ?_
    refine mE.iload_n dX7_areBounds_13 rfl ?_
    refine mE.callS (as := [.inl a2, .inl 1, .inl a1]) (st := []) dX7_areBounds_14 cf7_areBounds_54 rfl rfl (Nat.le_of_ble_eq_true rfl) (fun _ => Nat.le_of_ble_eq_true rfl) w (kI_on (fun x551 h550 w => ?_))
    refine mE.if_eq (tgt := 24) dX7_areBounds_17 (by decide) (fun c => ?_) (fun c => ?_)
    · have w := w.1 c
      refine mE.iconst (v := 0) dX7_areBounds_24 (by decide) ?_
      exact mE.iret dX7_areBounds_25 rfl rfl w
    · have w := w.2 c
      refine mE.iconst (v := 1) dX7_areBounds_20 (by decide) ?_
      refine mE.goto (tgt := 25) dX7_areBounds_21 (by decide) ?_
      exact mE.iret dX7_areBounds_25 rfl rfl w
theorem w7_loop {a1 : Int32} {a2 : Int32} {a3 : Int32} {a4 : Int32} {a5 : Int32} {h : mH} {Q : mV → mH → Prop} (w : mC M7_in [.inl a1, .inl 0, .inl 1] h (kI (fun x553 h552 => (x553 = 0 → Q (vI (-2)) h552) ∧ (¬ x553 = 0 → mC M7_in [.inl a3, .inl 1, .inl 3] h552 (kI (fun x555 h554 => (x555 = 0 → Q (vI (-2)) h554) ∧ (¬ x555 = 0 → mC M7_in [.inl a2, .inl 0, .inl (40 - a3)] h554 (kI (fun x557 h556 => (x557 = 0 → Q (vI (-2)) h556) ∧ (¬ x557 = 0 → mC M7_areBounds [.inl a4, .inl a5] h556 (kI (fun x559 h558 => (¬ x559 = 0 → vp_in 3 470 ∧ ((¬ (h558.1 21 0 0 ((3 : Int32).toNatClampNeg)) = 6 → mC M7_record [.inr (.inr (some (20, 0, 0)))] h558 (kV (fun h560 => vp_in 3 470 ∧ (vp_in 3 470 ∧ (vp_in 3 470 ∧ (mC M7_bookL [.inr (.inr (some (20, 0, 0))), .inl (h560.1 21 0 0 ((3 : Int32).toNatClampNeg)), .inl 0, .inl a1] (pI h560 21 0 0 ((3 : Int32).toNatClampNeg) ((h560.1 21 0 0 ((3 : Int32).toNatClampNeg)) + 1)) (kV (fun h561 => mC M7_bookL [.inr (.inr (some (20, 0, 0))), .inl (h560.1 21 0 0 ((3 : Int32).toNatClampNeg)), .inl 1, .inl a2] h561 (kV (fun h562 => mC M7_bookL [.inr (.inr (some (20, 0, 0))), .inl (h560.1 21 0 0 ((3 : Int32).toNatClampNeg)), .inl 2, .inl a3] h562 (kV (fun h563 => mC M7_bookL [.inr (.inr (some (20, 0, 0))), .inl (h560.1 21 0 0 ((3 : Int32).toNatClampNeg)), .inl 3, .inl a4] h563 (kV (fun h564 => mC M7_bookL [.inr (.inr (some (20, 0, 0))), .inl (h560.1 21 0 0 ((3 : Int32).toNatClampNeg)), .inl 4, .inl a5] h564 (kV (fun h565 => mE M7_loop 124 [vR 20 0 0, vU, vU, vU, vU, vU, vI (h560.1 21 0 0 ((3 : Int32).toNatClampNeg)), vI 0] [] h565 Q)))))))))))))))) ∧ ((h558.1 21 0 0 ((3 : Int32).toNatClampNeg)) = 6 → Q (vI (-4)) h558))) ∧ (x559 = 0 → Q (vI (-2)) h558))))))))))))) : mC M7_loop [.inr (.inr (some (20, 0, 0))), .inl a1, .inl a2, .inl a3, .inl a4, .inl a5] h Q := by
  show mE M7_loop 0 [vR 20 0 0, vI a1, vI a2, vI a3, vI a4, vI a5, vU, vU] [] h Q
  refine mE.iload_n dX7_loop_0 rfl ?_
  refine mE.iconst (v := 0) dX7_loop_1 (by decide) ?_
  refine mE.iconst (v := 1) dX7_loop_2 (by decide) ?_
  refine mE.callS (as := [.inl a1, .inl 0, .inl 1]) (st := []) dX7_loop_3 cf7_loop_54 rfl rfl (Nat.le_of_ble_eq_true rfl) (fun _ => Nat.le_of_ble_eq_true rfl) w (kI_on (fun x553 h552 w => ?_))
  refine mE.if_eq (tgt := 40) dX7_loop_6 (by decide) (fun c => ?_) (fun c => ?_)
  · have w := w.1 c
    refine mE.bipush (v := -2) dX7_loop_40 (by decide) ?_
    exact mE.iret dX7_loop_42 rfl rfl w
  · have w := w.2 c
    refine mE.iload_n dX7_loop_9 rfl ?_
    refine mE.iconst (v := 1) dX7_loop_10 (by decide) ?_
    refine mE.iconst (v := 3) dX7_loop_11 (by decide) ?_
    refine mE.callS (as := [.inl a3, .inl 1, .inl 3]) (st := []) dX7_loop_12 cf7_loop_54 rfl rfl (Nat.le_of_ble_eq_true rfl) (fun _ => Nat.le_of_ble_eq_true rfl) w (kI_on (fun x555 h554 w => ?_))
    refine mE.if_eq (tgt := 40) dX7_loop_15 (by decide) (fun c => ?_) (fun c => ?_)
    · have w := w.1 c
      refine mE.bipush (v := -2) dX7_loop_40 (by decide) ?_
      exact mE.iret dX7_loop_42 rfl rfl w
    · have w := w.2 c
      refine mE.iload_n dX7_loop_18 rfl ?_
      refine mE.iconst (v := 0) dX7_loop_19 (by decide) ?_
      refine mE.bipush (v := 40) dX7_loop_20 (by decide) ?_
      refine mE.iload_n dX7_loop_22 rfl ?_
      refine mE.isub dX7_loop_23 ?_
      refine mE.callS (as := [.inl a2, .inl 0, .inl (40 - a3)]) (st := []) dX7_loop_24 cf7_loop_54 rfl rfl (Nat.le_of_ble_eq_true rfl) (fun _ => Nat.le_of_ble_eq_true rfl) w (kI_on (fun x557 h556 w => ?_))
      refine mE.if_eq (tgt := 40) dX7_loop_27 (by decide) (fun c => ?_) (fun c => ?_)
      · have w := w.1 c
        refine mE.bipush (v := -2) dX7_loop_40 (by decide) ?_
        exact mE.iret dX7_loop_42 rfl rfl w
      · have w := w.2 c
        refine mE.iload dX7_loop_30 rfl ?_
        refine mE.iload dX7_loop_32 rfl ?_
        refine mE.callS (as := [.inl a4, .inl a5]) (st := []) dX7_loop_34 cf7_loop_118 rfl rfl (Nat.le_of_ble_eq_true rfl) (fun _ => Nat.le_of_ble_eq_true rfl) w (kI_on (fun x559 h558 w => ?_))
        refine mE.if_ne (tgt := 43) dX7_loop_37 (by decide) (fun c => ?_) (fun c => ?_)
        · have w := w.1 c
          refine mE.aload_n dX7_loop_43 rfl ?_
          refine mE.getf (w := .inr (.inr (some (21, 0, 0)))) dX7_loop_44 f7_7 rfl ?_
          refine mE.iconst (v := 3) dX7_loop_47 (by decide) ?_
          refine mE.iald (x := h558.1 21 0 0 ((3 : Int32).toNatClampNeg)) dX7_loop_48 rfl rfl w.1 rfl ?_
          have w := w.2
          refine mE.bipush (v := 6) dX7_loop_49 (by decide) ?_
          refine mE.icmp_ne (tgt := 57) dX7_loop_51 (by decide) (fun c => ?_) (fun c => ?_)
          · have w := w.1 c
            refine mE.aload_n dX7_loop_57 rfl ?_
            refine mE.callV (as := []) (k := 20) (r := 0) (i := 0) (st := []) dX7_loop_58 cf7_loop_115 rfl rfl (Nat.le_of_ble_eq_true rfl) (fun _ => Nat.le_of_ble_eq_true rfl) w (kV_on (fun h560 w => ?_))
            refine mE.aload_n dX7_loop_61 rfl ?_
            refine mE.getf (w := .inr (.inr (some (21, 0, 0)))) dX7_loop_62 f7_7 rfl ?_
            refine mE.iconst (v := 3) dX7_loop_65 (by decide) ?_
            refine mE.iald (x := h560.1 21 0 0 ((3 : Int32).toNatClampNeg)) dX7_loop_66 rfl rfl w.1 rfl ?_
            have w := w.2
            refine mE.istore (l2 := [vR 20 0 0, vI a1, vI a2, vI a3, vI a4, vI a5, vI (h560.1 21 0 0 ((3 : Int32).toNatClampNeg)), vU]) dX7_loop_67 (by decide) rfl ?_
            refine mE.aload_n dX7_loop_69 rfl ?_
            refine mE.getf (w := .inr (.inr (some (21, 0, 0)))) dX7_loop_70 f7_7 rfl ?_
            refine mE.iconst (v := 3) dX7_loop_73 (by decide) ?_
            refine mE.dup2 dX7_loop_74 ?_
            refine mE.iald (x := h560.1 21 0 0 ((3 : Int32).toNatClampNeg)) dX7_loop_75 rfl rfl w.1 rfl ?_
            have w := w.2
            refine mE.iconst (v := 1) dX7_loop_76 (by decide) ?_
            refine mE.iadd dX7_loop_77 ?_
            refine mE.iast dX7_loop_78 rfl rfl (fun _ _ _ _ => rfl) w.1 ?_
            have w := w.2
            refine mE.aload_n dX7_loop_79 rfl ?_
            refine mE.iload dX7_loop_80 rfl ?_
            refine mE.iconst (v := 0) dX7_loop_82 (by decide) ?_
            refine mE.iload_n dX7_loop_83 rfl ?_
            refine mE.callV (as := [.inl (h560.1 21 0 0 ((3 : Int32).toNatClampNeg)), .inl 0, .inl a1]) (k := 20) (r := 0) (i := 0) (st := []) dX7_loop_84 cf7_loop_93 rfl rfl (Nat.le_of_ble_eq_true rfl) (fun _ => Nat.le_of_ble_eq_true rfl) w (kV_on (fun h561 w => ?_))
            refine mE.aload_n dX7_loop_87 rfl ?_
            refine mE.iload dX7_loop_88 rfl ?_
            refine mE.iconst (v := 1) dX7_loop_90 (by decide) ?_
            refine mE.iload_n dX7_loop_91 rfl ?_
            refine mE.callV (as := [.inl (h560.1 21 0 0 ((3 : Int32).toNatClampNeg)), .inl 1, .inl a2]) (k := 20) (r := 0) (i := 0) (st := []) dX7_loop_92 cf7_loop_93 rfl rfl (Nat.le_of_ble_eq_true rfl) (fun _ => Nat.le_of_ble_eq_true rfl) w (kV_on (fun h562 w => ?_))
            refine mE.aload_n dX7_loop_95 rfl ?_
            refine mE.iload dX7_loop_96 rfl ?_
            refine mE.iconst (v := 2) dX7_loop_98 (by decide) ?_
            refine mE.iload_n dX7_loop_99 rfl ?_
            refine mE.callV (as := [.inl (h560.1 21 0 0 ((3 : Int32).toNatClampNeg)), .inl 2, .inl a3]) (k := 20) (r := 0) (i := 0) (st := []) dX7_loop_100 cf7_loop_93 rfl rfl (Nat.le_of_ble_eq_true rfl) (fun _ => Nat.le_of_ble_eq_true rfl) w (kV_on (fun h563 w => ?_))
            refine mE.aload_n dX7_loop_103 rfl ?_
            refine mE.iload dX7_loop_104 rfl ?_
            refine mE.iconst (v := 3) dX7_loop_106 (by decide) ?_
            refine mE.iload dX7_loop_107 rfl ?_
            refine mE.callV (as := [.inl (h560.1 21 0 0 ((3 : Int32).toNatClampNeg)), .inl 3, .inl a4]) (k := 20) (r := 0) (i := 0) (st := []) dX7_loop_109 cf7_loop_93 rfl rfl (Nat.le_of_ble_eq_true rfl) (fun _ => Nat.le_of_ble_eq_true rfl) w (kV_on (fun h564 w => ?_))
            refine mE.aload_n dX7_loop_112 rfl ?_
            refine mE.iload dX7_loop_113 rfl ?_
            refine mE.iconst (v := 4) dX7_loop_115 (by decide) ?_
            refine mE.iload dX7_loop_116 rfl ?_
            refine mE.callV (as := [.inl (h560.1 21 0 0 ((3 : Int32).toNatClampNeg)), .inl 4, .inl a5]) (k := 20) (r := 0) (i := 0) (st := []) dX7_loop_118 cf7_loop_93 rfl rfl (Nat.le_of_ble_eq_true rfl) (fun _ => Nat.le_of_ble_eq_true rfl) w (kV_on (fun h565 w => ?_))
            refine mE.iconst (v := 0) dX7_loop_121 (by decide) ?_
            refine mE.istore (l2 := [vR 20 0 0, vI a1, vI a2, vI a3, vI a4, vI a5, vI (h560.1 21 0 0 ((3 : Int32).toNatClampNeg)), vI 0]) dX7_loop_122 (by decide) rfl ?_
            exact mE.less (by exact ⟨Or.inr rfl, ⟨Or.inl rfl, ⟨Or.inl rfl, ⟨Or.inl rfl, ⟨Or.inl rfl, ⟨Or.inl rfl, ⟨Or.inr rfl, ⟨Or.inr rfl, trivial⟩⟩⟩⟩⟩⟩⟩⟩) w
          · have w := w.2 c
            refine mE.bipush (v := -4) dX7_loop_54 (by decide) ?_
            exact mE.iret dX7_loop_56 rfl rfl w
        · have w := w.2 c
          refine mE.bipush (v := -2) dX7_loop_40 (by decide) ?_
          exact mE.iret dX7_loop_42 rfl rfl w
theorem w7_loop_124 {y6 : Int32} {y7 : Int32} {h : mH} {Q : mV → mH → Prop} (w : vp_in 4 470 ∧ (((h.1 21 0 0 ((4 : Int32).toNatClampNeg)) ≤ y7 → Q (vI y6) h) ∧ (¬ (h.1 21 0 0 ((4 : Int32).toNatClampNeg)) ≤ y7 → mC M7_ofC [.inr (.inr (some (20, 0, 0))), .inl y7, .inl 9] h (kI (fun x567 h566 => mC M7_isOver [.inr (.inr (some (20, 0, 0))), .inl y7, .inl y6] h566 (kI (fun x569 h568 => (x569 = 0 → mC M7_bookC [.inr (.inr (some (20, 0, 0))), .inl y7, .inl 9, .inl (x567 ||| 0)] h568 (kV (fun h570 => mE M7_loop 124 [vR 20 0 0, vU, vU, vU, vU, vU, vI y6, vI (y7 + 1)] [] h570 Q))) ∧ (¬ x569 = 0 → mC M7_bookC [.inr (.inr (some (20, 0, 0))), .inl y7, .inl 9, .inl (x567 ||| (1 <<< (y6 &&& 31)))] h568 (kV (fun h571 => mE M7_loop 124 [vR 20 0 0, vU, vU, vU, vU, vU, vI y6, vI (y7 + 1)] [] h571 Q)))))))))) : mE M7_loop 124 [vR 20 0 0, vU, vU, vU, vU, vU, vI y6, vI y7] [] h Q := by
  refine mE.iload dX7_loop_124 rfl ?_
  refine mE.aload_n dX7_loop_126 rfl ?_
  refine mE.getf (w := .inr (.inr (some (21, 0, 0)))) dX7_loop_127 f7_7 rfl ?_
  refine mE.iconst (v := 4) dX7_loop_130 (by decide) ?_
  refine mE.iald (x := h.1 21 0 0 ((4 : Int32).toNatClampNeg)) dX7_loop_131 rfl rfl w.1 rfl ?_
  have w := w.2
  refine mE.icmp_ge (tgt := 177) dX7_loop_132 (by decide) (fun c => ?_) (fun c => ?_)
  · have w := w.1 c
    refine mE.iload dX7_loop_177 rfl ?_
    exact mE.iret dX7_loop_179 rfl rfl w
  · have w := w.2 c
    refine mE.aload_n dX7_loop_135 rfl ?_
    refine mE.iload dX7_loop_136 rfl ?_
    refine mE.bipush (v := 9) dX7_loop_138 (by decide) ?_
    refine mE.aload_n dX7_loop_140 rfl ?_
    refine mE.iload dX7_loop_141 rfl ?_
    refine mE.bipush (v := 9) dX7_loop_143 (by decide) ?_
    refine mE.callV (as := [.inl y7, .inl 9]) (k := 20) (r := 0) (i := 0) (st := [vI 9, vI y7, vR 20 0 0]) dX7_loop_145 cf7_loop_46 rfl rfl (Nat.le_of_ble_eq_true rfl) (fun _ => Nat.le_of_ble_eq_true rfl) w (kI_on (fun x567 h566 w => ?_))
    refine mE.aload_n dX7_loop_148 rfl ?_
    refine mE.iload dX7_loop_149 rfl ?_
    refine mE.iload dX7_loop_151 rfl ?_
    refine mE.callV (as := [.inl y7, .inl y6]) (k := 20) (r := 0) (i := 0) (st := [vI x567, vI 9, vI y7, vR 20 0 0]) dX7_loop_153 cf7_loop_87 rfl rfl (Nat.le_of_ble_eq_true rfl) (fun _ => Nat.le_of_ble_eq_true rfl) w (kI_on (fun x569 h568 w => ?_))
    refine mE.if_eq (tgt := 166) dX7_loop_156 (by decide) (fun c => ?_) (fun c => ?_)
    · have w := w.1 c
      refine mE.iconst (v := 0) dX7_loop_166 (by decide) ?_
      refine mE.ior dX7_loop_167 ?_
      refine mE.callV (as := [.inl y7, .inl 9, .inl (x567 ||| 0)]) (k := 20) (r := 0) (i := 0) (st := []) dX7_loop_168 cf7_loop_73 rfl rfl (Nat.le_of_ble_eq_true rfl) (fun _ => Nat.le_of_ble_eq_true rfl) w (kV_on (fun h570 w => ?_))
      refine mE.iinc (v := y7 + 1) (l2 := [vR 20 0 0, vU, vU, vU, vU, vU, vI y6, vI (y7 + 1)]) dX7_loop_171 rfl rfl (by decide) rfl ?_
      refine mE.goto (tgt := 124) dX7_loop_174 (by decide) ?_
      exact w
    · have w := w.2 c
      refine mE.iconst (v := 1) dX7_loop_159 (by decide) ?_
      refine mE.iload dX7_loop_160 rfl ?_
      refine mE.ishl dX7_loop_162 ?_
      refine mE.goto (tgt := 167) dX7_loop_163 (by decide) ?_
      refine mE.ior dX7_loop_167 ?_
      refine mE.callV (as := [.inl y7, .inl 9, .inl (x567 ||| (1 <<< (y6 &&& 31)))]) (k := 20) (r := 0) (i := 0) (st := []) dX7_loop_168 cf7_loop_73 rfl rfl (Nat.le_of_ble_eq_true rfl) (fun _ => Nat.le_of_ble_eq_true rfl) w (kV_on (fun h571 w => ?_))
      refine mE.iinc (v := y7 + 1) (l2 := [vR 20 0 0, vU, vU, vU, vU, vU, vI y6, vI (y7 + 1)]) dX7_loop_171 rfl rfl (by decide) rfl ?_
      refine mE.goto (tgt := 124) dX7_loop_174 (by decide) ?_
      exact w
theorem w7_isLoop {a1 : Int32} {h : mH} {Q : mV → mH → Prop} (w : vp_in 3 470 ∧ (mC M7_in [.inl a1, .inl 0, .inl ((h.1 21 0 0 ((3 : Int32).toNatClampNeg)) - 1)] h (kI (fun x573 h572 => (x573 = 0 ∨ x573 = 1) ∧ Q (vI x573) h572)))) : mC M7_isLoop [.inr (.inr (some (20, 0, 0))), .inl a1] h Q := by
  show mE M7_isLoop 0 [vR 20 0 0, vI a1] [] h Q
  refine mE.iload_n dX7_isLoop_0 rfl ?_
  refine mE.iconst (v := 0) dX7_isLoop_1 (by decide) ?_
  refine mE.aload_n dX7_isLoop_2 rfl ?_
  refine mE.getf (w := .inr (.inr (some (21, 0, 0)))) dX7_isLoop_3 f7_7 rfl ?_
  refine mE.iconst (v := 3) dX7_isLoop_6 (by decide) ?_
  refine mE.iald (x := h.1 21 0 0 ((3 : Int32).toNatClampNeg)) dX7_isLoop_7 rfl rfl w.1 rfl ?_
  have w := w.2
  refine mE.iconst (v := 1) dX7_isLoop_8 (by decide) ?_
  refine mE.isub dX7_isLoop_9 ?_
  refine mE.callS (as := [.inl a1, .inl 0, .inl ((h.1 21 0 0 ((3 : Int32).toNatClampNeg)) - 1)]) (st := []) dX7_isLoop_10 cf7_isLoop_54 rfl rfl (Nat.le_of_ble_eq_true rfl) (fun _ => Nat.le_of_ble_eq_true rfl) w (kI_on (fun x573 h572 w => ?_))
  exact mE.iret dX7_isLoop_13 rfl (nar_b w.1) w.2
theorem w7_isCar {a1 : Int32} {h : mH} {Q : mV → mH → Prop} (w : vp_in 4 470 ∧ (mC M7_in [.inl a1, .inl 0, .inl ((h.1 21 0 0 ((4 : Int32).toNatClampNeg)) - 1)] h (kI (fun x575 h574 => (x575 = 0 ∨ x575 = 1) ∧ Q (vI x575) h574)))) : mC M7_isCar [.inr (.inr (some (20, 0, 0))), .inl a1] h Q := by
  show mE M7_isCar 0 [vR 20 0 0, vI a1] [] h Q
  refine mE.iload_n dX7_isCar_0 rfl ?_
  refine mE.iconst (v := 0) dX7_isCar_1 (by decide) ?_
  refine mE.aload_n dX7_isCar_2 rfl ?_
  refine mE.getf (w := .inr (.inr (some (21, 0, 0)))) dX7_isCar_3 f7_7 rfl ?_
  refine mE.iconst (v := 4) dX7_isCar_6 (by decide) ?_
  refine mE.iald (x := h.1 21 0 0 ((4 : Int32).toNatClampNeg)) dX7_isCar_7 rfl rfl w.1 rfl ?_
  have w := w.2
  refine mE.iconst (v := 1) dX7_isCar_8 (by decide) ?_
  refine mE.isub dX7_isCar_9 ?_
  refine mE.callS (as := [.inl a1, .inl 0, .inl ((h.1 21 0 0 ((4 : Int32).toNatClampNeg)) - 1)]) (st := []) dX7_isCar_10 cf7_isCar_54 rfl rfl (Nat.le_of_ble_eq_true rfl) (fun _ => Nat.le_of_ble_eq_true rfl) w (kI_on (fun x575 h574 w => ?_))
  exact mE.iret dX7_isCar_13 rfl (nar_b w.1) w.2
theorem w7_bounds {a1 : Int32} {a2 : Int32} {a3 : Int32} {h : mH} {Q : mV → mH → Prop} (w : mC M7_isLoop [.inr (.inr (some (20, 0, 0))), .inl a1] h (kI (fun x577 h576 => (¬ x577 = 0 → mC M7_areBounds [.inl a2, .inl a3] h576 (kI (fun x579 h578 => (¬ x579 = 0 → mC M7_record [.inr (.inr (some (20, 0, 0)))] h578 (kV (fun h580 => mC M7_ofL [.inr (.inr (some (20, 0, 0))), .inl a1, .inl 3] h580 (kI (fun x582 h581 => mC M7_bookL [.inr (.inr (some (20, 0, 0))), .inl a1, .inl 3, .inl a2] h581 (kV (fun h583 => mC M7_bookL [.inr (.inr (some (20, 0, 0))), .inl a1, .inl 4, .inl a3] h583 (kV (fun h584 => Q (vI x582) h584))))))))) ∧ (x579 = 0 → Q (vI (-2)) h578)))) ∧ (x577 = 0 → Q (vI (-1)) h576)))) : mC M7_bounds [.inr (.inr (some (20, 0, 0))), .inl a1, .inl a2, .inl a3] h Q := by
  show mE M7_bounds 0 [vR 20 0 0, vI a1, vI a2, vI a3, vU] [] h Q
  refine mE.aload_n dX7_bounds_0 rfl ?_
  refine mE.iload_n dX7_bounds_1 rfl ?_
  refine mE.callV (as := [.inl a1]) (k := 20) (r := 0) (i := 0) (st := []) dX7_bounds_2 cf7_bounds_121 rfl rfl (Nat.le_of_ble_eq_true rfl) (fun _ => Nat.le_of_ble_eq_true rfl) w (kI_on (fun x577 h576 w => ?_))
  refine mE.if_ne (tgt := 10) dX7_bounds_5 (by decide) (fun c => ?_) (fun c => ?_)
  · have w := w.1 c
    refine mE.iload_n dX7_bounds_10 rfl ?_
    refine mE.iload_n dX7_bounds_11 rfl ?_
    refine mE.callS (as := [.inl a2, .inl a3]) (st := []) dX7_bounds_12 cf7_bounds_118 rfl rfl (Nat.le_of_ble_eq_true rfl) (fun _ => Nat.le_of_ble_eq_true rfl) w (kI_on (fun x579 h578 w => ?_))
    refine mE.if_ne (tgt := 21) dX7_bounds_15 (by decide) (fun c => ?_) (fun c => ?_)
    · have w := w.1 c
      refine mE.aload_n dX7_bounds_21 rfl ?_
      refine mE.callV (as := []) (k := 20) (r := 0) (i := 0) (st := []) dX7_bounds_22 cf7_bounds_115 rfl rfl (Nat.le_of_ble_eq_true rfl) (fun _ => Nat.le_of_ble_eq_true rfl) w (kV_on (fun h580 w => ?_))
      refine mE.aload_n dX7_bounds_25 rfl ?_
      refine mE.iload_n dX7_bounds_26 rfl ?_
      refine mE.iconst (v := 3) dX7_bounds_27 (by decide) ?_
      refine mE.callV (as := [.inl a1, .inl 3]) (k := 20) (r := 0) (i := 0) (st := []) dX7_bounds_28 cf7_bounds_84 rfl rfl (Nat.le_of_ble_eq_true rfl) (fun _ => Nat.le_of_ble_eq_true rfl) w (kI_on (fun x582 h581 w => ?_))
      refine mE.istore (l2 := [vR 20 0 0, vI a1, vI a2, vI a3, vI x582]) dX7_bounds_31 (by decide) rfl ?_
      refine mE.aload_n dX7_bounds_33 rfl ?_
      refine mE.iload_n dX7_bounds_34 rfl ?_
      refine mE.iconst (v := 3) dX7_bounds_35 (by decide) ?_
      refine mE.iload_n dX7_bounds_36 rfl ?_
      refine mE.callV (as := [.inl a1, .inl 3, .inl a2]) (k := 20) (r := 0) (i := 0) (st := []) dX7_bounds_37 cf7_bounds_93 rfl rfl (Nat.le_of_ble_eq_true rfl) (fun _ => Nat.le_of_ble_eq_true rfl) w (kV_on (fun h583 w => ?_))
      refine mE.aload_n dX7_bounds_40 rfl ?_
      refine mE.iload_n dX7_bounds_41 rfl ?_
      refine mE.iconst (v := 4) dX7_bounds_42 (by decide) ?_
      refine mE.iload_n dX7_bounds_43 rfl ?_
      refine mE.callV (as := [.inl a1, .inl 4, .inl a3]) (k := 20) (r := 0) (i := 0) (st := []) dX7_bounds_44 cf7_bounds_93 rfl rfl (Nat.le_of_ble_eq_true rfl) (fun _ => Nat.le_of_ble_eq_true rfl) w (kV_on (fun h584 w => ?_))
      refine mE.iload dX7_bounds_47 rfl ?_
      exact mE.iret dX7_bounds_49 rfl rfl w
    · have w := w.2 c
      refine mE.bipush (v := -2) dX7_bounds_18 (by decide) ?_
      exact mE.iret dX7_bounds_20 rfl rfl w
  · have w := w.2 c
    refine mE.iconst (v := -1) dX7_bounds_8 (by decide) ?_
    exact mE.iret dX7_bounds_9 rfl rfl w
theorem w7_come {a1 : Int32} {a2 : Int32} {a3 : Int32} {a4 : Int32} {h : mH} {Q : mV → mH → Prop} (w : mC M7_in [.inl a1, .inl 0, .inl 1] h (kI (fun x586 h585 => (x586 = 0 → Q (vI (-2)) h585) ∧ (¬ x586 = 0 → mC M7_in [.inl a2, .inl 1, .inl 4] h585 (kI (fun x588 h587 => (x588 = 0 → Q (vI (-2)) h587) ∧ (¬ x588 = 0 → mC M7_in [.inl a3, .inl 1, .inl 4] h587 (kI (fun x590 h589 => (x590 = 0 → Q (vI (-2)) h589) ∧ (¬ x590 = 0 → mC M7_in [.inl a4, .inl 1, .inl 9] h589 (kI (fun x592 h591 => (¬ x592 = 0 → vp_in 4 470 ∧ ((¬ (h591.1 21 0 0 ((4 : Int32).toNatClampNeg)) = 40 → mC M7_layCells [.inr (.inr (some (20, 0, 0)))] h591 (kV (fun h593 => mC M7_isFree [.inr (.inr (some (20, 0, 0))), .inl a1, .inl 0] h593 (kI (fun x595 h594 => (¬ x595 = 0 → mC M7_record [.inr (.inr (some (20, 0, 0)))] h594 (kV (fun h596 => vp_in 4 470 ∧ (vp_in 4 470 ∧ (vp_in 4 470 ∧ (mC M7_bookC [.inr (.inr (some (20, 0, 0))), .inl (h596.1 21 0 0 ((4 : Int32).toNatClampNeg)), .inl 0, .inl a1] (pI h596 21 0 0 ((4 : Int32).toNatClampNeg) ((h596.1 21 0 0 ((4 : Int32).toNatClampNeg)) + 1)) (kV (fun h597 => mC M7_bookC [.inr (.inr (some (20, 0, 0))), .inl (h596.1 21 0 0 ((4 : Int32).toNatClampNeg)), .inl 2, .inl a2] h597 (kV (fun h598 => mC M7_bookC [.inr (.inr (some (20, 0, 0))), .inl (h596.1 21 0 0 ((4 : Int32).toNatClampNeg)), .inl 3, .inl a3] h598 (kV (fun h599 => mC M7_bookC [.inr (.inr (some (20, 0, 0))), .inl (h596.1 21 0 0 ((4 : Int32).toNatClampNeg)), .inl 4, .inl a4] h599 (kV (fun h600 => Q (vI (h596.1 21 0 0 ((4 : Int32).toNatClampNeg))) h600)))))))))))))) ∧ (x595 = 0 → Q (vI (-5)) h594)))))) ∧ ((h591.1 21 0 0 ((4 : Int32).toNatClampNeg)) = 40 → Q (vI (-4)) h591))) ∧ (x592 = 0 → Q (vI (-2)) h591))))))))))))) : mC M7_come [.inr (.inr (some (20, 0, 0))), .inl a1, .inl a2, .inl a3, .inl a4] h Q := by
  show mE M7_come 0 [vR 20 0 0, vI a1, vI a2, vI a3, vI a4, vU] [] h Q
  refine mE.iload_n dX7_come_0 rfl ?_
  refine mE.iconst (v := 0) dX7_come_1 (by decide) ?_
  refine mE.iconst (v := 1) dX7_come_2 (by decide) ?_
  refine mE.callS (as := [.inl a1, .inl 0, .inl 1]) (st := []) dX7_come_3 cf7_come_54 rfl rfl (Nat.le_of_ble_eq_true rfl) (fun _ => Nat.le_of_ble_eq_true rfl) w (kI_on (fun x586 h585 w => ?_))
  refine mE.if_eq (tgt := 38) dX7_come_6 (by decide) (fun c => ?_) (fun c => ?_)
  · have w := w.1 c
    refine mE.bipush (v := -2) dX7_come_38 (by decide) ?_
    exact mE.iret dX7_come_40 rfl rfl w
  · have w := w.2 c
    refine mE.iload_n dX7_come_9 rfl ?_
    refine mE.iconst (v := 1) dX7_come_10 (by decide) ?_
    refine mE.iconst (v := 4) dX7_come_11 (by decide) ?_
    refine mE.callS (as := [.inl a2, .inl 1, .inl 4]) (st := []) dX7_come_12 cf7_come_54 rfl rfl (Nat.le_of_ble_eq_true rfl) (fun _ => Nat.le_of_ble_eq_true rfl) w (kI_on (fun x588 h587 w => ?_))
    refine mE.if_eq (tgt := 38) dX7_come_15 (by decide) (fun c => ?_) (fun c => ?_)
    · have w := w.1 c
      refine mE.bipush (v := -2) dX7_come_38 (by decide) ?_
      exact mE.iret dX7_come_40 rfl rfl w
    · have w := w.2 c
      refine mE.iload_n dX7_come_18 rfl ?_
      refine mE.iconst (v := 1) dX7_come_19 (by decide) ?_
      refine mE.iconst (v := 4) dX7_come_20 (by decide) ?_
      refine mE.callS (as := [.inl a3, .inl 1, .inl 4]) (st := []) dX7_come_21 cf7_come_54 rfl rfl (Nat.le_of_ble_eq_true rfl) (fun _ => Nat.le_of_ble_eq_true rfl) w (kI_on (fun x590 h589 w => ?_))
      refine mE.if_eq (tgt := 38) dX7_come_24 (by decide) (fun c => ?_) (fun c => ?_)
      · have w := w.1 c
        refine mE.bipush (v := -2) dX7_come_38 (by decide) ?_
        exact mE.iret dX7_come_40 rfl rfl w
      · have w := w.2 c
        refine mE.iload dX7_come_27 rfl ?_
        refine mE.iconst (v := 1) dX7_come_29 (by decide) ?_
        refine mE.bipush (v := 9) dX7_come_30 (by decide) ?_
        refine mE.callS (as := [.inl a4, .inl 1, .inl 9]) (st := []) dX7_come_32 cf7_come_54 rfl rfl (Nat.le_of_ble_eq_true rfl) (fun _ => Nat.le_of_ble_eq_true rfl) w (kI_on (fun x592 h591 w => ?_))
        refine mE.if_ne (tgt := 41) dX7_come_35 (by decide) (fun c => ?_) (fun c => ?_)
        · have w := w.1 c
          refine mE.aload_n dX7_come_41 rfl ?_
          refine mE.getf (w := .inr (.inr (some (21, 0, 0)))) dX7_come_42 f7_7 rfl ?_
          refine mE.iconst (v := 4) dX7_come_45 (by decide) ?_
          refine mE.iald (x := h591.1 21 0 0 ((4 : Int32).toNatClampNeg)) dX7_come_46 rfl rfl w.1 rfl ?_
          have w := w.2
          refine mE.bipush (v := 40) dX7_come_47 (by decide) ?_
          refine mE.icmp_ne (tgt := 55) dX7_come_49 (by decide) (fun c => ?_) (fun c => ?_)
          · have w := w.1 c
            refine mE.aload_n dX7_come_55 rfl ?_
            refine mE.callV (as := []) (k := 20) (r := 0) (i := 0) (st := []) dX7_come_56 cf7_come_77 rfl rfl (Nat.le_of_ble_eq_true rfl) (fun _ => Nat.le_of_ble_eq_true rfl) w (kV_on (fun h593 w => ?_))
            refine mE.aload_n dX7_come_59 rfl ?_
            refine mE.iload_n dX7_come_60 rfl ?_
            refine mE.iconst (v := 0) dX7_come_61 (by decide) ?_
            refine mE.callV (as := [.inl a1, .inl 0]) (k := 20) (r := 0) (i := 0) (st := []) dX7_come_62 cf7_come_66 rfl rfl (Nat.le_of_ble_eq_true rfl) (fun _ => Nat.le_of_ble_eq_true rfl) w (kI_on (fun x595 h594 w => ?_))
            refine mE.if_ne (tgt := 71) dX7_come_65 (by decide) (fun c => ?_) (fun c => ?_)
            · have w := w.1 c
              refine mE.aload_n dX7_come_71 rfl ?_
              refine mE.callV (as := []) (k := 20) (r := 0) (i := 0) (st := []) dX7_come_72 cf7_come_115 rfl rfl (Nat.le_of_ble_eq_true rfl) (fun _ => Nat.le_of_ble_eq_true rfl) w (kV_on (fun h596 w => ?_))
              refine mE.aload_n dX7_come_75 rfl ?_
              refine mE.getf (w := .inr (.inr (some (21, 0, 0)))) dX7_come_76 f7_7 rfl ?_
              refine mE.iconst (v := 4) dX7_come_79 (by decide) ?_
              refine mE.iald (x := h596.1 21 0 0 ((4 : Int32).toNatClampNeg)) dX7_come_80 rfl rfl w.1 rfl ?_
              have w := w.2
              refine mE.istore (l2 := [vR 20 0 0, vI a1, vI a2, vI a3, vI a4, vI (h596.1 21 0 0 ((4 : Int32).toNatClampNeg))]) dX7_come_81 (by decide) rfl ?_
              refine mE.aload_n dX7_come_83 rfl ?_
              refine mE.getf (w := .inr (.inr (some (21, 0, 0)))) dX7_come_84 f7_7 rfl ?_
              refine mE.iconst (v := 4) dX7_come_87 (by decide) ?_
              refine mE.dup2 dX7_come_88 ?_
              refine mE.iald (x := h596.1 21 0 0 ((4 : Int32).toNatClampNeg)) dX7_come_89 rfl rfl w.1 rfl ?_
              have w := w.2
              refine mE.iconst (v := 1) dX7_come_90 (by decide) ?_
              refine mE.iadd dX7_come_91 ?_
              refine mE.iast dX7_come_92 rfl rfl (fun _ _ _ _ => rfl) w.1 ?_
              have w := w.2
              refine mE.aload_n dX7_come_93 rfl ?_
              refine mE.iload dX7_come_94 rfl ?_
              refine mE.iconst (v := 0) dX7_come_96 (by decide) ?_
              refine mE.iload_n dX7_come_97 rfl ?_
              refine mE.callV (as := [.inl (h596.1 21 0 0 ((4 : Int32).toNatClampNeg)), .inl 0, .inl a1]) (k := 20) (r := 0) (i := 0) (st := []) dX7_come_98 cf7_come_73 rfl rfl (Nat.le_of_ble_eq_true rfl) (fun _ => Nat.le_of_ble_eq_true rfl) w (kV_on (fun h597 w => ?_))
              refine mE.aload_n dX7_come_101 rfl ?_
              refine mE.iload dX7_come_102 rfl ?_
              refine mE.iconst (v := 2) dX7_come_104 (by decide) ?_
              refine mE.iload_n dX7_come_105 rfl ?_
              refine mE.callV (as := [.inl (h596.1 21 0 0 ((4 : Int32).toNatClampNeg)), .inl 2, .inl a2]) (k := 20) (r := 0) (i := 0) (st := []) dX7_come_106 cf7_come_73 rfl rfl (Nat.le_of_ble_eq_true rfl) (fun _ => Nat.le_of_ble_eq_true rfl) w (kV_on (fun h598 w => ?_))
              refine mE.aload_n dX7_come_109 rfl ?_
              refine mE.iload dX7_come_110 rfl ?_
              refine mE.iconst (v := 3) dX7_come_112 (by decide) ?_
              refine mE.iload_n dX7_come_113 rfl ?_
              refine mE.callV (as := [.inl (h596.1 21 0 0 ((4 : Int32).toNatClampNeg)), .inl 3, .inl a3]) (k := 20) (r := 0) (i := 0) (st := []) dX7_come_114 cf7_come_73 rfl rfl (Nat.le_of_ble_eq_true rfl) (fun _ => Nat.le_of_ble_eq_true rfl) w (kV_on (fun h599 w => ?_))
              refine mE.aload_n dX7_come_117 rfl ?_
              refine mE.iload dX7_come_118 rfl ?_
              refine mE.iconst (v := 4) dX7_come_120 (by decide) ?_
              refine mE.iload dX7_come_121 rfl ?_
              refine mE.callV (as := [.inl (h596.1 21 0 0 ((4 : Int32).toNatClampNeg)), .inl 4, .inl a4]) (k := 20) (r := 0) (i := 0) (st := []) dX7_come_123 cf7_come_73 rfl rfl (Nat.le_of_ble_eq_true rfl) (fun _ => Nat.le_of_ble_eq_true rfl) w (kV_on (fun h600 w => ?_))
              refine mE.iload dX7_come_126 rfl ?_
              exact mE.iret dX7_come_128 rfl rfl w
            · have w := w.2 c
              refine mE.bipush (v := -5) dX7_come_68 (by decide) ?_
              exact mE.iret dX7_come_70 rfl rfl w
          · have w := w.2 c
            refine mE.bipush (v := -4) dX7_come_52 (by decide) ?_
            exact mE.iret dX7_come_54 rfl rfl w
        · have w := w.2 c
          refine mE.bipush (v := -2) dX7_come_38 (by decide) ?_
          exact mE.iret dX7_come_40 rfl rfl w
theorem w7_want {a1 : Int32} {h : mH} {Q : mV → mH → Prop} (w : mC M7_isCar [.inr (.inr (some (20, 0, 0))), .inl a1] h (kI (fun x602 h601 => (¬ x602 = 0 → mC M7_isOn [.inr (.inr (some (20, 0, 0))), .inl a1] h601 (kI (fun x604 h603 => (¬ x604 = 0 → mC M7_record [.inr (.inr (some (20, 0, 0)))] h603 (kV (fun h605 => mC M7_ofC [.inr (.inr (some (20, 0, 0))), .inl a1, .inl 6] h605 (kI (fun x607 h606 => mC M7_bookC [.inr (.inr (some (20, 0, 0))), .inl a1, .inl 6, .inl (1 - x607)] h606 (kV (fun h608 => mC M7_ofC [.inr (.inr (some (20, 0, 0))), .inl a1, .inl 6] h608 (kI (fun x610 h609 => Q (vI x610) h609))))))))) ∧ (x604 = 0 → Q (vI (-5)) h603)))) ∧ (x602 = 0 → Q (vI (-1)) h601)))) : mC M7_want [.inr (.inr (some (20, 0, 0))), .inl a1] h Q := by
  show mE M7_want 0 [vR 20 0 0, vI a1] [] h Q
  refine mE.aload_n dX7_want_0 rfl ?_
  refine mE.iload_n dX7_want_1 rfl ?_
  refine mE.callV (as := [.inl a1]) (k := 20) (r := 0) (i := 0) (st := []) dX7_want_2 cf7_want_124 rfl rfl (Nat.le_of_ble_eq_true rfl) (fun _ => Nat.le_of_ble_eq_true rfl) w (kI_on (fun x602 h601 w => ?_))
  refine mE.if_ne (tgt := 10) dX7_want_5 (by decide) (fun c => ?_) (fun c => ?_)
  · have w := w.1 c
    refine mE.aload_n dX7_want_10 rfl ?_
    refine mE.iload_n dX7_want_11 rfl ?_
    refine mE.callV (as := [.inl a1]) (k := 20) (r := 0) (i := 0) (st := []) dX7_want_12 cf7_want_58 rfl rfl (Nat.le_of_ble_eq_true rfl) (fun _ => Nat.le_of_ble_eq_true rfl) w (kI_on (fun x604 h603 w => ?_))
    refine mE.if_ne (tgt := 21) dX7_want_15 (by decide) (fun c => ?_) (fun c => ?_)
    · have w := w.1 c
      refine mE.aload_n dX7_want_21 rfl ?_
      refine mE.callV (as := []) (k := 20) (r := 0) (i := 0) (st := []) dX7_want_22 cf7_want_115 rfl rfl (Nat.le_of_ble_eq_true rfl) (fun _ => Nat.le_of_ble_eq_true rfl) w (kV_on (fun h605 w => ?_))
      refine mE.aload_n dX7_want_25 rfl ?_
      refine mE.iload_n dX7_want_26 rfl ?_
      refine mE.bipush (v := 6) dX7_want_27 (by decide) ?_
      refine mE.iconst (v := 1) dX7_want_29 (by decide) ?_
      refine mE.aload_n dX7_want_30 rfl ?_
      refine mE.iload_n dX7_want_31 rfl ?_
      refine mE.bipush (v := 6) dX7_want_32 (by decide) ?_
      refine mE.callV (as := [.inl a1, .inl 6]) (k := 20) (r := 0) (i := 0) (st := [vI 1, vI 6, vI a1, vR 20 0 0]) dX7_want_34 cf7_want_46 rfl rfl (Nat.le_of_ble_eq_true rfl) (fun _ => Nat.le_of_ble_eq_true rfl) w (kI_on (fun x607 h606 w => ?_))
      refine mE.isub dX7_want_37 ?_
      refine mE.callV (as := [.inl a1, .inl 6, .inl (1 - x607)]) (k := 20) (r := 0) (i := 0) (st := []) dX7_want_38 cf7_want_73 rfl rfl (Nat.le_of_ble_eq_true rfl) (fun _ => Nat.le_of_ble_eq_true rfl) w (kV_on (fun h608 w => ?_))
      refine mE.aload_n dX7_want_41 rfl ?_
      refine mE.iload_n dX7_want_42 rfl ?_
      refine mE.bipush (v := 6) dX7_want_43 (by decide) ?_
      refine mE.callV (as := [.inl a1, .inl 6]) (k := 20) (r := 0) (i := 0) (st := []) dX7_want_45 cf7_want_46 rfl rfl (Nat.le_of_ble_eq_true rfl) (fun _ => Nat.le_of_ble_eq_true rfl) w (kI_on (fun x610 h609 w => ?_))
      exact mE.iret dX7_want_48 rfl rfl w
    · have w := w.2 c
      refine mE.bipush (v := -5) dX7_want_18 (by decide) ?_
      exact mE.iret dX7_want_20 rfl rfl w
  · have w := w.2 c
    refine mE.iconst (v := -1) dX7_want_8 (by decide) ?_
    exact mE.iret dX7_want_9 rfl rfl w
theorem w7_speed {a1 : Int32} {a2 : Int32} {h : mH} {Q : mV → mH → Prop} (w : mC M7_isCar [.inr (.inr (some (20, 0, 0))), .inl a1] h (kI (fun x612 h611 => (¬ x612 = 0 → mC M7_in [.inl a2, .inl 0, .inl 4] h611 (kI (fun x614 h613 => (¬ x614 = 0 → mC M7_isOn [.inr (.inr (some (20, 0, 0))), .inl a1] h613 (kI (fun x616 h615 => (¬ x616 = 0 → mC M7_record [.inr (.inr (some (20, 0, 0)))] h615 (kV (fun h617 => mC M7_ofC [.inr (.inr (some (20, 0, 0))), .inl a1, .inl 3] h617 (kI (fun x619 h618 => mC M7_bookC [.inr (.inr (some (20, 0, 0))), .inl a1, .inl 3, .inl a2] h618 (kV (fun h620 => Q (vI x619) h620))))))) ∧ (x616 = 0 → Q (vI (-5)) h615)))) ∧ (x614 = 0 → Q (vI (-2)) h613)))) ∧ (x612 = 0 → Q (vI (-1)) h611)))) : mC M7_speed [.inr (.inr (some (20, 0, 0))), .inl a1, .inl a2] h Q := by
  show mE M7_speed 0 [vR 20 0 0, vI a1, vI a2, vU] [] h Q
  refine mE.aload_n dX7_speed_0 rfl ?_
  refine mE.iload_n dX7_speed_1 rfl ?_
  refine mE.callV (as := [.inl a1]) (k := 20) (r := 0) (i := 0) (st := []) dX7_speed_2 cf7_speed_124 rfl rfl (Nat.le_of_ble_eq_true rfl) (fun _ => Nat.le_of_ble_eq_true rfl) w (kI_on (fun x612 h611 w => ?_))
  refine mE.if_ne (tgt := 10) dX7_speed_5 (by decide) (fun c => ?_) (fun c => ?_)
  · have w := w.1 c
    refine mE.iload_n dX7_speed_10 rfl ?_
    refine mE.iconst (v := 0) dX7_speed_11 (by decide) ?_
    refine mE.iconst (v := 4) dX7_speed_12 (by decide) ?_
    refine mE.callS (as := [.inl a2, .inl 0, .inl 4]) (st := []) dX7_speed_13 cf7_speed_54 rfl rfl (Nat.le_of_ble_eq_true rfl) (fun _ => Nat.le_of_ble_eq_true rfl) w (kI_on (fun x614 h613 w => ?_))
    refine mE.if_ne (tgt := 22) dX7_speed_16 (by decide) (fun c => ?_) (fun c => ?_)
    · have w := w.1 c
      refine mE.aload_n dX7_speed_22 rfl ?_
      refine mE.iload_n dX7_speed_23 rfl ?_
      refine mE.callV (as := [.inl a1]) (k := 20) (r := 0) (i := 0) (st := []) dX7_speed_24 cf7_speed_58 rfl rfl (Nat.le_of_ble_eq_true rfl) (fun _ => Nat.le_of_ble_eq_true rfl) w (kI_on (fun x616 h615 w => ?_))
      refine mE.if_ne (tgt := 33) dX7_speed_27 (by decide) (fun c => ?_) (fun c => ?_)
      · have w := w.1 c
        refine mE.aload_n dX7_speed_33 rfl ?_
        refine mE.callV (as := []) (k := 20) (r := 0) (i := 0) (st := []) dX7_speed_34 cf7_speed_115 rfl rfl (Nat.le_of_ble_eq_true rfl) (fun _ => Nat.le_of_ble_eq_true rfl) w (kV_on (fun h617 w => ?_))
        refine mE.aload_n dX7_speed_37 rfl ?_
        refine mE.iload_n dX7_speed_38 rfl ?_
        refine mE.iconst (v := 3) dX7_speed_39 (by decide) ?_
        refine mE.callV (as := [.inl a1, .inl 3]) (k := 20) (r := 0) (i := 0) (st := []) dX7_speed_40 cf7_speed_46 rfl rfl (Nat.le_of_ble_eq_true rfl) (fun _ => Nat.le_of_ble_eq_true rfl) w (kI_on (fun x619 h618 w => ?_))
        refine mE.istore_n (l2 := [vR 20 0 0, vI a1, vI a2, vI x619]) dX7_speed_43 (by decide) rfl ?_
        refine mE.aload_n dX7_speed_44 rfl ?_
        refine mE.iload_n dX7_speed_45 rfl ?_
        refine mE.iconst (v := 3) dX7_speed_46 (by decide) ?_
        refine mE.iload_n dX7_speed_47 rfl ?_
        refine mE.callV (as := [.inl a1, .inl 3, .inl a2]) (k := 20) (r := 0) (i := 0) (st := []) dX7_speed_48 cf7_speed_73 rfl rfl (Nat.le_of_ble_eq_true rfl) (fun _ => Nat.le_of_ble_eq_true rfl) w (kV_on (fun h620 w => ?_))
        refine mE.iload_n dX7_speed_51 rfl ?_
        exact mE.iret dX7_speed_52 rfl rfl w
      · have w := w.2 c
        refine mE.bipush (v := -5) dX7_speed_30 (by decide) ?_
        exact mE.iret dX7_speed_32 rfl rfl w
    · have w := w.2 c
      refine mE.bipush (v := -2) dX7_speed_19 (by decide) ?_
      exact mE.iret dX7_speed_21 rfl rfl w
  · have w := w.2 c
    refine mE.iconst (v := -1) dX7_speed_8 (by decide) ?_
    exact mE.iret dX7_speed_9 rfl rfl w
theorem w7_ticks {a1 : Int32} {h : mH} {Q : mV → mH → Prop} (w : mC M7_in [.inl a1, .inl 1, .inl 100] h (kI (fun x622 h621 => (¬ x622 = 0 → mC M7_record [.inr (.inr (some (20, 0, 0)))] h621 (kV (fun h623 => mE M7_ticks 19 [vR 20 0 0, vI a1, vI 0] [] h623 Q))) ∧ (x622 = 0 → Q (vI (-2)) h621)))) : mC M7_ticks [.inr (.inr (some (20, 0, 0))), .inl a1] h Q := by
  show mE M7_ticks 0 [vR 20 0 0, vI a1, vU] [] h Q
  refine mE.iload_n dX7_ticks_0 rfl ?_
  refine mE.iconst (v := 1) dX7_ticks_1 (by decide) ?_
  refine mE.bipush (v := 100) dX7_ticks_2 (by decide) ?_
  refine mE.callS (as := [.inl a1, .inl 1, .inl 100]) (st := []) dX7_ticks_4 cf7_ticks_54 rfl rfl (Nat.le_of_ble_eq_true rfl) (fun _ => Nat.le_of_ble_eq_true rfl) w (kI_on (fun x622 h621 w => ?_))
  refine mE.if_ne (tgt := 13) dX7_ticks_7 (by decide) (fun c => ?_) (fun c => ?_)
  · have w := w.1 c
    refine mE.aload_n dX7_ticks_13 rfl ?_
    refine mE.callV (as := []) (k := 20) (r := 0) (i := 0) (st := []) dX7_ticks_14 cf7_ticks_115 rfl rfl (Nat.le_of_ble_eq_true rfl) (fun _ => Nat.le_of_ble_eq_true rfl) w (kV_on (fun h623 w => ?_))
    refine mE.iconst (v := 0) dX7_ticks_17 (by decide) ?_
    refine mE.istore_n (l2 := [vR 20 0 0, vI a1, vI 0]) dX7_ticks_18 (by decide) rfl ?_
    exact w
  · have w := w.2 c
    refine mE.bipush (v := -2) dX7_ticks_10 (by decide) ?_
    exact mE.iret dX7_ticks_12 rfl rfl w
theorem w7_ticks_19 {y1 : Int32} {y2 : Int32} {h : mH} {Q : mV → mH → Prop} (w : (y1 ≤ y2 → vp_in 2 470 ∧ (Q (vI (h.1 21 0 0 ((2 : Int32).toNatClampNeg))) h)) ∧ (¬ y1 ≤ y2 → mC M7_pass [.inr (.inr (some (20, 0, 0))), .inl (-6)] h (kV (fun h624 => mE M7_ticks 19 [vR 20 0 0, vI y1, vI (y2 + 1)] [] h624 Q)))) : mE M7_ticks 19 [vR 20 0 0, vI y1, vI y2] [] h Q := by
  refine mE.iload_n dX7_ticks_19 rfl ?_
  refine mE.iload_n dX7_ticks_20 rfl ?_
  refine mE.icmp_ge (tgt := 36) dX7_ticks_21 (by decide) (fun c => ?_) (fun c => ?_)
  · have w := w.1 c
    refine mE.aload_n dX7_ticks_36 rfl ?_
    refine mE.getf (w := .inr (.inr (some (21, 0, 0)))) dX7_ticks_37 f7_7 rfl ?_
    refine mE.iconst (v := 2) dX7_ticks_40 (by decide) ?_
    refine mE.iald (x := h.1 21 0 0 ((2 : Int32).toNatClampNeg)) dX7_ticks_41 rfl rfl w.1 rfl ?_
    have w := w.2
    exact mE.iret dX7_ticks_42 rfl rfl w
  · have w := w.2 c
    refine mE.aload_n dX7_ticks_24 rfl ?_
    refine mE.bipush (v := -6) dX7_ticks_25 (by decide) ?_
    refine mE.callV (as := [.inl (-6)]) (k := 20) (r := 0) (i := 0) (st := []) dX7_ticks_27 cf7_ticks_127 rfl rfl (Nat.le_of_ble_eq_true rfl) (fun _ => Nat.le_of_ble_eq_true rfl) w (kV_on (fun h624 w => ?_))
    refine mE.iinc (v := y2 + 1) (l2 := [vR 20 0 0, vI y1, vI (y2 + 1)]) dX7_ticks_30 rfl rfl (by decide) rfl ?_
    refine mE.goto (tgt := 19) dX7_ticks_33 (by decide) ?_
    exact w
theorem w7_ofCar {a1 : Int32} {a2 : Int32} {h : mH} {Q : mV → mH → Prop} (w : mC M7_isCar [.inr (.inr (some (20, 0, 0))), .inl a1] h (kI (fun x626 h625 => (¬ x626 = 0 → (¬ a2 = 9 → mC M7_in [.inl a2, .inl 0, .inl 8] h625 (kI (fun x628 h627 => (x628 = 0 → Q (vI (-2)) h627) ∧ (¬ x628 = 0 → mC M7_ofC [.inr (.inr (some (20, 0, 0))), .inl a1, .inl a2] h627 (kI (fun x630 h629 => Q (vI x630) h629)))))) ∧ (a2 = 9 → mC M7_overBy [.inr (.inr (some (20, 0, 0))), .inl a1] h625 (kI (fun x632 h631 => Q (vI x632) h631)))) ∧ (x626 = 0 → Q (vI (-1)) h625)))) : mC M7_ofCar [.inr (.inr (some (20, 0, 0))), .inl a1, .inl a2] h Q := by
  show mE M7_ofCar 0 [vR 20 0 0, vI a1, vI a2] [] h Q
  refine mE.aload_n dX7_ofCar_0 rfl ?_
  refine mE.iload_n dX7_ofCar_1 rfl ?_
  refine mE.callV (as := [.inl a1]) (k := 20) (r := 0) (i := 0) (st := []) dX7_ofCar_2 cf7_ofCar_124 rfl rfl (Nat.le_of_ble_eq_true rfl) (fun _ => Nat.le_of_ble_eq_true rfl) w (kI_on (fun x626 h625 w => ?_))
  refine mE.if_ne (tgt := 10) dX7_ofCar_5 (by decide) (fun c => ?_) (fun c => ?_)
  · have w := w.1 c
    refine mE.iload_n dX7_ofCar_10 rfl ?_
    refine mE.bipush (v := 9) dX7_ofCar_11 (by decide) ?_
    refine mE.icmp_ne (tgt := 24) dX7_ofCar_13 (by decide) (fun c => ?_) (fun c => ?_)
    · have w := w.1 c
      refine mE.iload_n dX7_ofCar_24 rfl ?_
      refine mE.iconst (v := 0) dX7_ofCar_25 (by decide) ?_
      refine mE.bipush (v := 8) dX7_ofCar_26 (by decide) ?_
      refine mE.callS (as := [.inl a2, .inl 0, .inl 8]) (st := []) dX7_ofCar_28 cf7_ofCar_54 rfl rfl (Nat.le_of_ble_eq_true rfl) (fun _ => Nat.le_of_ble_eq_true rfl) w (kI_on (fun x628 h627 w => ?_))
      refine mE.if_eq (tgt := 43) dX7_ofCar_31 (by decide) (fun c => ?_) (fun c => ?_)
      · have w := w.1 c
        refine mE.bipush (v := -2) dX7_ofCar_43 (by decide) ?_
        exact mE.iret dX7_ofCar_45 rfl rfl w
      · have w := w.2 c
        refine mE.aload_n dX7_ofCar_34 rfl ?_
        refine mE.iload_n dX7_ofCar_35 rfl ?_
        refine mE.iload_n dX7_ofCar_36 rfl ?_
        refine mE.callV (as := [.inl a1, .inl a2]) (k := 20) (r := 0) (i := 0) (st := []) dX7_ofCar_37 cf7_ofCar_46 rfl rfl (Nat.le_of_ble_eq_true rfl) (fun _ => Nat.le_of_ble_eq_true rfl) w (kI_on (fun x630 h629 w => ?_))
        refine mE.goto (tgt := 45) dX7_ofCar_40 (by decide) ?_
        exact mE.iret dX7_ofCar_45 rfl rfl w
    · have w := w.2 c
      refine mE.aload_n dX7_ofCar_16 rfl ?_
      refine mE.iload_n dX7_ofCar_17 rfl ?_
      refine mE.callV (as := [.inl a1]) (k := 20) (r := 0) (i := 0) (st := []) dX7_ofCar_18 cf7_ofCar_90 rfl rfl (Nat.le_of_ble_eq_true rfl) (fun _ => Nat.le_of_ble_eq_true rfl) w (kI_on (fun x632 h631 w => ?_))
      refine mE.goto (tgt := 45) dX7_ofCar_21 (by decide) ?_
      exact mE.iret dX7_ofCar_45 rfl rfl w
  · have w := w.2 c
    refine mE.iconst (v := -1) dX7_ofCar_8 (by decide) ?_
    exact mE.iret dX7_ofCar_9 rfl rfl w
theorem w7_ofLoop {a1 : Int32} {a2 : Int32} {h : mH} {Q : mV → mH → Prop} (w : mC M7_isLoop [.inr (.inr (some (20, 0, 0))), .inl a1] h (kI (fun x634 h633 => (¬ x634 = 0 → (¬ a2 = 8 → mC M7_in [.inl a2, .inl 0, .inl 9] h633 (kI (fun x636 h635 => (x636 = 0 → Q (vI (-2)) h635) ∧ (¬ x636 = 0 → mC M7_ofL [.inr (.inr (some (20, 0, 0))), .inl a1, .inl a2] h635 (kI (fun x638 h637 => Q (vI x638) h637)))))) ∧ (a2 = 8 → mC M7_layCells [.inr (.inr (some (20, 0, 0)))] h633 (kV (fun h639 => mC M7_strength [.inr (.inr (some (20, 0, 0))), .inl a1] h639 (kI (fun x641 h640 => Q (vI x641) h640)))))) ∧ (x634 = 0 → Q (vI (-1)) h633)))) : mC M7_ofLoop [.inr (.inr (some (20, 0, 0))), .inl a1, .inl a2] h Q := by
  show mE M7_ofLoop 0 [vR 20 0 0, vI a1, vI a2] [] h Q
  refine mE.aload_n dX7_ofLoop_0 rfl ?_
  refine mE.iload_n dX7_ofLoop_1 rfl ?_
  refine mE.callV (as := [.inl a1]) (k := 20) (r := 0) (i := 0) (st := []) dX7_ofLoop_2 cf7_ofLoop_121 rfl rfl (Nat.le_of_ble_eq_true rfl) (fun _ => Nat.le_of_ble_eq_true rfl) w (kI_on (fun x634 h633 w => ?_))
  refine mE.if_ne (tgt := 10) dX7_ofLoop_5 (by decide) (fun c => ?_) (fun c => ?_)
  · have w := w.1 c
    refine mE.iload_n dX7_ofLoop_10 rfl ?_
    refine mE.bipush (v := 8) dX7_ofLoop_11 (by decide) ?_
    refine mE.icmp_ne (tgt := 26) dX7_ofLoop_13 (by decide) (fun c => ?_) (fun c => ?_)
    · have w := w.1 c
      refine mE.iload_n dX7_ofLoop_26 rfl ?_
      refine mE.iconst (v := 0) dX7_ofLoop_27 (by decide) ?_
      refine mE.bipush (v := 9) dX7_ofLoop_28 (by decide) ?_
      refine mE.callS (as := [.inl a2, .inl 0, .inl 9]) (st := []) dX7_ofLoop_30 cf7_ofLoop_54 rfl rfl (Nat.le_of_ble_eq_true rfl) (fun _ => Nat.le_of_ble_eq_true rfl) w (kI_on (fun x636 h635 w => ?_))
      refine mE.if_eq (tgt := 45) dX7_ofLoop_33 (by decide) (fun c => ?_) (fun c => ?_)
      · have w := w.1 c
        refine mE.bipush (v := -2) dX7_ofLoop_45 (by decide) ?_
        exact mE.iret dX7_ofLoop_47 rfl rfl w
      · have w := w.2 c
        refine mE.aload_n dX7_ofLoop_36 rfl ?_
        refine mE.iload_n dX7_ofLoop_37 rfl ?_
        refine mE.iload_n dX7_ofLoop_38 rfl ?_
        refine mE.callV (as := [.inl a1, .inl a2]) (k := 20) (r := 0) (i := 0) (st := []) dX7_ofLoop_39 cf7_ofLoop_84 rfl rfl (Nat.le_of_ble_eq_true rfl) (fun _ => Nat.le_of_ble_eq_true rfl) w (kI_on (fun x638 h637 w => ?_))
        refine mE.goto (tgt := 47) dX7_ofLoop_42 (by decide) ?_
        exact mE.iret dX7_ofLoop_47 rfl rfl w
    · have w := w.2 c
      refine mE.aload_n dX7_ofLoop_16 rfl ?_
      refine mE.callV (as := []) (k := 20) (r := 0) (i := 0) (st := []) dX7_ofLoop_17 cf7_ofLoop_77 rfl rfl (Nat.le_of_ble_eq_true rfl) (fun _ => Nat.le_of_ble_eq_true rfl) w (kV_on (fun h639 w => ?_))
      refine mE.aload_n dX7_ofLoop_20 rfl ?_
      refine mE.iload_n dX7_ofLoop_21 rfl ?_
      refine mE.callV (as := [.inl a1]) (k := 20) (r := 0) (i := 0) (st := []) dX7_ofLoop_22 cf7_ofLoop_99 rfl rfl (Nat.le_of_ble_eq_true rfl) (fun _ => Nat.le_of_ble_eq_true rfl) w (kI_on (fun x641 h640 w => ?_))
      exact mE.iret dX7_ofLoop_25 rfl rfl w
  · have w := w.2 c
    refine mE.iconst (v := -1) dX7_ofLoop_8 (by decide) ?_
    exact mE.iret dX7_ofLoop_9 rfl rfl w
theorem w7_errorOf {a1 : Int32} {h : mH} {Q : mV → mH → Prop} (w : mC M7_ofL [.inr (.inr (some (20, 0, 0))), .inl a1, .inl 6] h (kI (fun x643 h642 => mC M7_ofL [.inr (.inr (some (20, 0, 0))), .inl a1, .inl 7] h642 (kI (fun x645 h644 => Q (vI (x643 - x645)) h644))))) : mC M7_errorOf [.inr (.inr (some (20, 0, 0))), .inl a1] h Q := by
  show mE M7_errorOf 0 [vR 20 0 0, vI a1] [] h Q
  refine mE.aload_n dX7_errorOf_0 rfl ?_
  refine mE.iload_n dX7_errorOf_1 rfl ?_
  refine mE.bipush (v := 6) dX7_errorOf_2 (by decide) ?_
  refine mE.callV (as := [.inl a1, .inl 6]) (k := 20) (r := 0) (i := 0) (st := []) dX7_errorOf_4 cf7_errorOf_84 rfl rfl (Nat.le_of_ble_eq_true rfl) (fun _ => Nat.le_of_ble_eq_true rfl) w (kI_on (fun x643 h642 w => ?_))
  refine mE.aload_n dX7_errorOf_7 rfl ?_
  refine mE.iload_n dX7_errorOf_8 rfl ?_
  refine mE.bipush (v := 7) dX7_errorOf_9 (by decide) ?_
  refine mE.callV (as := [.inl a1, .inl 7]) (k := 20) (r := 0) (i := 0) (st := [vI x643]) dX7_errorOf_11 cf7_errorOf_84 rfl rfl (Nat.le_of_ble_eq_true rfl) (fun _ => Nat.le_of_ble_eq_true rfl) w (kI_on (fun x645 h644 w => ?_))
  refine mE.isub dX7_errorOf_14 ?_
  exact mE.iret dX7_errorOf_15 rfl rfl w
theorem w7_error {a1 : Int32} {h : mH} {Q : mV → mH → Prop} (w : mC M7_isLoop [.inr (.inr (some (20, 0, 0))), .inl a1] h (kI (fun x647 h646 => (x647 = 0 → Q (vI (-1)) h646) ∧ (¬ x647 = 0 → mC M7_errorOf [.inr (.inr (some (20, 0, 0))), .inl a1] h646 (kI (fun x649 h648 => Q (vI (1000 + x649)) h648)))))) : mC M7_error [.inr (.inr (some (20, 0, 0))), .inl a1] h Q := by
  show mE M7_error 0 [vR 20 0 0, vI a1] [] h Q
  refine mE.aload_n dX7_error_0 rfl ?_
  refine mE.iload_n dX7_error_1 rfl ?_
  refine mE.callV (as := [.inl a1]) (k := 20) (r := 0) (i := 0) (st := []) dX7_error_2 cf7_error_121 rfl rfl (Nat.le_of_ble_eq_true rfl) (fun _ => Nat.le_of_ble_eq_true rfl) w (kI_on (fun x647 h646 w => ?_))
  refine mE.if_eq (tgt := 20) dX7_error_5 (by decide) (fun c => ?_) (fun c => ?_)
  · have w := w.1 c
    refine mE.iconst (v := -1) dX7_error_20 (by decide) ?_
    exact mE.iret dX7_error_21 rfl rfl w
  · have w := w.2 c
    refine mE.sipush (v := 1000) dX7_error_8 (by decide) ?_
    refine mE.aload_n dX7_error_11 rfl ?_
    refine mE.iload_n dX7_error_12 rfl ?_
    refine mE.callV (as := [.inl a1]) (k := 20) (r := 0) (i := 0) (st := [vI 1000]) dX7_error_13 cf7_error_130 rfl rfl (Nat.le_of_ble_eq_true rfl) (fun _ => Nat.le_of_ble_eq_true rfl) w (kI_on (fun x649 h648 w => ?_))
    refine mE.iadd dX7_error_16 ?_
    refine mE.goto (tgt := 21) dX7_error_17 (by decide) ?_
    exact mE.iret dX7_error_21 rfl rfl w
theorem w7_carAt {a1 : Int32} {a2 : Int32} {h : mH} {Q : mV → mH → Prop} (w : mC M7_in [.inl a1, .inl 0, .inl 1] h (kI (fun x651 h650 => (x651 = 0 → Q (vI (-1)) h650) ∧ (¬ x651 = 0 → mC M7_in [.inl a2, .inl 0, .inl 39] h650 (kI (fun x653 h652 => (¬ x653 = 0 → mC M7_layCells [.inr (.inr (some (20, 0, 0)))] h652 (kV (fun h654 => vp_in ((40 * a1) + a2) 80 ∧ (Q (vI (h654.1 27 0 0 (((40 * a1) + a2).toNatClampNeg))) h654)))) ∧ (x653 = 0 → Q (vI (-1)) h652))))))) : mC M7_carAt [.inr (.inr (some (20, 0, 0))), .inl a1, .inl a2] h Q := by
  show mE M7_carAt 0 [vR 20 0 0, vI a1, vI a2] [] h Q
  refine mE.iload_n dX7_carAt_0 rfl ?_
  refine mE.iconst (v := 0) dX7_carAt_1 (by decide) ?_
  refine mE.iconst (v := 1) dX7_carAt_2 (by decide) ?_
  refine mE.callS (as := [.inl a1, .inl 0, .inl 1]) (st := []) dX7_carAt_3 cf7_carAt_54 rfl rfl (Nat.le_of_ble_eq_true rfl) (fun _ => Nat.le_of_ble_eq_true rfl) w (kI_on (fun x651 h650 w => ?_))
  refine mE.if_eq (tgt := 19) dX7_carAt_6 (by decide) (fun c => ?_) (fun c => ?_)
  · have w := w.1 c
    refine mE.iconst (v := -1) dX7_carAt_19 (by decide) ?_
    exact mE.iret dX7_carAt_20 rfl rfl w
  · have w := w.2 c
    refine mE.iload_n dX7_carAt_9 rfl ?_
    refine mE.iconst (v := 0) dX7_carAt_10 (by decide) ?_
    refine mE.bipush (v := 39) dX7_carAt_11 (by decide) ?_
    refine mE.callS (as := [.inl a2, .inl 0, .inl 39]) (st := []) dX7_carAt_13 cf7_carAt_54 rfl rfl (Nat.le_of_ble_eq_true rfl) (fun _ => Nat.le_of_ble_eq_true rfl) w (kI_on (fun x653 h652 w => ?_))
    refine mE.if_ne (tgt := 21) dX7_carAt_16 (by decide) (fun c => ?_) (fun c => ?_)
    · have w := w.1 c
      refine mE.aload_n dX7_carAt_21 rfl ?_
      refine mE.callV (as := []) (k := 20) (r := 0) (i := 0) (st := []) dX7_carAt_22 cf7_carAt_77 rfl rfl (Nat.le_of_ble_eq_true rfl) (fun _ => Nat.le_of_ble_eq_true rfl) w (kV_on (fun h654 w => ?_))
      refine mE.aload_n dX7_carAt_25 rfl ?_
      refine mE.getf (w := .inr (.inr (some (27, 0, 0)))) dX7_carAt_26 f7_29 rfl ?_
      refine mE.bipush (v := 40) dX7_carAt_29 (by decide) ?_
      refine mE.iload_n dX7_carAt_31 rfl ?_
      refine mE.imul dX7_carAt_32 ?_
      refine mE.iload_n dX7_carAt_33 rfl ?_
      refine mE.iadd dX7_carAt_34 ?_
      refine mE.iald (x := h654.1 27 0 0 (((40 * a1) + a2).toNatClampNeg)) dX7_carAt_35 rfl rfl w.1 rfl ?_
      have w := w.2
      exact mE.iret dX7_carAt_36 rfl rfl w
    · have w := w.2 c
      refine mE.iconst (v := -1) dX7_carAt_19 (by decide) ?_
      exact mE.iret dX7_carAt_20 rfl rfl w
theorem w7_gone  {h : mH} {Q : mV → mH → Prop} (w : mE M7_gone 4 [vR 20 0 0, vI 0, vI 0] [] h Q) : mC M7_gone [.inr (.inr (some (20, 0, 0)))] h Q := by
  show mE M7_gone 0 [vR 20 0 0, vU, vU] [] h Q
  refine mE.iconst (v := 0) dX7_gone_0 (by decide) ?_
  refine mE.istore_n (l2 := [vR 20 0 0, vI 0, vU]) dX7_gone_1 (by decide) rfl ?_
  refine mE.iconst (v := 0) dX7_gone_2 (by decide) ?_
  refine mE.istore_n (l2 := [vR 20 0 0, vI 0, vI 0]) dX7_gone_3 (by decide) rfl ?_
  exact w
theorem w7_gone_4 {y1 : Int32} {y2 : Int32} {h : mH} {Q : mV → mH → Prop} (w : vp_in 4 470 ∧ (((h.1 21 0 0 ((4 : Int32).toNatClampNeg)) ≤ y2 → Q (vI y1) h) ∧ (¬ (h.1 21 0 0 ((4 : Int32).toNatClampNeg)) ≤ y2 → mC M7_ofC [.inr (.inr (some (20, 0, 0))), .inl y2, .inl 5] h (kI (fun x656 h655 => mE M7_gone 4 [vR 20 0 0, vI (y1 + x656), vI (y2 + 1)] [] h655 Q))))) : mE M7_gone 4 [vR 20 0 0, vI y1, vI y2] [] h Q := by
  refine mE.iload_n dX7_gone_4 rfl ?_
  refine mE.aload_n dX7_gone_5 rfl ?_
  refine mE.getf (w := .inr (.inr (some (21, 0, 0)))) dX7_gone_6 f7_7 rfl ?_
  refine mE.iconst (v := 4) dX7_gone_9 (by decide) ?_
  refine mE.iald (x := h.1 21 0 0 ((4 : Int32).toNatClampNeg)) dX7_gone_10 rfl rfl w.1 rfl ?_
  have w := w.2
  refine mE.icmp_ge (tgt := 29) dX7_gone_11 (by decide) (fun c => ?_) (fun c => ?_)
  · have w := w.1 c
    refine mE.iload_n dX7_gone_29 rfl ?_
    exact mE.iret dX7_gone_30 rfl rfl w
  · have w := w.2 c
    refine mE.iload_n dX7_gone_14 rfl ?_
    refine mE.aload_n dX7_gone_15 rfl ?_
    refine mE.iload_n dX7_gone_16 rfl ?_
    refine mE.iconst (v := 5) dX7_gone_17 (by decide) ?_
    refine mE.callV (as := [.inl y2, .inl 5]) (k := 20) (r := 0) (i := 0) (st := [vI y1]) dX7_gone_18 cf7_gone_46 rfl rfl (Nat.le_of_ble_eq_true rfl) (fun _ => Nat.le_of_ble_eq_true rfl) w (kI_on (fun x656 h655 w => ?_))
    refine mE.iadd dX7_gone_21 ?_
    refine mE.istore_n (l2 := [vR 20 0 0, vI (y1 + x656), vI y2]) dX7_gone_22 (by decide) rfl ?_
    refine mE.iinc (v := y2 + 1) (l2 := [vR 20 0 0, vI (y1 + x656), vI (y2 + 1)]) dX7_gone_23 rfl rfl (by decide) rfl ?_
    refine mE.goto (tgt := 4) dX7_gone_26 (by decide) ?_
    exact w
theorem w7_sum {a1 : Int32} {h : mH} {Q : mV → mH → Prop} (w : mE M7_sum 4 [vR 20 0 0, vI a1, vI 0, vI 0] [] h Q) : mC M7_sum [.inr (.inr (some (20, 0, 0))), .inl a1] h Q := by
  show mE M7_sum 0 [vR 20 0 0, vI a1, vU, vU] [] h Q
  refine mE.iconst (v := 0) dX7_sum_0 (by decide) ?_
  refine mE.istore_n (l2 := [vR 20 0 0, vI a1, vI 0, vU]) dX7_sum_1 (by decide) rfl ?_
  refine mE.iconst (v := 0) dX7_sum_2 (by decide) ?_
  refine mE.istore_n (l2 := [vR 20 0 0, vI a1, vI 0, vI 0]) dX7_sum_3 (by decide) rfl ?_
  exact w
theorem w7_sum_4 {y1 : Int32} {y2 : Int32} {y3 : Int32} {h : mH} {Q : mV → mH → Prop} (w : vp_in 3 470 ∧ (((h.1 21 0 0 ((3 : Int32).toNatClampNeg)) ≤ y3 → Q (vI y2) h) ∧ (¬ (h.1 21 0 0 ((3 : Int32).toNatClampNeg)) ≤ y3 → mC M7_ofL [.inr (.inr (some (20, 0, 0))), .inl y3, .inl y1] h (kI (fun x658 h657 => mE M7_sum 4 [vR 20 0 0, vI y1, vI (y2 + x658), vI (y3 + 1)] [] h657 Q))))) : mE M7_sum 4 [vR 20 0 0, vI y1, vI y2, vI y3] [] h Q := by
  refine mE.iload_n dX7_sum_4 rfl ?_
  refine mE.aload_n dX7_sum_5 rfl ?_
  refine mE.getf (w := .inr (.inr (some (21, 0, 0)))) dX7_sum_6 f7_7 rfl ?_
  refine mE.iconst (v := 3) dX7_sum_9 (by decide) ?_
  refine mE.iald (x := h.1 21 0 0 ((3 : Int32).toNatClampNeg)) dX7_sum_10 rfl rfl w.1 rfl ?_
  have w := w.2
  refine mE.icmp_ge (tgt := 29) dX7_sum_11 (by decide) (fun c => ?_) (fun c => ?_)
  · have w := w.1 c
    refine mE.iload_n dX7_sum_29 rfl ?_
    exact mE.iret dX7_sum_30 rfl rfl w
  · have w := w.2 c
    refine mE.iload_n dX7_sum_14 rfl ?_
    refine mE.aload_n dX7_sum_15 rfl ?_
    refine mE.iload_n dX7_sum_16 rfl ?_
    refine mE.iload_n dX7_sum_17 rfl ?_
    refine mE.callV (as := [.inl y3, .inl y1]) (k := 20) (r := 0) (i := 0) (st := [vI y2]) dX7_sum_18 cf7_sum_84 rfl rfl (Nat.le_of_ble_eq_true rfl) (fun _ => Nat.le_of_ble_eq_true rfl) w (kI_on (fun x658 h657 w => ?_))
    refine mE.iadd dX7_sum_21 ?_
    refine mE.istore_n (l2 := [vR 20 0 0, vI y1, vI (y2 + x658), vI y3]) dX7_sum_22 (by decide) rfl ?_
    refine mE.iinc (v := y3 + 1) (l2 := [vR 20 0 0, vI y1, vI (y2 + x658), vI (y3 + 1)]) dX7_sum_23 rfl rfl (by decide) rfl ?_
    refine mE.goto (tgt := 4) dX7_sum_26 (by decide) ?_
    exact w
theorem w7_count {a1 : Int32} {h : mH} {Q : mV → mH → Prop} (w : (a1 = 0 → vp_in (2 + a1) 470 ∧ (Q (vI (h.1 21 0 0 ((2 + a1).toNatClampNeg))) h)) ∧ (a1 = 1 → vp_in (2 + a1) 470 ∧ (Q (vI (h.1 21 0 0 ((2 + a1).toNatClampNeg))) h)) ∧ (a1 = 2 → vp_in (2 + a1) 470 ∧ (Q (vI (h.1 21 0 0 ((2 + a1).toNatClampNeg))) h)) ∧ (a1 = 3 → vp_in 4 470 ∧ (mC M7_gone [.inr (.inr (some (20, 0, 0)))] h (kI (fun x660 h659 => Q (vI ((h.1 21 0 0 ((4 : Int32).toNatClampNeg)) - x660)) h659)))) ∧ (a1 = 4 → mC M7_gone [.inr (.inr (some (20, 0, 0)))] h (kI (fun x662 h661 => Q (vI x662) h661))) ∧ (a1 = 5 → mC M7_listener [.inr (.inr (some (20, 0, 0)))] h (kI (fun x664 h663 => Q (vI x664) h663))) ∧ (a1 = 6 → mC M7_sum [.inr (.inr (some (20, 0, 0))), .inl a1] h (kI (fun x666 h665 => Q (vI x666) h665))) ∧ (a1 = 7 → mC M7_sum [.inr (.inr (some (20, 0, 0))), .inl a1] h (kI (fun x668 h667 => Q (vI x668) h667))) ∧ (a1 = 8 → Q (vI (h.1 20 0 0 7)) h) ∧ (a1 = 9 → Q (vI (h.1 20 0 0 3)) h) ∧ (¬ a1 = 0 → ¬ a1 = 1 → ¬ a1 = 2 → ¬ a1 = 3 → ¬ a1 = 4 → ¬ a1 = 5 → ¬ a1 = 6 → ¬ a1 = 7 → ¬ a1 = 8 → ¬ a1 = 9 → mC M7_in [.inl a1, .inl 10, .inl 11] h (kI (fun x670 h669 => (x670 = 0 → Q (vI (-2)) h669) ∧ (¬ x670 = 0 → vp_in (a1 - 10) 470 ∧ (Q (vI (h669.1 21 0 0 ((a1 - 10).toNatClampNeg))) h669)))))) : mC M7_count [.inr (.inr (some (20, 0, 0))), .inl a1] h Q := by
  show mE M7_count 0 [vR 20 0 0, vI a1] [] h Q
  refine mE.iload_n dX7_count_0 rfl ?_
  by_cases c0 : a1 = 0
  · have w := w.1 c0
    refine mE.tabIn (v := 0) (off := 55) (tgt := 56) dX7_count_1 (by rw [c0]; decide) (by decide) (by decide) rfl (by decide) ?_
    refine mE.aload_n dX7_count_56 rfl ?_
    refine mE.getf (w := .inr (.inr (some (21, 0, 0)))) dX7_count_57 f7_7 rfl ?_
    refine mE.iconst (v := 2) dX7_count_60 (by decide) ?_
    refine mE.iload_n dX7_count_61 rfl ?_
    refine mE.iadd dX7_count_62 ?_
    refine mE.iald (x := h.1 21 0 0 ((2 + a1).toNatClampNeg)) dX7_count_63 rfl rfl w.1 rfl ?_
    have w := w.2
    exact mE.iret dX7_count_64 rfl rfl w
  · have w := w.2
    by_cases c1 : a1 = 1
    · have w := w.1 c1
      refine mE.tabIn (v := 1) (off := 55) (tgt := 56) dX7_count_1 (by rw [c1]; decide) (by decide) (by decide) rfl (by decide) ?_
      refine mE.aload_n dX7_count_56 rfl ?_
      refine mE.getf (w := .inr (.inr (some (21, 0, 0)))) dX7_count_57 f7_7 rfl ?_
      refine mE.iconst (v := 2) dX7_count_60 (by decide) ?_
      refine mE.iload_n dX7_count_61 rfl ?_
      refine mE.iadd dX7_count_62 ?_
      refine mE.iald (x := h.1 21 0 0 ((2 + a1).toNatClampNeg)) dX7_count_63 rfl rfl w.1 rfl ?_
      have w := w.2
      exact mE.iret dX7_count_64 rfl rfl w
    · have w := w.2
      by_cases c2 : a1 = 2
      · have w := w.1 c2
        refine mE.tabIn (v := 2) (off := 55) (tgt := 56) dX7_count_1 (by rw [c2]; decide) (by decide) (by decide) rfl (by decide) ?_
        refine mE.aload_n dX7_count_56 rfl ?_
        refine mE.getf (w := .inr (.inr (some (21, 0, 0)))) dX7_count_57 f7_7 rfl ?_
        refine mE.iconst (v := 2) dX7_count_60 (by decide) ?_
        refine mE.iload_n dX7_count_61 rfl ?_
        refine mE.iadd dX7_count_62 ?_
        refine mE.iald (x := h.1 21 0 0 ((2 + a1).toNatClampNeg)) dX7_count_63 rfl rfl w.1 rfl ?_
        have w := w.2
        exact mE.iret dX7_count_64 rfl rfl w
      · have w := w.2
        by_cases c3 : a1 = 3
        · have w := w.1 c3
          refine mE.tabIn (v := 3) (off := 64) (tgt := 65) dX7_count_1 (by rw [c3]; decide) (by decide) (by decide) rfl (by decide) ?_
          refine mE.aload_n dX7_count_65 rfl ?_
          refine mE.getf (w := .inr (.inr (some (21, 0, 0)))) dX7_count_66 f7_7 rfl ?_
          refine mE.iconst (v := 4) dX7_count_69 (by decide) ?_
          refine mE.iald (x := h.1 21 0 0 ((4 : Int32).toNatClampNeg)) dX7_count_70 rfl rfl w.1 rfl ?_
          have w := w.2
          refine mE.aload_n dX7_count_71 rfl ?_
          refine mE.callV (as := []) (k := 20) (r := 0) (i := 0) (st := [vI (h.1 21 0 0 ((4 : Int32).toNatClampNeg))]) dX7_count_72 cf7_count_133 rfl rfl (Nat.le_of_ble_eq_true rfl) (fun _ => Nat.le_of_ble_eq_true rfl) w (kI_on (fun x660 h659 w => ?_))
          refine mE.isub dX7_count_75 ?_
          exact mE.iret dX7_count_76 rfl rfl w
        · have w := w.2
          by_cases c4 : a1 = 4
          · have w := w.1 c4
            refine mE.tabIn (v := 4) (off := 76) (tgt := 77) dX7_count_1 (by rw [c4]; decide) (by decide) (by decide) rfl (by decide) ?_
            refine mE.aload_n dX7_count_77 rfl ?_
            refine mE.callV (as := []) (k := 20) (r := 0) (i := 0) (st := []) dX7_count_78 cf7_count_133 rfl rfl (Nat.le_of_ble_eq_true rfl) (fun _ => Nat.le_of_ble_eq_true rfl) w (kI_on (fun x662 h661 w => ?_))
            exact mE.iret dX7_count_81 rfl rfl w
          · have w := w.2
            by_cases c5 : a1 = 5
            · have w := w.1 c5
              refine mE.tabIn (v := 5) (off := 81) (tgt := 82) dX7_count_1 (by rw [c5]; decide) (by decide) (by decide) rfl (by decide) ?_
              refine mE.aload_n dX7_count_82 rfl ?_
              refine mE.callV (as := []) (k := 20) (r := 0) (i := 0) (st := []) dX7_count_83 cf7_count_108 rfl rfl (Nat.le_of_ble_eq_true rfl) (fun _ => Nat.le_of_ble_eq_true rfl) w (kI_on (fun x664 h663 w => ?_))
              exact mE.iret dX7_count_86 rfl rfl w
            · have w := w.2
              by_cases c6 : a1 = 6
              · have w := w.1 c6
                refine mE.tabIn (v := 6) (off := 86) (tgt := 87) dX7_count_1 (by rw [c6]; decide) (by decide) (by decide) rfl (by decide) ?_
                refine mE.aload_n dX7_count_87 rfl ?_
                refine mE.iload_n dX7_count_88 rfl ?_
                refine mE.callV (as := [.inl a1]) (k := 20) (r := 0) (i := 0) (st := []) dX7_count_89 cf7_count_136 rfl rfl (Nat.le_of_ble_eq_true rfl) (fun _ => Nat.le_of_ble_eq_true rfl) w (kI_on (fun x666 h665 w => ?_))
                exact mE.iret dX7_count_92 rfl rfl w
              · have w := w.2
                by_cases c7 : a1 = 7
                · have w := w.1 c7
                  refine mE.tabIn (v := 7) (off := 86) (tgt := 87) dX7_count_1 (by rw [c7]; decide) (by decide) (by decide) rfl (by decide) ?_
                  refine mE.aload_n dX7_count_87 rfl ?_
                  refine mE.iload_n dX7_count_88 rfl ?_
                  refine mE.callV (as := [.inl a1]) (k := 20) (r := 0) (i := 0) (st := []) dX7_count_89 cf7_count_136 rfl rfl (Nat.le_of_ble_eq_true rfl) (fun _ => Nat.le_of_ble_eq_true rfl) w (kI_on (fun x668 h667 w => ?_))
                  exact mE.iret dX7_count_92 rfl rfl w
                · have w := w.2
                  by_cases c8 : a1 = 8
                  · have w := w.1 c8
                    refine mE.tabIn (v := 8) (off := 92) (tgt := 93) dX7_count_1 (by rw [c8]; decide) (by decide) (by decide) rfl (by decide) ?_
                    refine mE.aload_n dX7_count_93 rfl ?_
                    refine mE.getf (w := .inl (h.1 20 0 0 7)) dX7_count_94 f7_139 rfl ?_
                    exact mE.iret dX7_count_97 rfl rfl w
                  · have w := w.2
                    by_cases c9 : a1 = 9
                    · have w := w.1 c9
                      refine mE.tabIn (v := 9) (off := 97) (tgt := 98) dX7_count_1 (by rw [c9]; decide) (by decide) (by decide) rfl (by decide) ?_
                      refine mE.aload_n dX7_count_98 rfl ?_
                      refine mE.getf (w := .inl (h.1 20 0 0 3)) dX7_count_99 f7_42 rfl ?_
                      exact mE.iret dX7_count_102 rfl rfl w
                    · have w := w.2
                      have w := w c0 c1 c2 c3 c4 c5 c6 c7 c8 c9
                      refine mE.tabOut (tgt := 103) dX7_count_1 (by have e0 := lv_neT c0 (a := 0) (by decide); have e1 := lv_neT c1 (a := 1) (by decide); have e2 := lv_neT c2 (a := 2) (by decide); have e3 := lv_neT c3 (a := 3) (by decide); have e4 := lv_neT c4 (a := 4) (by decide); have e5 := lv_neT c5 (a := 5) (by decide); have e6 := lv_neT c6 (a := 6) (by decide); have e7 := lv_neT c7 (a := 7) (by decide); have e8 := lv_neT c8 (a := 8) (by decide); have e9 := lv_neT c9 (a := 9) (by decide); omega) (by decide) ?_
                      refine mE.iload_n dX7_count_103 rfl ?_
                      refine mE.bipush (v := 10) dX7_count_104 (by decide) ?_
                      refine mE.bipush (v := 11) dX7_count_106 (by decide) ?_
                      refine mE.callS (as := [.inl a1, .inl 10, .inl 11]) (st := []) dX7_count_108 cf7_count_54 rfl rfl (Nat.le_of_ble_eq_true rfl) (fun _ => Nat.le_of_ble_eq_true rfl) w (kI_on (fun x670 h669 w => ?_))
                      refine mE.if_eq (tgt := 126) dX7_count_111 (by decide) (fun c => ?_) (fun c => ?_)
                      · have w := w.1 c
                        refine mE.bipush (v := -2) dX7_count_126 (by decide) ?_
                        exact mE.iret dX7_count_128 rfl rfl w
                      · have w := w.2 c
                        refine mE.aload_n dX7_count_114 rfl ?_
                        refine mE.getf (w := .inr (.inr (some (21, 0, 0)))) dX7_count_115 f7_7 rfl ?_
                        refine mE.iload_n dX7_count_118 rfl ?_
                        refine mE.bipush (v := 10) dX7_count_119 (by decide) ?_
                        refine mE.isub dX7_count_121 ?_
                        refine mE.iald (x := h669.1 21 0 0 ((a1 - 10).toNatClampNeg)) dX7_count_122 rfl rfl w.1 rfl ?_
                        have w := w.2
                        refine mE.goto (tgt := 128) dX7_count_123 (by decide) ?_
                        exact mE.iret dX7_count_128 rfl rfl w
theorem w7_inside {a1 : Int32} {a2 : Int32} {h : mH} {Q : mV → mH → Prop} (w : mC M7_isLoop [.inr (.inr (some (20, 0, 0))), .inl a1] h (kI (fun x672 h671 => (x672 = 0 → Q (vI (-1)) h671) ∧ (¬ x672 = 0 → mC M7_isLoop [.inr (.inr (some (20, 0, 0))), .inl a2] h671 (kI (fun x674 h673 => (x674 = 0 → Q (vI (-1)) h673) ∧ (¬ x674 = 0 → mC M7_ofL [.inr (.inr (some (20, 0, 0))), .inl a1, .inl 6] h673 (kI (fun x676 h675 => mC M7_ofL [.inr (.inr (some (20, 0, 0))), .inl a2, .inl 6] h675 (kI (fun x678 h677 => Q (vI ((1000 + x676) - x678)) h677))))))))))) : mC M7_inside [.inr (.inr (some (20, 0, 0))), .inl a1, .inl a2] h Q := by
  show mE M7_inside 0 [vR 20 0 0, vI a1, vI a2] [] h Q
  refine mE.aload_n dX7_inside_0 rfl ?_
  refine mE.iload_n dX7_inside_1 rfl ?_
  refine mE.callV (as := [.inl a1]) (k := 20) (r := 0) (i := 0) (st := []) dX7_inside_2 cf7_inside_121 rfl rfl (Nat.le_of_ble_eq_true rfl) (fun _ => Nat.le_of_ble_eq_true rfl) w (kI_on (fun x672 h671 w => ?_))
  refine mE.if_eq (tgt := 38) dX7_inside_5 (by decide) (fun c => ?_) (fun c => ?_)
  · have w := w.1 c
    refine mE.iconst (v := -1) dX7_inside_38 (by decide) ?_
    exact mE.iret dX7_inside_39 rfl rfl w
  · have w := w.2 c
    refine mE.aload_n dX7_inside_8 rfl ?_
    refine mE.iload_n dX7_inside_9 rfl ?_
    refine mE.callV (as := [.inl a2]) (k := 20) (r := 0) (i := 0) (st := []) dX7_inside_10 cf7_inside_121 rfl rfl (Nat.le_of_ble_eq_true rfl) (fun _ => Nat.le_of_ble_eq_true rfl) w (kI_on (fun x674 h673 w => ?_))
    refine mE.if_eq (tgt := 38) dX7_inside_13 (by decide) (fun c => ?_) (fun c => ?_)
    · have w := w.1 c
      refine mE.iconst (v := -1) dX7_inside_38 (by decide) ?_
      exact mE.iret dX7_inside_39 rfl rfl w
    · have w := w.2 c
      refine mE.sipush (v := 1000) dX7_inside_16 (by decide) ?_
      refine mE.aload_n dX7_inside_19 rfl ?_
      refine mE.iload_n dX7_inside_20 rfl ?_
      refine mE.bipush (v := 6) dX7_inside_21 (by decide) ?_
      refine mE.callV (as := [.inl a1, .inl 6]) (k := 20) (r := 0) (i := 0) (st := [vI 1000]) dX7_inside_23 cf7_inside_84 rfl rfl (Nat.le_of_ble_eq_true rfl) (fun _ => Nat.le_of_ble_eq_true rfl) w (kI_on (fun x676 h675 w => ?_))
      refine mE.iadd dX7_inside_26 ?_
      refine mE.aload_n dX7_inside_27 rfl ?_
      refine mE.iload_n dX7_inside_28 rfl ?_
      refine mE.bipush (v := 6) dX7_inside_29 (by decide) ?_
      refine mE.callV (as := [.inl a2, .inl 6]) (k := 20) (r := 0) (i := 0) (st := [vI (1000 + x676)]) dX7_inside_31 cf7_inside_84 rfl rfl (Nat.le_of_ble_eq_true rfl) (fun _ => Nat.le_of_ble_eq_true rfl) w (kI_on (fun x678 h677 w => ?_))
      refine mE.isub dX7_inside_34 ?_
      refine mE.goto (tgt := 39) dX7_inside_35 (by decide) ?_
      exact mE.iret dX7_inside_39 rfl rfl w
theorem w7_counted {a1 : Int32} {a2 : Int32} {a3 : Int32} {h : mH} {Q : mV → mH → Prop} (w : mC M7_isLoop [.inr (.inr (some (20, 0, 0))), .inl a1] h (kI (fun x680 h679 => (¬ x680 = 0 → mC M7_in [.inl a2, .inl 1, .inl 100] h679 (kI (fun x682 h681 => (¬ x682 = 0 → mC M7_keep [.inr (.inr (some (20, 0, 0)))] h681 (kV (fun h683 => mE M7_counted 30 [vR 20 0 0, vI a1, vI a2, vI a3, vI 0] [] h683 Q))) ∧ (x682 = 0 → Q (vI (-2)) h681)))) ∧ (x680 = 0 → Q (vI (-1)) h679)))) : mC M7_counted [.inr (.inr (some (20, 0, 0))), .inl a1, .inl a2, .inl a3] h Q := by
  show mE M7_counted 0 [vR 20 0 0, vI a1, vI a2, vI a3, vU] [] h Q
  refine mE.aload_n dX7_counted_0 rfl ?_
  refine mE.iload_n dX7_counted_1 rfl ?_
  refine mE.callV (as := [.inl a1]) (k := 20) (r := 0) (i := 0) (st := []) dX7_counted_2 cf7_counted_121 rfl rfl (Nat.le_of_ble_eq_true rfl) (fun _ => Nat.le_of_ble_eq_true rfl) w (kI_on (fun x680 h679 w => ?_))
  refine mE.if_ne (tgt := 10) dX7_counted_5 (by decide) (fun c => ?_) (fun c => ?_)
  · have w := w.1 c
    refine mE.iload_n dX7_counted_10 rfl ?_
    refine mE.iconst (v := 1) dX7_counted_11 (by decide) ?_
    refine mE.bipush (v := 100) dX7_counted_12 (by decide) ?_
    refine mE.callS (as := [.inl a2, .inl 1, .inl 100]) (st := []) dX7_counted_14 cf7_counted_54 rfl rfl (Nat.le_of_ble_eq_true rfl) (fun _ => Nat.le_of_ble_eq_true rfl) w (kI_on (fun x682 h681 w => ?_))
    refine mE.if_ne (tgt := 23) dX7_counted_17 (by decide) (fun c => ?_) (fun c => ?_)
    · have w := w.1 c
      refine mE.aload_n dX7_counted_23 rfl ?_
      refine mE.callV (as := []) (k := 20) (r := 0) (i := 0) (st := []) dX7_counted_24 cf7_counted_142 rfl rfl (Nat.le_of_ble_eq_true rfl) (fun _ => Nat.le_of_ble_eq_true rfl) w (kV_on (fun h683 w => ?_))
      refine mE.iconst (v := 0) dX7_counted_27 (by decide) ?_
      refine mE.istore (l2 := [vR 20 0 0, vI a1, vI a2, vI a3, vI 0]) dX7_counted_28 (by decide) rfl ?_
      exact w
    · have w := w.2 c
      refine mE.bipush (v := -2) dX7_counted_20 (by decide) ?_
      exact mE.iret dX7_counted_22 rfl rfl w
  · have w := w.2 c
    refine mE.iconst (v := -1) dX7_counted_8 (by decide) ?_
    exact mE.iret dX7_counted_9 rfl rfl w
theorem w7_counted_30 {y1 : Int32} {y2 : Int32} {y3 : Int32} {y4 : Int32} {h : mH} {Q : mV → mH → Prop} (w : (y2 ≤ y4 → mC M7_ofL [.inr (.inr (some (20, 0, 0))), .inl y1, .inl 6] h (kI (fun x685 h684 => mC M7_comeBack [.inr (.inr (some (20, 0, 0)))] h684 (kV (fun h686 => Q (vI x685) h686))))) ∧ (¬ y2 ≤ y4 → mC M7_pass [.inr (.inr (some (20, 0, 0))), .inl y3] h (kV (fun h687 => mE M7_counted 30 [vR 20 0 0, vI y1, vI y2, vI y3, vI (y4 + 1)] [] h687 Q)))) : mE M7_counted 30 [vR 20 0 0, vI y1, vI y2, vI y3, vI y4] [] h Q := by
  refine mE.iload dX7_counted_30 rfl ?_
  refine mE.iload_n dX7_counted_32 rfl ?_
  refine mE.icmp_ge (tgt := 47) dX7_counted_33 (by decide) (fun c => ?_) (fun c => ?_)
  · have w := w.1 c
    refine mE.aload_n dX7_counted_47 rfl ?_
    refine mE.iload_n dX7_counted_48 rfl ?_
    refine mE.bipush (v := 6) dX7_counted_49 (by decide) ?_
    refine mE.callV (as := [.inl y1, .inl 6]) (k := 20) (r := 0) (i := 0) (st := []) dX7_counted_51 cf7_counted_84 rfl rfl (Nat.le_of_ble_eq_true rfl) (fun _ => Nat.le_of_ble_eq_true rfl) w (kI_on (fun x685 h684 w => ?_))
    refine mE.istore (l2 := [vR 20 0 0, vI y1, vI y2, vI y3, vI x685]) dX7_counted_54 (by decide) rfl ?_
    refine mE.aload_n dX7_counted_56 rfl ?_
    refine mE.callV (as := []) (k := 20) (r := 0) (i := 0) (st := []) dX7_counted_57 cf7_counted_145 rfl rfl (Nat.le_of_ble_eq_true rfl) (fun _ => Nat.le_of_ble_eq_true rfl) w (kV_on (fun h686 w => ?_))
    refine mE.iload dX7_counted_60 rfl ?_
    exact mE.iret dX7_counted_62 rfl rfl w
  · have w := w.2 c
    refine mE.aload_n dX7_counted_36 rfl ?_
    refine mE.iload_n dX7_counted_37 rfl ?_
    refine mE.callV (as := [.inl y3]) (k := 20) (r := 0) (i := 0) (st := []) dX7_counted_38 cf7_counted_127 rfl rfl (Nat.le_of_ble_eq_true rfl) (fun _ => Nat.le_of_ble_eq_true rfl) w (kV_on (fun h687 w => ?_))
    refine mE.iinc (v := y4 + 1) (l2 := [vR 20 0 0, vI y1, vI y2, vI y3, vI (y4 + 1)]) dX7_counted_41 rfl rfl (by decide) rfl ?_
    refine mE.goto (tgt := 30) dX7_counted_44 (by decide) ?_
    exact w
theorem w7_countsIn {a1 : Int32} {a2 : Int32} {h : mH} {Q : mV → mH → Prop} (w : mC M7_counted [.inr (.inr (some (20, 0, 0))), .inl a1, .inl a2, .inl (-6)] h (kI (fun x689 h688 => Q (vI x689) h688))) : mC M7_countsIn [.inr (.inr (some (20, 0, 0))), .inl a1, .inl a2] h Q := by
  show mE M7_countsIn 0 [vR 20 0 0, vI a1, vI a2] [] h Q
  refine mE.aload_n dX7_countsIn_0 rfl ?_
  refine mE.iload_n dX7_countsIn_1 rfl ?_
  refine mE.iload_n dX7_countsIn_2 rfl ?_
  refine mE.bipush (v := -6) dX7_countsIn_3 (by decide) ?_
  refine mE.callV (as := [.inl a1, .inl a2, .inl (-6)]) (k := 20) (r := 0) (i := 0) (st := []) dX7_countsIn_5 cf7_countsIn_148 rfl rfl (Nat.le_of_ble_eq_true rfl) (fun _ => Nat.le_of_ble_eq_true rfl) w (kI_on (fun x689 h688 w => ?_))
  exact mE.iret dX7_countsIn_8 rfl rfl w
theorem w7_countsAlone {a1 : Int32} {a2 : Int32} {h : mH} {Q : mV → mH → Prop} (w : mC M7_counted [.inr (.inr (some (20, 0, 0))), .inl a1, .inl a2, .inl a1] h (kI (fun x691 h690 => Q (vI x691) h690))) : mC M7_countsAlone [.inr (.inr (some (20, 0, 0))), .inl a1, .inl a2] h Q := by
  show mE M7_countsAlone 0 [vR 20 0 0, vI a1, vI a2] [] h Q
  refine mE.aload_n dX7_countsAlone_0 rfl ?_
  refine mE.iload_n dX7_countsAlone_1 rfl ?_
  refine mE.iload_n dX7_countsAlone_2 rfl ?_
  refine mE.iload_n dX7_countsAlone_3 rfl ?_
  refine mE.callV (as := [.inl a1, .inl a2, .inl a1]) (k := 20) (r := 0) (i := 0) (st := []) dX7_countsAlone_4 cf7_countsAlone_148 rfl rfl (Nat.le_of_ble_eq_true rfl) (fun _ => Nat.le_of_ble_eq_true rfl) w (kI_on (fun x691 h690 w => ?_))
  exact mE.iret dX7_countsAlone_7 rfl rfl w
theorem w7_amount {a1 : Int32} {h : mH} {Q : mV → mH → Prop} (w : (0 ≤ a1 → Q (vI a1) h) ∧ (¬ 0 ≤ a1 → Q (vI (-a1)) h)) : mC M7_amount [.inl a1] h Q := by
  show mE M7_amount 0 [vI a1] [] h Q
  refine mE.iload_n dX7_amount_0 rfl ?_
  refine mE.if_ge (tgt := 9) dX7_amount_1 (by decide) (fun c => ?_) (fun c => ?_)
  · have w := w.1 c
    refine mE.iload_n dX7_amount_9 rfl ?_
    exact mE.iret dX7_amount_10 rfl rfl w
  · have w := w.2 c
    refine mE.iload_n dX7_amount_4 rfl ?_
    refine mE.ineg dX7_amount_5 ?_
    refine mE.goto (tgt := 10) dX7_amount_6 (by decide) ?_
    exact mE.iret dX7_amount_10 rfl rfl w
theorem w7_bestUpper {a1 : Int32} {a2 : Int32} {h : mH} {Q : mV → mH → Prop} (w : mC M7_isLoop [.inr (.inr (some (20, 0, 0))), .inl a1] h (kI (fun x693 h692 => (¬ x693 = 0 → mC M7_in [.inl a2, .inl 1, .inl 100] h692 (kI (fun x695 h694 => (¬ x695 = 0 → mC M7_keep [.inr (.inr (some (20, 0, 0)))] h694 (kV (fun h696 => mC M7_ofL [.inr (.inr (some (20, 0, 0))), .inl a1, .inl 4] h696 (kI (fun x698 h697 => mE M7_bestUpper 45 [vR 20 0 0, vI a1, vI a2, vI (-6), vI 0, vU, vI x698, vU] [] h697 Q))))) ∧ (x695 = 0 → Q (vI (-2)) h694)))) ∧ (x693 = 0 → Q (vI (-1)) h692)))) : mC M7_bestUpper [.inr (.inr (some (20, 0, 0))), .inl a1, .inl a2] h Q := by
  show mE M7_bestUpper 0 [vR 20 0 0, vI a1, vI a2, vU, vU, vU, vU, vU] [] h Q
  refine mE.aload_n dX7_bestUpper_0 rfl ?_
  refine mE.iload_n dX7_bestUpper_1 rfl ?_
  refine mE.callV (as := [.inl a1]) (k := 20) (r := 0) (i := 0) (st := []) dX7_bestUpper_2 cf7_bestUpper_121 rfl rfl (Nat.le_of_ble_eq_true rfl) (fun _ => Nat.le_of_ble_eq_true rfl) w (kI_on (fun x693 h692 w => ?_))
  refine mE.if_ne (tgt := 10) dX7_bestUpper_5 (by decide) (fun c => ?_) (fun c => ?_)
  · have w := w.1 c
    refine mE.iload_n dX7_bestUpper_10 rfl ?_
    refine mE.iconst (v := 1) dX7_bestUpper_11 (by decide) ?_
    refine mE.bipush (v := 100) dX7_bestUpper_12 (by decide) ?_
    refine mE.callS (as := [.inl a2, .inl 1, .inl 100]) (st := []) dX7_bestUpper_14 cf7_bestUpper_54 rfl rfl (Nat.le_of_ble_eq_true rfl) (fun _ => Nat.le_of_ble_eq_true rfl) w (kI_on (fun x695 h694 w => ?_))
    refine mE.if_ne (tgt := 23) dX7_bestUpper_17 (by decide) (fun c => ?_) (fun c => ?_)
    · have w := w.1 c
      refine mE.bipush (v := -6) dX7_bestUpper_23 (by decide) ?_
      refine mE.istore_n (l2 := [vR 20 0 0, vI a1, vI a2, vI (-6), vU, vU, vU, vU]) dX7_bestUpper_25 (by decide) rfl ?_
      refine mE.iconst (v := 0) dX7_bestUpper_26 (by decide) ?_
      refine mE.istore (l2 := [vR 20 0 0, vI a1, vI a2, vI (-6), vI 0, vU, vU, vU]) dX7_bestUpper_27 (by decide) rfl ?_
      refine mE.aload_n dX7_bestUpper_29 rfl ?_
      refine mE.callV (as := []) (k := 20) (r := 0) (i := 0) (st := []) dX7_bestUpper_30 cf7_bestUpper_142 rfl rfl (Nat.le_of_ble_eq_true rfl) (fun _ => Nat.le_of_ble_eq_true rfl) w (kV_on (fun h696 w => ?_))
      refine mE.aload_n dX7_bestUpper_33 rfl ?_
      refine mE.iload_n dX7_bestUpper_34 rfl ?_
      refine mE.iconst (v := 4) dX7_bestUpper_35 (by decide) ?_
      refine mE.callV (as := [.inl a1, .inl 4]) (k := 20) (r := 0) (i := 0) (st := []) dX7_bestUpper_36 cf7_bestUpper_84 rfl rfl (Nat.le_of_ble_eq_true rfl) (fun _ => Nat.le_of_ble_eq_true rfl) w (kI_on (fun x698 h697 w => ?_))
      refine mE.istore (l2 := [vR 20 0 0, vI a1, vI a2, vI (-6), vI 0, vI x698, vU, vU]) dX7_bestUpper_39 (by decide) rfl ?_
      refine mE.iload dX7_bestUpper_41 rfl ?_
      refine mE.istore (l2 := [vR 20 0 0, vI a1, vI a2, vI (-6), vI 0, vI x698, vI x698, vU]) dX7_bestUpper_43 (by decide) rfl ?_
      exact mE.less (by exact ⟨Or.inr rfl, ⟨Or.inr rfl, ⟨Or.inr rfl, ⟨Or.inr rfl, ⟨Or.inr rfl, ⟨Or.inl rfl, ⟨Or.inr rfl, ⟨Or.inl rfl, trivial⟩⟩⟩⟩⟩⟩⟩⟩) w
    · have w := w.2 c
      refine mE.bipush (v := -2) dX7_bestUpper_20 (by decide) ?_
      exact mE.iret dX7_bestUpper_22 rfl rfl w
  · have w := w.2 c
    refine mE.iconst (v := -1) dX7_bestUpper_8 (by decide) ?_
    exact mE.iret dX7_bestUpper_9 rfl rfl w
theorem w7_bestUpper_45 {y1 : Int32} {y2 : Int32} {y3 : Int32} {y4 : Int32} {y6 : Int32} {h : mH} {Q : mV → mH → Prop} (w : (200 < y6 → Q (vI y3) h) ∧ (¬ 200 < y6 → mC M7_bookL [.inr (.inr (some (20, 0, 0))), .inl y1, .inl 3, .inl y6] h (kV (fun h699 => mE M7_bestUpper 64 [vR 20 0 0, vI y1, vI y2, vI y3, vI y4, vU, vI y6, vI 0] [] h699 Q)))) : mE M7_bestUpper 45 [vR 20 0 0, vI y1, vI y2, vI y3, vI y4, vU, vI y6, vU] [] h Q := by
  refine mE.iload dX7_bestUpper_45 rfl ?_
  refine mE.sipush (v := 200) dX7_bestUpper_47 (by decide) ?_
  refine mE.icmp_gt (tgt := 120) dX7_bestUpper_50 (by decide) (fun c => ?_) (fun c => ?_)
  · have w := w.1 c
    refine mE.iload_n dX7_bestUpper_120 rfl ?_
    exact mE.iret dX7_bestUpper_121 rfl rfl w
  · have w := w.2 c
    refine mE.aload_n dX7_bestUpper_53 rfl ?_
    refine mE.iload_n dX7_bestUpper_54 rfl ?_
    refine mE.iconst (v := 3) dX7_bestUpper_55 (by decide) ?_
    refine mE.iload dX7_bestUpper_56 rfl ?_
    refine mE.callV (as := [.inl y1, .inl 3, .inl y6]) (k := 20) (r := 0) (i := 0) (st := []) dX7_bestUpper_58 cf7_bestUpper_93 rfl rfl (Nat.le_of_ble_eq_true rfl) (fun _ => Nat.le_of_ble_eq_true rfl) w (kV_on (fun h699 w => ?_))
    refine mE.iconst (v := 0) dX7_bestUpper_61 (by decide) ?_
    refine mE.istore (l2 := [vR 20 0 0, vI y1, vI y2, vI y3, vI y4, vU, vI y6, vI 0]) dX7_bestUpper_62 (by decide) rfl ?_
    exact w
theorem w7_bestUpper_64 {y1 : Int32} {y2 : Int32} {y3 : Int32} {y4 : Int32} {y6 : Int32} {y7 : Int32} {h : mH} {Q : mV → mH → Prop} (w : (y2 ≤ y7 → mC M7_errorOf [.inr (.inr (some (20, 0, 0))), .inl y1] h (kI (fun x701 h700 => mC M7_amount [.inl x701] h700 (kI (fun x703 h702 => mC M7_comeBack [.inr (.inr (some (20, 0, 0)))] h702 (kV (fun h704 => (y3 < 0 → mE M7_bestUpper 45 [vR 20 0 0, vI y1, vI y2, vI y6, vI x703, vU, vI (y6 + 1), vU] [] h704 Q) ∧ (¬ y3 < 0 → (y4 ≤ x703 → mE M7_bestUpper 45 [vR 20 0 0, vI y1, vI y2, vI y3, vI y4, vU, vI (y6 + 1), vU] [] h704 Q) ∧ (¬ y4 ≤ x703 → mE M7_bestUpper 45 [vR 20 0 0, vI y1, vI y2, vI y6, vI x703, vU, vI (y6 + 1), vU] [] h704 Q))))))))) ∧ (¬ y2 ≤ y7 → mC M7_pass [.inr (.inr (some (20, 0, 0))), .inl (-6)] h (kV (fun h705 => mE M7_bestUpper 64 [vR 20 0 0, vI y1, vI y2, vI y3, vI y4, vU, vI y6, vI (y7 + 1)] [] h705 Q)))) : mE M7_bestUpper 64 [vR 20 0 0, vI y1, vI y2, vI y3, vI y4, vU, vI y6, vI y7] [] h Q := by
  refine mE.iload dX7_bestUpper_64 rfl ?_
  refine mE.iload_n dX7_bestUpper_66 rfl ?_
  refine mE.icmp_ge (tgt := 82) dX7_bestUpper_67 (by decide) (fun c => ?_) (fun c => ?_)
  · have w := w.1 c
    refine mE.aload_n dX7_bestUpper_82 rfl ?_
    refine mE.iload_n dX7_bestUpper_83 rfl ?_
    refine mE.callV (as := [.inl y1]) (k := 20) (r := 0) (i := 0) (st := []) dX7_bestUpper_84 cf7_bestUpper_130 rfl rfl (Nat.le_of_ble_eq_true rfl) (fun _ => Nat.le_of_ble_eq_true rfl) w (kI_on (fun x701 h700 w => ?_))
    refine mE.callS (as := [.inl x701]) (st := []) dX7_bestUpper_87 cf7_bestUpper_152 rfl rfl (Nat.le_of_ble_eq_true rfl) (fun _ => Nat.le_of_ble_eq_true rfl) w (kI_on (fun x703 h702 w => ?_))
    refine mE.istore (l2 := [vR 20 0 0, vI y1, vI y2, vI y3, vI y4, vU, vI y6, vI x703]) dX7_bestUpper_90 (by decide) rfl ?_
    refine mE.aload_n dX7_bestUpper_92 rfl ?_
    refine mE.callV (as := []) (k := 20) (r := 0) (i := 0) (st := []) dX7_bestUpper_93 cf7_bestUpper_145 rfl rfl (Nat.le_of_ble_eq_true rfl) (fun _ => Nat.le_of_ble_eq_true rfl) w (kV_on (fun h704 w => ?_))
    refine mE.iload_n dX7_bestUpper_96 rfl ?_
    refine mE.if_lt (tgt := 107) dX7_bestUpper_97 (by decide) (fun c => ?_) (fun c => ?_)
    · have w := w.1 c
      refine mE.iload dX7_bestUpper_107 rfl ?_
      refine mE.istore_n (l2 := [vR 20 0 0, vI y1, vI y2, vI y6, vI y4, vU, vI y6, vI x703]) dX7_bestUpper_109 (by decide) rfl ?_
      refine mE.iload dX7_bestUpper_110 rfl ?_
      refine mE.istore (l2 := [vR 20 0 0, vI y1, vI y2, vI y6, vI x703, vU, vI y6, vI x703]) dX7_bestUpper_112 (by decide) rfl ?_
      refine mE.iinc (v := y6 + 1) (l2 := [vR 20 0 0, vI y1, vI y2, vI y6, vI x703, vU, vI (y6 + 1), vI x703]) dX7_bestUpper_114 rfl rfl (by decide) rfl ?_
      refine mE.goto (tgt := 45) dX7_bestUpper_117 (by decide) ?_
      exact mE.less (by exact ⟨Or.inr rfl, ⟨Or.inr rfl, ⟨Or.inr rfl, ⟨Or.inr rfl, ⟨Or.inr rfl, ⟨Or.inl rfl, ⟨Or.inr rfl, ⟨Or.inl rfl, trivial⟩⟩⟩⟩⟩⟩⟩⟩) w
    · have w := w.2 c
      refine mE.iload dX7_bestUpper_100 rfl ?_
      refine mE.iload dX7_bestUpper_102 rfl ?_
      refine mE.icmp_ge (tgt := 114) dX7_bestUpper_104 (by decide) (fun c => ?_) (fun c => ?_)
      · have w := w.1 c
        refine mE.iinc (v := y6 + 1) (l2 := [vR 20 0 0, vI y1, vI y2, vI y3, vI y4, vU, vI (y6 + 1), vI x703]) dX7_bestUpper_114 rfl rfl (by decide) rfl ?_
        refine mE.goto (tgt := 45) dX7_bestUpper_117 (by decide) ?_
        exact mE.less (by exact ⟨Or.inr rfl, ⟨Or.inr rfl, ⟨Or.inr rfl, ⟨Or.inr rfl, ⟨Or.inr rfl, ⟨Or.inl rfl, ⟨Or.inr rfl, ⟨Or.inl rfl, trivial⟩⟩⟩⟩⟩⟩⟩⟩) w
      · have w := w.2 c
        refine mE.iload dX7_bestUpper_107 rfl ?_
        refine mE.istore_n (l2 := [vR 20 0 0, vI y1, vI y2, vI y6, vI y4, vU, vI y6, vI x703]) dX7_bestUpper_109 (by decide) rfl ?_
        refine mE.iload dX7_bestUpper_110 rfl ?_
        refine mE.istore (l2 := [vR 20 0 0, vI y1, vI y2, vI y6, vI x703, vU, vI y6, vI x703]) dX7_bestUpper_112 (by decide) rfl ?_
        refine mE.iinc (v := y6 + 1) (l2 := [vR 20 0 0, vI y1, vI y2, vI y6, vI x703, vU, vI (y6 + 1), vI x703]) dX7_bestUpper_114 rfl rfl (by decide) rfl ?_
        refine mE.goto (tgt := 45) dX7_bestUpper_117 (by decide) ?_
        exact mE.less (by exact ⟨Or.inr rfl, ⟨Or.inr rfl, ⟨Or.inr rfl, ⟨Or.inr rfl, ⟨Or.inr rfl, ⟨Or.inl rfl, ⟨Or.inr rfl, ⟨Or.inl rfl, trivial⟩⟩⟩⟩⟩⟩⟩⟩) w
  · have w := w.2 c
    refine mE.aload_n dX7_bestUpper_70 rfl ?_
    refine mE.bipush (v := -6) dX7_bestUpper_71 (by decide) ?_
    refine mE.callV (as := [.inl (-6)]) (k := 20) (r := 0) (i := 0) (st := []) dX7_bestUpper_73 cf7_bestUpper_127 rfl rfl (Nat.le_of_ble_eq_true rfl) (fun _ => Nat.le_of_ble_eq_true rfl) w (kV_on (fun h705 w => ?_))
    refine mE.iinc (v := y7 + 1) (l2 := [vR 20 0 0, vI y1, vI y2, vI y3, vI y4, vU, vI y6, vI (y7 + 1)]) dX7_bestUpper_76 rfl rfl (by decide) rfl ?_
    refine mE.goto (tgt := 64) dX7_bestUpper_79 (by decide) ?_
    exact w
theorem w7_bestTurn {a1 : Int32} {h : mH} {Q : mV → mH → Prop} (w : mC M7_in [.inl a1, .inl 1, .inl 100] h (kI (fun x707 h706 => (¬ x707 = 0 → mC M7_keep [.inr (.inr (some (20, 0, 0)))] h706 (kV (fun h708 => mE M7_bestTurn 25 [vR 20 0 0, vI a1, vI (-6), vI 0, vI 1, vU, vU] [] h708 Q))) ∧ (x707 = 0 → Q (vI (-2)) h706)))) : mC M7_bestTurn [.inr (.inr (some (20, 0, 0))), .inl a1] h Q := by
  show mE M7_bestTurn 0 [vR 20 0 0, vI a1, vU, vU, vU, vU, vU] [] h Q
  refine mE.iload_n dX7_bestTurn_0 rfl ?_
  refine mE.iconst (v := 1) dX7_bestTurn_1 (by decide) ?_
  refine mE.bipush (v := 100) dX7_bestTurn_2 (by decide) ?_
  refine mE.callS (as := [.inl a1, .inl 1, .inl 100]) (st := []) dX7_bestTurn_4 cf7_bestTurn_54 rfl rfl (Nat.le_of_ble_eq_true rfl) (fun _ => Nat.le_of_ble_eq_true rfl) w (kI_on (fun x707 h706 w => ?_))
  refine mE.if_ne (tgt := 13) dX7_bestTurn_7 (by decide) (fun c => ?_) (fun c => ?_)
  · have w := w.1 c
    refine mE.bipush (v := -6) dX7_bestTurn_13 (by decide) ?_
    refine mE.istore_n (l2 := [vR 20 0 0, vI a1, vI (-6), vU, vU, vU, vU]) dX7_bestTurn_15 (by decide) rfl ?_
    refine mE.iconst (v := 0) dX7_bestTurn_16 (by decide) ?_
    refine mE.istore_n (l2 := [vR 20 0 0, vI a1, vI (-6), vI 0, vU, vU, vU]) dX7_bestTurn_17 (by decide) rfl ?_
    refine mE.aload_n dX7_bestTurn_18 rfl ?_
    refine mE.callV (as := []) (k := 20) (r := 0) (i := 0) (st := []) dX7_bestTurn_19 cf7_bestTurn_142 rfl rfl (Nat.le_of_ble_eq_true rfl) (fun _ => Nat.le_of_ble_eq_true rfl) w (kV_on (fun h708 w => ?_))
    refine mE.iconst (v := 1) dX7_bestTurn_22 (by decide) ?_
    refine mE.istore (l2 := [vR 20 0 0, vI a1, vI (-6), vI 0, vI 1, vU, vU]) dX7_bestTurn_23 (by decide) rfl ?_
    exact w
  · have w := w.2 c
    refine mE.bipush (v := -2) dX7_bestTurn_10 (by decide) ?_
    exact mE.iret dX7_bestTurn_12 rfl rfl w
theorem w7_bestTurn_25 {y1 : Int32} {y2 : Int32} {y3 : Int32} {y4 : Int32} {h : mH} {Q : mV → mH → Prop} (w : (6 ≤ y4 → Q (vI y2) h) ∧ (¬ 6 ≤ y4 → vp_in 1 470 ∧ (mE M7_bestTurn 43 [vR 20 0 0, vI y1, vI y2, vI y3, vI y4, vI 0, vU] [] (pI h 21 0 0 ((1 : Int32).toNatClampNeg) y4) Q))) : mE M7_bestTurn 25 [vR 20 0 0, vI y1, vI y2, vI y3, vI y4, vU, vU] [] h Q := by
  refine mE.iload dX7_bestTurn_25 rfl ?_
  refine mE.bipush (v := 6) dX7_bestTurn_27 (by decide) ?_
  refine mE.icmp_ge (tgt := 124) dX7_bestTurn_29 (by decide) (fun c => ?_) (fun c => ?_)
  · have w := w.1 c
    refine mE.iload_n dX7_bestTurn_124 rfl ?_
    exact mE.iret dX7_bestTurn_125 rfl rfl w
  · have w := w.2 c
    refine mE.aload_n dX7_bestTurn_32 rfl ?_
    refine mE.getf (w := .inr (.inr (some (21, 0, 0)))) dX7_bestTurn_33 f7_7 rfl ?_
    refine mE.iconst (v := 1) dX7_bestTurn_36 (by decide) ?_
    refine mE.iload dX7_bestTurn_37 rfl ?_
    refine mE.iast dX7_bestTurn_39 rfl rfl (fun _ _ _ _ => rfl) w.1 ?_
    have w := w.2
    refine mE.iconst (v := 0) dX7_bestTurn_40 (by decide) ?_
    refine mE.istore (l2 := [vR 20 0 0, vI y1, vI y2, vI y3, vI y4, vI 0, vU]) dX7_bestTurn_41 (by decide) rfl ?_
    exact w
theorem w7_bestTurn_43 {y1 : Int32} {y2 : Int32} {y3 : Int32} {y4 : Int32} {y5 : Int32} {h : mH} {Q : mV → mH → Prop} (w : (y1 ≤ y5 → mE M7_bestTurn 67 [vR 20 0 0, vI y1, vI y2, vI y3, vI y4, vI 0, vI 0] [] h Q) ∧ (¬ y1 ≤ y5 → mC M7_pass [.inr (.inr (some (20, 0, 0))), .inl (-6)] h (kV (fun h709 => mE M7_bestTurn 43 [vR 20 0 0, vI y1, vI y2, vI y3, vI y4, vI (y5 + 1), vU] [] h709 Q)))) : mE M7_bestTurn 43 [vR 20 0 0, vI y1, vI y2, vI y3, vI y4, vI y5, vU] [] h Q := by
  refine mE.iload dX7_bestTurn_43 rfl ?_
  refine mE.iload_n dX7_bestTurn_45 rfl ?_
  refine mE.icmp_ge (tgt := 61) dX7_bestTurn_46 (by decide) (fun c => ?_) (fun c => ?_)
  · have w := w.1 c
    refine mE.iconst (v := 0) dX7_bestTurn_61 (by decide) ?_
    refine mE.istore (l2 := [vR 20 0 0, vI y1, vI y2, vI y3, vI y4, vI 0, vU]) dX7_bestTurn_62 (by decide) rfl ?_
    refine mE.iconst (v := 0) dX7_bestTurn_64 (by decide) ?_
    refine mE.istore (l2 := [vR 20 0 0, vI y1, vI y2, vI y3, vI y4, vI 0, vI 0]) dX7_bestTurn_65 (by decide) rfl ?_
    exact w
  · have w := w.2 c
    refine mE.aload_n dX7_bestTurn_49 rfl ?_
    refine mE.bipush (v := -6) dX7_bestTurn_50 (by decide) ?_
    refine mE.callV (as := [.inl (-6)]) (k := 20) (r := 0) (i := 0) (st := []) dX7_bestTurn_52 cf7_bestTurn_127 rfl rfl (Nat.le_of_ble_eq_true rfl) (fun _ => Nat.le_of_ble_eq_true rfl) w (kV_on (fun h709 w => ?_))
    refine mE.iinc (v := y5 + 1) (l2 := [vR 20 0 0, vI y1, vI y2, vI y3, vI y4, vI (y5 + 1), vU]) dX7_bestTurn_55 rfl rfl (by decide) rfl ?_
    refine mE.goto (tgt := 43) dX7_bestTurn_58 (by decide) ?_
    exact w
theorem w7_bestTurn_67 {y1 : Int32} {y2 : Int32} {y3 : Int32} {y4 : Int32} {y5 : Int32} {y6 : Int32} {h : mH} {Q : mV → mH → Prop} (w : vp_in 3 470 ∧ (((h.1 21 0 0 ((3 : Int32).toNatClampNeg)) ≤ y6 → mC M7_comeBack [.inr (.inr (some (20, 0, 0)))] h (kV (fun h710 => (y2 < 0 → mE M7_bestTurn 25 [vR 20 0 0, vI y1, vI y4, vI y5, vI (y4 + 1), vU, vU] [] h710 Q) ∧ (¬ y2 < 0 → (y3 ≤ y5 → mE M7_bestTurn 25 [vR 20 0 0, vI y1, vI y2, vI y3, vI (y4 + 1), vU, vU] [] h710 Q) ∧ (¬ y3 ≤ y5 → mE M7_bestTurn 25 [vR 20 0 0, vI y1, vI y4, vI y5, vI (y4 + 1), vU, vU] [] h710 Q))))) ∧ (¬ (h.1 21 0 0 ((3 : Int32).toNatClampNeg)) ≤ y6 → mC M7_errorOf [.inr (.inr (some (20, 0, 0))), .inl y6] h (kI (fun x712 h711 => mC M7_amount [.inl x712] h711 (kI (fun x714 h713 => mE M7_bestTurn 67 [vR 20 0 0, vI y1, vI y2, vI y3, vI y4, vI (y5 + x714), vI (y6 + 1)] [] h713 Q))))))) : mE M7_bestTurn 67 [vR 20 0 0, vI y1, vI y2, vI y3, vI y4, vI y5, vI y6] [] h Q := by
  refine mE.iload dX7_bestTurn_67 rfl ?_
  refine mE.aload_n dX7_bestTurn_69 rfl ?_
  refine mE.getf (w := .inr (.inr (some (21, 0, 0)))) dX7_bestTurn_70 f7_7 rfl ?_
  refine mE.iconst (v := 3) dX7_bestTurn_73 (by decide) ?_
  refine mE.iald (x := h.1 21 0 0 ((3 : Int32).toNatClampNeg)) dX7_bestTurn_74 rfl rfl w.1 rfl ?_
  have w := w.2
  refine mE.icmp_ge (tgt := 98) dX7_bestTurn_75 (by decide) (fun c => ?_) (fun c => ?_)
  · have w := w.1 c
    refine mE.aload_n dX7_bestTurn_98 rfl ?_
    refine mE.callV (as := []) (k := 20) (r := 0) (i := 0) (st := []) dX7_bestTurn_99 cf7_bestTurn_145 rfl rfl (Nat.le_of_ble_eq_true rfl) (fun _ => Nat.le_of_ble_eq_true rfl) w (kV_on (fun h710 w => ?_))
    refine mE.iload_n dX7_bestTurn_102 rfl ?_
    refine mE.if_lt (tgt := 112) dX7_bestTurn_103 (by decide) (fun c => ?_) (fun c => ?_)
    · have w := w.1 c
      refine mE.iload dX7_bestTurn_112 rfl ?_
      refine mE.istore_n (l2 := [vR 20 0 0, vI y1, vI y4, vI y3, vI y4, vI y5, vI y6]) dX7_bestTurn_114 (by decide) rfl ?_
      refine mE.iload dX7_bestTurn_115 rfl ?_
      refine mE.istore_n (l2 := [vR 20 0 0, vI y1, vI y4, vI y5, vI y4, vI y5, vI y6]) dX7_bestTurn_117 (by decide) rfl ?_
      refine mE.iinc (v := y4 + 1) (l2 := [vR 20 0 0, vI y1, vI y4, vI y5, vI (y4 + 1), vI y5, vI y6]) dX7_bestTurn_118 rfl rfl (by decide) rfl ?_
      refine mE.goto (tgt := 25) dX7_bestTurn_121 (by decide) ?_
      exact mE.less (by exact ⟨Or.inr rfl, ⟨Or.inr rfl, ⟨Or.inr rfl, ⟨Or.inr rfl, ⟨Or.inr rfl, ⟨Or.inl rfl, ⟨Or.inl rfl, trivial⟩⟩⟩⟩⟩⟩⟩) w
    · have w := w.2 c
      refine mE.iload dX7_bestTurn_106 rfl ?_
      refine mE.iload_n dX7_bestTurn_108 rfl ?_
      refine mE.icmp_ge (tgt := 118) dX7_bestTurn_109 (by decide) (fun c => ?_) (fun c => ?_)
      · have w := w.1 c
        refine mE.iinc (v := y4 + 1) (l2 := [vR 20 0 0, vI y1, vI y2, vI y3, vI (y4 + 1), vI y5, vI y6]) dX7_bestTurn_118 rfl rfl (by decide) rfl ?_
        refine mE.goto (tgt := 25) dX7_bestTurn_121 (by decide) ?_
        exact mE.less (by exact ⟨Or.inr rfl, ⟨Or.inr rfl, ⟨Or.inr rfl, ⟨Or.inr rfl, ⟨Or.inr rfl, ⟨Or.inl rfl, ⟨Or.inl rfl, trivial⟩⟩⟩⟩⟩⟩⟩) w
      · have w := w.2 c
        refine mE.iload dX7_bestTurn_112 rfl ?_
        refine mE.istore_n (l2 := [vR 20 0 0, vI y1, vI y4, vI y3, vI y4, vI y5, vI y6]) dX7_bestTurn_114 (by decide) rfl ?_
        refine mE.iload dX7_bestTurn_115 rfl ?_
        refine mE.istore_n (l2 := [vR 20 0 0, vI y1, vI y4, vI y5, vI y4, vI y5, vI y6]) dX7_bestTurn_117 (by decide) rfl ?_
        refine mE.iinc (v := y4 + 1) (l2 := [vR 20 0 0, vI y1, vI y4, vI y5, vI (y4 + 1), vI y5, vI y6]) dX7_bestTurn_118 rfl rfl (by decide) rfl ?_
        refine mE.goto (tgt := 25) dX7_bestTurn_121 (by decide) ?_
        exact mE.less (by exact ⟨Or.inr rfl, ⟨Or.inr rfl, ⟨Or.inr rfl, ⟨Or.inr rfl, ⟨Or.inr rfl, ⟨Or.inl rfl, ⟨Or.inl rfl, trivial⟩⟩⟩⟩⟩⟩⟩) w
  · have w := w.2 c
    refine mE.iload dX7_bestTurn_78 rfl ?_
    refine mE.aload_n dX7_bestTurn_80 rfl ?_
    refine mE.iload dX7_bestTurn_81 rfl ?_
    refine mE.callV (as := [.inl y6]) (k := 20) (r := 0) (i := 0) (st := [vI y5]) dX7_bestTurn_83 cf7_bestTurn_130 rfl rfl (Nat.le_of_ble_eq_true rfl) (fun _ => Nat.le_of_ble_eq_true rfl) w (kI_on (fun x712 h711 w => ?_))
    refine mE.callS (as := [.inl x712]) (st := [vI y5]) dX7_bestTurn_86 cf7_bestTurn_152 rfl rfl (Nat.le_of_ble_eq_true rfl) (fun _ => Nat.le_of_ble_eq_true rfl) w (kI_on (fun x714 h713 w => ?_))
    refine mE.iadd dX7_bestTurn_89 ?_
    refine mE.istore (l2 := [vR 20 0 0, vI y1, vI y2, vI y3, vI y4, vI (y5 + x714), vI y6]) dX7_bestTurn_90 (by decide) rfl ?_
    refine mE.iinc (v := y6 + 1) (l2 := [vR 20 0 0, vI y1, vI y2, vI y3, vI y4, vI (y5 + x714), vI (y6 + 1)]) dX7_bestTurn_92 rfl rfl (by decide) rfl ?_
    refine mE.goto (tgt := 67) dX7_bestTurn_95 (by decide) ?_
    exact w
theorem w7_goneIn {a1 : Int32} {h : mH} {Q : mV → mH → Prop} (w : mC M7_isCar [.inr (.inr (some (20, 0, 0))), .inl a1] h (kI (fun x716 h715 => (¬ x716 = 0 → mC M7_keep [.inr (.inr (some (20, 0, 0)))] h715 (kV (fun h717 => mE M7_goneIn 16 [vR 20 0 0, vI a1, vI 0, vU] [] h717 Q))) ∧ (x716 = 0 → Q (vI (-1)) h715)))) : mC M7_goneIn [.inr (.inr (some (20, 0, 0))), .inl a1] h Q := by
  show mE M7_goneIn 0 [vR 20 0 0, vI a1, vU, vU] [] h Q
  refine mE.aload_n dX7_goneIn_0 rfl ?_
  refine mE.iload_n dX7_goneIn_1 rfl ?_
  refine mE.callV (as := [.inl a1]) (k := 20) (r := 0) (i := 0) (st := []) dX7_goneIn_2 cf7_goneIn_124 rfl rfl (Nat.le_of_ble_eq_true rfl) (fun _ => Nat.le_of_ble_eq_true rfl) w (kI_on (fun x716 h715 w => ?_))
  refine mE.if_ne (tgt := 10) dX7_goneIn_5 (by decide) (fun c => ?_) (fun c => ?_)
  · have w := w.1 c
    refine mE.aload_n dX7_goneIn_10 rfl ?_
    refine mE.callV (as := []) (k := 20) (r := 0) (i := 0) (st := []) dX7_goneIn_11 cf7_goneIn_142 rfl rfl (Nat.le_of_ble_eq_true rfl) (fun _ => Nat.le_of_ble_eq_true rfl) w (kV_on (fun h717 w => ?_))
    refine mE.iconst (v := 0) dX7_goneIn_14 (by decide) ?_
    refine mE.istore_n (l2 := [vR 20 0 0, vI a1, vI 0, vU]) dX7_goneIn_15 (by decide) rfl ?_
    exact w
  · have w := w.2 c
    refine mE.iconst (v := -1) dX7_goneIn_8 (by decide) ?_
    exact mE.iret dX7_goneIn_9 rfl rfl w
theorem w7_goneIn_16 {y1 : Int32} {y2 : Int32} {h : mH} {Q : mV → mH → Prop} (w : (200 ≤ y2 → mC M7_isOn [.inr (.inr (some (20, 0, 0))), .inl y1] h (kI (fun x719 h718 => (x719 = 0 → mC M7_comeBack [.inr (.inr (some (20, 0, 0)))] h718 (kV (fun h720 => Q (vI y2) h720))) ∧ (¬ x719 = 0 → mC M7_comeBack [.inr (.inr (some (20, 0, 0)))] h718 (kV (fun h721 => Q (vI (-6)) h721)))))) ∧ (¬ 200 ≤ y2 → mC M7_isOn [.inr (.inr (some (20, 0, 0))), .inl y1] h (kI (fun x723 h722 => (x723 = 0 → mC M7_isOn [.inr (.inr (some (20, 0, 0))), .inl y1] h722 (kI (fun x725 h724 => (x725 = 0 → mC M7_comeBack [.inr (.inr (some (20, 0, 0)))] h724 (kV (fun h726 => Q (vI y2) h726))) ∧ (¬ x725 = 0 → mC M7_comeBack [.inr (.inr (some (20, 0, 0)))] h724 (kV (fun h727 => Q (vI (-6)) h727)))))) ∧ (¬ x723 = 0 → mC M7_pass [.inr (.inr (some (20, 0, 0))), .inl (-6)] h722 (kV (fun h728 => mE M7_goneIn 16 [vR 20 0 0, vI y1, vI (y2 + 1), vU] [] h728 Q))))))) : mE M7_goneIn 16 [vR 20 0 0, vI y1, vI y2, vU] [] h Q := by
  refine mE.iload_n dX7_goneIn_16 rfl ?_
  refine mE.sipush (v := 200) dX7_goneIn_17 (by decide) ?_
  refine mE.icmp_ge (tgt := 43) dX7_goneIn_20 (by decide) (fun c => ?_) (fun c => ?_)
  · have w := w.1 c
    refine mE.aload_n dX7_goneIn_43 rfl ?_
    refine mE.iload_n dX7_goneIn_44 rfl ?_
    refine mE.callV (as := [.inl y1]) (k := 20) (r := 0) (i := 0) (st := []) dX7_goneIn_45 cf7_goneIn_58 rfl rfl (Nat.le_of_ble_eq_true rfl) (fun _ => Nat.le_of_ble_eq_true rfl) w (kI_on (fun x719 h718 w => ?_))
    refine mE.if_eq (tgt := 56) dX7_goneIn_48 (by decide) (fun c => ?_) (fun c => ?_)
    · have w := w.1 c
      refine mE.iload_n dX7_goneIn_56 rfl ?_
      refine mE.istore_n (l2 := [vR 20 0 0, vI y1, vI y2, vI y2]) dX7_goneIn_57 (by decide) rfl ?_
      refine mE.aload_n dX7_goneIn_58 rfl ?_
      refine mE.callV (as := []) (k := 20) (r := 0) (i := 0) (st := []) dX7_goneIn_59 cf7_goneIn_145 rfl rfl (Nat.le_of_ble_eq_true rfl) (fun _ => Nat.le_of_ble_eq_true rfl) w (kV_on (fun h720 w => ?_))
      refine mE.iload_n dX7_goneIn_62 rfl ?_
      exact mE.iret dX7_goneIn_63 rfl rfl w
    · have w := w.2 c
      refine mE.bipush (v := -6) dX7_goneIn_51 (by decide) ?_
      refine mE.goto (tgt := 57) dX7_goneIn_53 (by decide) ?_
      refine mE.istore_n (l2 := [vR 20 0 0, vI y1, vI y2, vI (-6)]) dX7_goneIn_57 (by decide) rfl ?_
      refine mE.aload_n dX7_goneIn_58 rfl ?_
      refine mE.callV (as := []) (k := 20) (r := 0) (i := 0) (st := []) dX7_goneIn_59 cf7_goneIn_145 rfl rfl (Nat.le_of_ble_eq_true rfl) (fun _ => Nat.le_of_ble_eq_true rfl) w (kV_on (fun h721 w => ?_))
      refine mE.iload_n dX7_goneIn_62 rfl ?_
      exact mE.iret dX7_goneIn_63 rfl rfl w
  · have w := w.2 c
    refine mE.aload_n dX7_goneIn_23 rfl ?_
    refine mE.iload_n dX7_goneIn_24 rfl ?_
    refine mE.callV (as := [.inl y1]) (k := 20) (r := 0) (i := 0) (st := []) dX7_goneIn_25 cf7_goneIn_58 rfl rfl (Nat.le_of_ble_eq_true rfl) (fun _ => Nat.le_of_ble_eq_true rfl) w (kI_on (fun x723 h722 w => ?_))
    refine mE.if_eq (tgt := 43) dX7_goneIn_28 (by decide) (fun c => ?_) (fun c => ?_)
    · have w := w.1 c
      refine mE.aload_n dX7_goneIn_43 rfl ?_
      refine mE.iload_n dX7_goneIn_44 rfl ?_
      refine mE.callV (as := [.inl y1]) (k := 20) (r := 0) (i := 0) (st := []) dX7_goneIn_45 cf7_goneIn_58 rfl rfl (Nat.le_of_ble_eq_true rfl) (fun _ => Nat.le_of_ble_eq_true rfl) w (kI_on (fun x725 h724 w => ?_))
      refine mE.if_eq (tgt := 56) dX7_goneIn_48 (by decide) (fun c => ?_) (fun c => ?_)
      · have w := w.1 c
        refine mE.iload_n dX7_goneIn_56 rfl ?_
        refine mE.istore_n (l2 := [vR 20 0 0, vI y1, vI y2, vI y2]) dX7_goneIn_57 (by decide) rfl ?_
        refine mE.aload_n dX7_goneIn_58 rfl ?_
        refine mE.callV (as := []) (k := 20) (r := 0) (i := 0) (st := []) dX7_goneIn_59 cf7_goneIn_145 rfl rfl (Nat.le_of_ble_eq_true rfl) (fun _ => Nat.le_of_ble_eq_true rfl) w (kV_on (fun h726 w => ?_))
        refine mE.iload_n dX7_goneIn_62 rfl ?_
        exact mE.iret dX7_goneIn_63 rfl rfl w
      · have w := w.2 c
        refine mE.bipush (v := -6) dX7_goneIn_51 (by decide) ?_
        refine mE.goto (tgt := 57) dX7_goneIn_53 (by decide) ?_
        refine mE.istore_n (l2 := [vR 20 0 0, vI y1, vI y2, vI (-6)]) dX7_goneIn_57 (by decide) rfl ?_
        refine mE.aload_n dX7_goneIn_58 rfl ?_
        refine mE.callV (as := []) (k := 20) (r := 0) (i := 0) (st := []) dX7_goneIn_59 cf7_goneIn_145 rfl rfl (Nat.le_of_ble_eq_true rfl) (fun _ => Nat.le_of_ble_eq_true rfl) w (kV_on (fun h727 w => ?_))
        refine mE.iload_n dX7_goneIn_62 rfl ?_
        exact mE.iret dX7_goneIn_63 rfl rfl w
    · have w := w.2 c
      refine mE.aload_n dX7_goneIn_31 rfl ?_
      refine mE.bipush (v := -6) dX7_goneIn_32 (by decide) ?_
      refine mE.callV (as := [.inl (-6)]) (k := 20) (r := 0) (i := 0) (st := []) dX7_goneIn_34 cf7_goneIn_127 rfl rfl (Nat.le_of_ble_eq_true rfl) (fun _ => Nat.le_of_ble_eq_true rfl) w (kV_on (fun h728 w => ?_))
      refine mE.iinc (v := y2 + 1) (l2 := [vR 20 0 0, vI y1, vI (y2 + 1), vU]) dX7_goneIn_37 rfl rfl (by decide) rfl ?_
      refine mE.goto (tgt := 16) dX7_goneIn_40 (by decide) ?_
      exact w
theorem w7_sign  {h : mH} {Q : mV → mH → Prop} (w : ((h.1 20 0 0 7) ≤ (h.1 20 0 0 13) → Q (vI 0) h) ∧ (¬ (h.1 20 0 0 7) ≤ (h.1 20 0 0 13) → vp_in (h.1 20 0 0 13) 60 ∧ (Q (vI (h.1 26 0 0 ((h.1 20 0 0 13).toNatClampNeg))) h))) : mC M7_sign [.inr (.inr (some (20, 0, 0)))] h Q := by
  show mE M7_sign 0 [vR 20 0 0] [] h Q
  refine mE.aload_n dX7_sign_0 rfl ?_
  refine mE.getf (w := .inl (h.1 20 0 0 13)) dX7_sign_1 f7_155 rfl ?_
  refine mE.aload_n dX7_sign_4 rfl ?_
  refine mE.getf (w := .inl (h.1 20 0 0 7)) dX7_sign_5 f7_139 rfl ?_
  refine mE.icmp_ge (tgt := 23) dX7_sign_8 (by decide) (fun c => ?_) (fun c => ?_)
  · have w := w.1 c
    refine mE.iconst (v := 0) dX7_sign_23 (by decide) ?_
    exact mE.iret dX7_sign_24 rfl rfl w
  · have w := w.2 c
    refine mE.aload_n dX7_sign_11 rfl ?_
    refine mE.getf (w := .inr (.inr (some (26, 0, 0)))) dX7_sign_12 f7_26 rfl ?_
    refine mE.aload_n dX7_sign_15 rfl ?_
    refine mE.getf (w := .inl (h.1 20 0 0 13)) dX7_sign_16 f7_155 rfl ?_
    refine mE.iald (x := h.1 26 0 0 ((h.1 20 0 0 13).toNatClampNeg)) dX7_sign_19 rfl rfl w.1 rfl ?_
    have w := w.2
    refine mE.goto (tgt := 24) dX7_sign_20 (by decide) ?_
    exact mE.iret dX7_sign_24 rfl rfl w
theorem w7_one {a1 : Int32} {a2 : Int32} {h : mH} {Q : mV → mH → Prop} (w : mC M7_sign [.inr (.inr (some (20, 0, 0)))] h (kI (fun x730 h729 => (¬ (h729.1 20 0 0 14) = 0 → Q (vI (x730 - 48)) (pI (pI h729 20 0 0 14 1) 20 0 0 13 ((h729.1 20 0 0 13) + 0))) ∧ ((h729.1 20 0 0 14) = 0 → mC M7_in [.inl (x730 - 48), .inl a1, .inl a2] h729 (kI (fun x732 h731 => (¬ x732 = 0 → Q (vI (x730 - 48)) (pI (pI h731 20 0 0 14 0) 20 0 0 13 ((h731.1 20 0 0 13) + 1))) ∧ (x732 = 0 → Q (vI (x730 - 48)) (pI (pI h731 20 0 0 14 1) 20 0 0 13 ((h731.1 20 0 0 13) + 0))))))))) : mC M7_one [.inr (.inr (some (20, 0, 0))), .inl a1, .inl a2] h Q := by
  show mE M7_one 0 [vR 20 0 0, vI a1, vI a2, vU] [] h Q
  refine mE.aload_n dX7_one_0 rfl ?_
  refine mE.callV (as := []) (k := 20) (r := 0) (i := 0) (st := []) dX7_one_1 cf7_one_158 rfl rfl (Nat.le_of_ble_eq_true rfl) (fun _ => Nat.le_of_ble_eq_true rfl) w (kI_on (fun x730 h729 w => ?_))
  refine mE.bipush (v := 48) dX7_one_4 (by decide) ?_
  refine mE.isub dX7_one_6 ?_
  refine mE.istore_n (l2 := [vR 20 0 0, vI a1, vI a2, vI (x730 - 48)]) dX7_one_7 (by decide) rfl ?_
  refine mE.aload_n dX7_one_8 rfl ?_
  refine mE.aload_n dX7_one_9 rfl ?_
  refine mE.getf (w := .inl (h729.1 20 0 0 14)) dX7_one_10 f7_161 rfl ?_
  refine mE.if_ne (tgt := 25) dX7_one_13 (by decide) (fun c => ?_) (fun c => ?_)
  · have w := w.1 c
    refine mE.iconst (v := 1) dX7_one_25 (by decide) ?_
    refine mE.goto (tgt := 30) dX7_one_26 (by decide) ?_
    refine mE.putf dX7_one_30 p7_161 (fun _ _ _ => rfl) rfl rfl ?_
    refine mE.aload_n dX7_one_33 rfl ?_
    refine mE.dupR dX7_one_34 ?_
    refine mE.getf (w := .inl (h729.1 20 0 0 13)) dX7_one_35 f7_155 rfl ?_
    refine mE.aload_n dX7_one_38 rfl ?_
    refine mE.getf (w := .inl 1) dX7_one_39 f7_161 (svc (pI_at (h := h729) (k := 20) (r := 0) (i := 0) (s := 14) (x := 1))) ?_
    refine mE.if_eq (tgt := 49) dX7_one_42 (by decide) (fun c => absurd c (by decide)) (fun c => ?_)
    refine mE.iconst (v := 0) dX7_one_45 (by decide) ?_
    refine mE.goto (tgt := 50) dX7_one_46 (by decide) ?_
    refine mE.iadd dX7_one_50 ?_
    refine mE.putf dX7_one_51 p7_155 (fun _ _ _ => rfl) rfl rfl ?_
    refine mE.iload_n dX7_one_54 rfl ?_
    exact mE.iret dX7_one_55 rfl rfl w
  · have w := w.2 c
    refine mE.iload_n dX7_one_16 rfl ?_
    refine mE.iload_n dX7_one_17 rfl ?_
    refine mE.iload_n dX7_one_18 rfl ?_
    refine mE.callS (as := [.inl (x730 - 48), .inl a1, .inl a2]) (st := [vR 20 0 0]) dX7_one_19 cf7_one_54 rfl rfl (Nat.le_of_ble_eq_true rfl) (fun _ => Nat.le_of_ble_eq_true rfl) w (kI_on (fun x732 h731 w => ?_))
    refine mE.if_ne (tgt := 29) dX7_one_22 (by decide) (fun c => ?_) (fun c => ?_)
    · have w := w.1 c
      refine mE.iconst (v := 0) dX7_one_29 (by decide) ?_
      refine mE.putf dX7_one_30 p7_161 (fun _ _ _ => rfl) rfl rfl ?_
      refine mE.aload_n dX7_one_33 rfl ?_
      refine mE.dupR dX7_one_34 ?_
      refine mE.getf (w := .inl (h731.1 20 0 0 13)) dX7_one_35 f7_155 rfl ?_
      refine mE.aload_n dX7_one_38 rfl ?_
      refine mE.getf (w := .inl 0) dX7_one_39 f7_161 (svc (pI_at (h := h731) (k := 20) (r := 0) (i := 0) (s := 14) (x := 0))) ?_
      refine mE.if_eq (tgt := 49) dX7_one_42 (by decide) (fun c => ?_) (fun c => absurd c (by decide))
      refine mE.iconst (v := 1) dX7_one_49 (by decide) ?_
      refine mE.iadd dX7_one_50 ?_
      refine mE.putf dX7_one_51 p7_155 (fun _ _ _ => rfl) rfl rfl ?_
      refine mE.iload_n dX7_one_54 rfl ?_
      exact mE.iret dX7_one_55 rfl rfl w
    · have w := w.2 c
      refine mE.iconst (v := 1) dX7_one_25 (by decide) ?_
      refine mE.goto (tgt := 30) dX7_one_26 (by decide) ?_
      refine mE.putf dX7_one_30 p7_161 (fun _ _ _ => rfl) rfl rfl ?_
      refine mE.aload_n dX7_one_33 rfl ?_
      refine mE.dupR dX7_one_34 ?_
      refine mE.getf (w := .inl (h731.1 20 0 0 13)) dX7_one_35 f7_155 rfl ?_
      refine mE.aload_n dX7_one_38 rfl ?_
      refine mE.getf (w := .inl 1) dX7_one_39 f7_161 (svc (pI_at (h := h731) (k := 20) (r := 0) (i := 0) (s := 14) (x := 1))) ?_
      refine mE.if_eq (tgt := 49) dX7_one_42 (by decide) (fun c => absurd c (by decide)) (fun c => ?_)
      refine mE.iconst (v := 0) dX7_one_45 (by decide) ?_
      refine mE.goto (tgt := 50) dX7_one_46 (by decide) ?_
      refine mE.iadd dX7_one_50 ?_
      refine mE.putf dX7_one_51 p7_155 (fun _ _ _ => rfl) rfl rfl ?_
      refine mE.iload_n dX7_one_54 rfl ?_
      exact mE.iret dX7_one_55 rfl rfl w
theorem w7_number  {h : mH} {Q : mV → mH → Prop} (w : mC M7_one [.inr (.inr (some (20, 0, 0))), .inl 0, .inl 9] h (kI (fun x734 h733 => mE M7_number 8 [vR 20 0 0, vI x734] [] h733 Q))) : mC M7_number [.inr (.inr (some (20, 0, 0)))] h Q := by
  show mE M7_number 0 [vR 20 0 0, vU] [] h Q
  refine mE.aload_n dX7_number_0 rfl ?_
  refine mE.iconst (v := 0) dX7_number_1 (by decide) ?_
  refine mE.bipush (v := 9) dX7_number_2 (by decide) ?_
  refine mE.callV (as := [.inl 0, .inl 9]) (k := 20) (r := 0) (i := 0) (st := []) dX7_number_4 cf7_number_164 rfl rfl (Nat.le_of_ble_eq_true rfl) (fun _ => Nat.le_of_ble_eq_true rfl) w (kI_on (fun x734 h733 w => ?_))
  refine mE.istore_n (l2 := [vR 20 0 0, vI x734]) dX7_number_7 (by decide) rfl ?_
  exact w
theorem w7_number_8 {y1 : Int32} {h : mH} {Q : mV → mH → Prop} (w : (¬ (h.1 20 0 0 14) = 0 → Q (vI y1) h) ∧ ((h.1 20 0 0 14) = 0 → (y1 ≤ 0 → Q (vI y1) h) ∧ (¬ y1 ≤ 0 → mC M7_sign [.inr (.inr (some (20, 0, 0)))] h (kI (fun x736 h735 => mC M7_in [.inl x736, .inl 48, .inl 57] h735 (kI (fun x738 h737 => (x738 = 0 → Q (vI y1) h737) ∧ (¬ x738 = 0 → mC M7_sign [.inr (.inr (some (20, 0, 0)))] h737 (kI (fun x740 h739 => (99 < (((10 * y1) + x740) - 48) → Q (vI y1) h739) ∧ (¬ 99 < (((10 * y1) + x740) - 48) → mC M7_sign [.inr (.inr (some (20, 0, 0)))] h739 (kI (fun x742 h741 => mE M7_number 8 [vR 20 0 0, vI (((10 * y1) + x742) - 48)] [] (pI h741 20 0 0 13 ((h741.1 20 0 0 13) + 1)) Q))))))))))))) : mE M7_number 8 [vR 20 0 0, vI y1] [] h Q := by
  refine mE.aload_n dX7_number_8 rfl ?_
  refine mE.getf (w := .inl (h.1 20 0 0 14)) dX7_number_9 f7_161 rfl ?_
  refine mE.if_ne (tgt := 76) dX7_number_12 (by decide) (fun c => ?_) (fun c => ?_)
  · have w := w.1 c
    refine mE.iload_n dX7_number_76 rfl ?_
    exact mE.iret dX7_number_77 rfl rfl w
  · have w := w.2 c
    refine mE.iload_n dX7_number_15 rfl ?_
    refine mE.if_le (tgt := 76) dX7_number_16 (by decide) (fun c => ?_) (fun c => ?_)
    · have w := w.1 c
      refine mE.iload_n dX7_number_76 rfl ?_
      exact mE.iret dX7_number_77 rfl rfl w
    · have w := w.2 c
      refine mE.aload_n dX7_number_19 rfl ?_
      refine mE.callV (as := []) (k := 20) (r := 0) (i := 0) (st := []) dX7_number_20 cf7_number_158 rfl rfl (Nat.le_of_ble_eq_true rfl) (fun _ => Nat.le_of_ble_eq_true rfl) w (kI_on (fun x736 h735 w => ?_))
      refine mE.bipush (v := 48) dX7_number_23 (by decide) ?_
      refine mE.bipush (v := 57) dX7_number_25 (by decide) ?_
      refine mE.callS (as := [.inl x736, .inl 48, .inl 57]) (st := []) dX7_number_27 cf7_number_54 rfl rfl (Nat.le_of_ble_eq_true rfl) (fun _ => Nat.le_of_ble_eq_true rfl) w (kI_on (fun x738 h737 w => ?_))
      refine mE.if_eq (tgt := 76) dX7_number_30 (by decide) (fun c => ?_) (fun c => ?_)
      · have w := w.1 c
        refine mE.iload_n dX7_number_76 rfl ?_
        exact mE.iret dX7_number_77 rfl rfl w
      · have w := w.2 c
        refine mE.bipush (v := 10) dX7_number_33 (by decide) ?_
        refine mE.iload_n dX7_number_35 rfl ?_
        refine mE.imul dX7_number_36 ?_
        refine mE.aload_n dX7_number_37 rfl ?_
        refine mE.callV (as := []) (k := 20) (r := 0) (i := 0) (st := [vI (10 * y1)]) dX7_number_38 cf7_number_158 rfl rfl (Nat.le_of_ble_eq_true rfl) (fun _ => Nat.le_of_ble_eq_true rfl) w (kI_on (fun x740 h739 w => ?_))
        refine mE.iadd dX7_number_41 ?_
        refine mE.bipush (v := 48) dX7_number_42 (by decide) ?_
        refine mE.isub dX7_number_44 ?_
        refine mE.bipush (v := 99) dX7_number_45 (by decide) ?_
        refine mE.icmp_gt (tgt := 76) dX7_number_47 (by decide) (fun c => ?_) (fun c => ?_)
        · have w := w.1 c
          refine mE.iload_n dX7_number_76 rfl ?_
          exact mE.iret dX7_number_77 rfl rfl w
        · have w := w.2 c
          refine mE.bipush (v := 10) dX7_number_50 (by decide) ?_
          refine mE.iload_n dX7_number_52 rfl ?_
          refine mE.imul dX7_number_53 ?_
          refine mE.aload_n dX7_number_54 rfl ?_
          refine mE.callV (as := []) (k := 20) (r := 0) (i := 0) (st := [vI (10 * y1)]) dX7_number_55 cf7_number_158 rfl rfl (Nat.le_of_ble_eq_true rfl) (fun _ => Nat.le_of_ble_eq_true rfl) w (kI_on (fun x742 h741 w => ?_))
          refine mE.iadd dX7_number_58 ?_
          refine mE.bipush (v := 48) dX7_number_59 (by decide) ?_
          refine mE.isub dX7_number_61 ?_
          refine mE.istore_n (l2 := [vR 20 0 0, vI (((10 * y1) + x742) - 48)]) dX7_number_62 (by decide) rfl ?_
          refine mE.aload_n dX7_number_63 rfl ?_
          refine mE.dupR dX7_number_64 ?_
          refine mE.getf (w := .inl (h741.1 20 0 0 13)) dX7_number_65 f7_155 rfl ?_
          refine mE.iconst (v := 1) dX7_number_68 (by decide) ?_
          refine mE.iadd dX7_number_69 ?_
          refine mE.putf dX7_number_70 p7_155 (fun _ _ _ => rfl) rfl rfl ?_
          refine mE.goto (tgt := 8) dX7_number_73 (by decide) ?_
          exact w
theorem w7_readOne  {h : mH} {Q : mV → mH → Prop} (w : mC M7_sign [.inr (.inr (some (20, 0, 0)))] h (kI (fun x744 h743 => vp_in (5 * (h.1 20 0 0 12)) 150 ∧ ((x744 = 99 → mE M7_readOne 54 [vR 20 0 0, vI (5 * (h.1 20 0 0 12)), vI x744] [] (pI (pI h743 29 0 0 ((5 * (h.1 20 0 0 12)).toNatClampNeg) x744) 20 0 0 14 0) Q) ∧ (¬ x744 = 99 → (x744 = 119 → mE M7_readOne 54 [vR 20 0 0, vI (5 * (h.1 20 0 0 12)), vI x744] [] (pI (pI h743 29 0 0 ((5 * (h.1 20 0 0 12)).toNatClampNeg) x744) 20 0 0 14 0) Q) ∧ (¬ x744 = 119 → (x744 = 116 → mE M7_readOne 54 [vR 20 0 0, vI (5 * (h.1 20 0 0 12)), vI x744] [] (pI (pI h743 29 0 0 ((5 * (h.1 20 0 0 12)).toNatClampNeg) x744) 20 0 0 14 0) Q) ∧ (¬ x744 = 116 → Q vU (pI (pI h743 29 0 0 ((5 * (h.1 20 0 0 12)).toNatClampNeg) x744) 20 0 0 14 1)))))))) : mC M7_readOne [.inr (.inr (some (20, 0, 0)))] h Q := by
  show mE M7_readOne 0 [vR 20 0 0, vU, vU] [] h Q
  refine mE.iconst (v := 5) dX7_readOne_0 (by decide) ?_
  refine mE.aload_n dX7_readOne_1 rfl ?_
  refine mE.getf (w := .inl (h.1 20 0 0 12)) dX7_readOne_2 f7_167 rfl ?_
  refine mE.imul dX7_readOne_5 ?_
  refine mE.istore_n (l2 := [vR 20 0 0, vI (5 * (h.1 20 0 0 12)), vU]) dX7_readOne_6 (by decide) rfl ?_
  refine mE.aload_n dX7_readOne_7 rfl ?_
  refine mE.callV (as := []) (k := 20) (r := 0) (i := 0) (st := []) dX7_readOne_8 cf7_readOne_158 rfl rfl (Nat.le_of_ble_eq_true rfl) (fun _ => Nat.le_of_ble_eq_true rfl) w (kI_on (fun x744 h743 w => ?_))
  refine mE.istore_n (l2 := [vR 20 0 0, vI (5 * (h.1 20 0 0 12)), vI x744]) dX7_readOne_11 (by decide) rfl ?_
  refine mE.aload_n dX7_readOne_12 rfl ?_
  refine mE.getf (w := .inr (.inr (some (29, 0, 0)))) dX7_readOne_13 f7_35 rfl ?_
  refine mE.iload_n dX7_readOne_16 rfl ?_
  refine mE.iload_n dX7_readOne_17 rfl ?_
  refine mE.iast dX7_readOne_18 rfl rfl (fun _ _ _ _ => rfl) w.1 ?_
  have w := w.2
  refine mE.aload_n dX7_readOne_19 rfl ?_
  refine mE.iload_n dX7_readOne_20 rfl ?_
  refine mE.bipush (v := 99) dX7_readOne_21 (by decide) ?_
  refine mE.icmp_eq (tgt := 42) dX7_readOne_23 (by decide) (fun c => ?_) (fun c => ?_)
  · have w := w.1 c
    refine mE.iconst (v := 0) dX7_readOne_42 (by decide) ?_
    refine mE.putf dX7_readOne_43 p7_161 (fun _ _ _ => rfl) rfl rfl ?_
    refine mE.aload_n dX7_readOne_46 rfl ?_
    refine mE.getf (w := .inl 0) dX7_readOne_47 f7_161 (svc (pI_at (h := pI h743 29 0 0 ((5 * (h.1 20 0 0 12)).toNatClampNeg) x744) (k := 20) (r := 0) (i := 0) (s := 14) (x := 0))) ?_
    refine mE.if_eq (tgt := 54) dX7_readOne_50 (by decide) (fun c => ?_) (fun c => absurd c (by decide))
    exact w
  · have w := w.2 c
    refine mE.iload_n dX7_readOne_26 rfl ?_
    refine mE.bipush (v := 119) dX7_readOne_27 (by decide) ?_
    refine mE.icmp_eq (tgt := 42) dX7_readOne_29 (by decide) (fun c => ?_) (fun c => ?_)
    · have w := w.1 c
      refine mE.iconst (v := 0) dX7_readOne_42 (by decide) ?_
      refine mE.putf dX7_readOne_43 p7_161 (fun _ _ _ => rfl) rfl rfl ?_
      refine mE.aload_n dX7_readOne_46 rfl ?_
      refine mE.getf (w := .inl 0) dX7_readOne_47 f7_161 (svc (pI_at (h := pI h743 29 0 0 ((5 * (h.1 20 0 0 12)).toNatClampNeg) x744) (k := 20) (r := 0) (i := 0) (s := 14) (x := 0))) ?_
      refine mE.if_eq (tgt := 54) dX7_readOne_50 (by decide) (fun c => ?_) (fun c => absurd c (by decide))
      exact w
    · have w := w.2 c
      refine mE.iload_n dX7_readOne_32 rfl ?_
      refine mE.bipush (v := 116) dX7_readOne_33 (by decide) ?_
      refine mE.icmp_eq (tgt := 42) dX7_readOne_35 (by decide) (fun c => ?_) (fun c => ?_)
      · have w := w.1 c
        refine mE.iconst (v := 0) dX7_readOne_42 (by decide) ?_
        refine mE.putf dX7_readOne_43 p7_161 (fun _ _ _ => rfl) rfl rfl ?_
        refine mE.aload_n dX7_readOne_46 rfl ?_
        refine mE.getf (w := .inl 0) dX7_readOne_47 f7_161 (svc (pI_at (h := pI h743 29 0 0 ((5 * (h.1 20 0 0 12)).toNatClampNeg) x744) (k := 20) (r := 0) (i := 0) (s := 14) (x := 0))) ?_
        refine mE.if_eq (tgt := 54) dX7_readOne_50 (by decide) (fun c => ?_) (fun c => absurd c (by decide))
        exact w
      · have w := w.2 c
        refine mE.iconst (v := 1) dX7_readOne_38 (by decide) ?_
        refine mE.goto (tgt := 43) dX7_readOne_39 (by decide) ?_
        refine mE.putf dX7_readOne_43 p7_161 (fun _ _ _ => rfl) rfl rfl ?_
        refine mE.aload_n dX7_readOne_46 rfl ?_
        refine mE.getf (w := .inl 1) dX7_readOne_47 f7_161 (svc (pI_at (h := pI h743 29 0 0 ((5 * (h.1 20 0 0 12)).toNatClampNeg) x744) (k := 20) (r := 0) (i := 0) (s := 14) (x := 1))) ?_
        refine mE.if_eq (tgt := 54) dX7_readOne_50 (by decide) (fun c => absurd c (by decide)) (fun c => ?_)
        exact mE.vret dX7_readOne_53 rfl w
theorem w7_readOne_54 {y1 : Int32} {y2 : Int32} {h : mH} {Q : mV → mH → Prop} (w : (¬ y2 = 99 → mC M7_number [.inr (.inr (some (20, 0, 0)))] (pI h 20 0 0 13 ((h.1 20 0 0 13) + 1)) (kI (fun x746 h745 => vp_in (y1 + 1) 150 ∧ (Q vU (pI (pI h745 29 0 0 ((y1 + 1).toNatClampNeg) x746) 20 0 0 12 ((h745.1 20 0 0 12) + 1)))))) ∧ (y2 = 99 → mC M7_one [.inr (.inr (some (20, 0, 0))), .inl 0, .inl 1] (pI h 20 0 0 13 ((h.1 20 0 0 13) + 1)) (kI (fun x748 h747 => vp_in (y1 + 1) 150 ∧ (mC M7_one [.inr (.inr (some (20, 0, 0))), .inl 1, .inl 4] (pI h747 29 0 0 ((y1 + 1).toNatClampNeg) x748) (kI (fun x750 h749 => vp_in (y1 + 2) 150 ∧ (mC M7_one [.inr (.inr (some (20, 0, 0))), .inl 1, .inl 4] (pI h749 29 0 0 ((y1 + 2).toNatClampNeg) x750) (kI (fun x752 h751 => vp_in (y1 + 3) 150 ∧ (mC M7_one [.inr (.inr (some (20, 0, 0))), .inl 1, .inl 9] (pI h751 29 0 0 ((y1 + 3).toNatClampNeg) x752) (kI (fun x754 h753 => vp_in (y1 + 4) 150 ∧ (Q vU (pI (pI h753 29 0 0 ((y1 + 4).toNatClampNeg) x754) 20 0 0 12 ((h753.1 20 0 0 12) + 1)))))))))))))))) : mE M7_readOne 54 [vR 20 0 0, vI y1, vI y2] [] h Q := by
  refine mE.aload_n dX7_readOne_54 rfl ?_
  refine mE.dupR dX7_readOne_55 ?_
  refine mE.getf (w := .inl (h.1 20 0 0 13)) dX7_readOne_56 f7_155 rfl ?_
  refine mE.iconst (v := 1) dX7_readOne_59 (by decide) ?_
  refine mE.iadd dX7_readOne_60 ?_
  refine mE.putf dX7_readOne_61 p7_155 (fun _ _ _ => rfl) rfl rfl ?_
  refine mE.iload_n dX7_readOne_64 rfl ?_
  refine mE.bipush (v := 99) dX7_readOne_65 (by decide) ?_
  refine mE.icmp_ne (tgt := 130) dX7_readOne_67 (by decide) (fun c => ?_) (fun c => ?_)
  · have w := w.1 c
    refine mE.aload_n dX7_readOne_130 rfl ?_
    refine mE.getf (w := .inr (.inr (some (29, 0, 0)))) dX7_readOne_131 f7_35 rfl ?_
    refine mE.iload_n dX7_readOne_134 rfl ?_
    refine mE.iconst (v := 1) dX7_readOne_135 (by decide) ?_
    refine mE.iadd dX7_readOne_136 ?_
    refine mE.aload_n dX7_readOne_137 rfl ?_
    refine mE.callV (as := []) (k := 20) (r := 0) (i := 0) (st := [vI (y1 + 1), vR 29 0 0]) dX7_readOne_138 cf7_readOne_170 rfl rfl (Nat.le_of_ble_eq_true rfl) (fun _ => Nat.le_of_ble_eq_true rfl) w (kI_on (fun x746 h745 w => ?_))
    refine mE.iast dX7_readOne_141 rfl rfl (fun _ _ _ _ => rfl) w.1 ?_
    have w := w.2
    refine mE.aload_n dX7_readOne_142 rfl ?_
    refine mE.dupR dX7_readOne_143 ?_
    refine mE.getf (w := .inl (h745.1 20 0 0 12)) dX7_readOne_144 f7_167 rfl ?_
    refine mE.iconst (v := 1) dX7_readOne_147 (by decide) ?_
    refine mE.iadd dX7_readOne_148 ?_
    refine mE.putf dX7_readOne_149 p7_167 (fun _ _ _ => rfl) rfl rfl ?_
    exact mE.vret dX7_readOne_152 rfl w
  · have w := w.2 c
    refine mE.aload_n dX7_readOne_70 rfl ?_
    refine mE.getf (w := .inr (.inr (some (29, 0, 0)))) dX7_readOne_71 f7_35 rfl ?_
    refine mE.iload_n dX7_readOne_74 rfl ?_
    refine mE.iconst (v := 1) dX7_readOne_75 (by decide) ?_
    refine mE.iadd dX7_readOne_76 ?_
    refine mE.aload_n dX7_readOne_77 rfl ?_
    refine mE.iconst (v := 0) dX7_readOne_78 (by decide) ?_
    refine mE.iconst (v := 1) dX7_readOne_79 (by decide) ?_
    refine mE.callV (as := [.inl 0, .inl 1]) (k := 20) (r := 0) (i := 0) (st := [vI (y1 + 1), vR 29 0 0]) dX7_readOne_80 cf7_readOne_164 rfl rfl (Nat.le_of_ble_eq_true rfl) (fun _ => Nat.le_of_ble_eq_true rfl) w (kI_on (fun x748 h747 w => ?_))
    refine mE.iast dX7_readOne_83 rfl rfl (fun _ _ _ _ => rfl) w.1 ?_
    have w := w.2
    refine mE.aload_n dX7_readOne_84 rfl ?_
    refine mE.getf (w := .inr (.inr (some (29, 0, 0)))) dX7_readOne_85 f7_35 rfl ?_
    refine mE.iload_n dX7_readOne_88 rfl ?_
    refine mE.iconst (v := 2) dX7_readOne_89 (by decide) ?_
    refine mE.iadd dX7_readOne_90 ?_
    refine mE.aload_n dX7_readOne_91 rfl ?_
    refine mE.iconst (v := 1) dX7_readOne_92 (by decide) ?_
    refine mE.iconst (v := 4) dX7_readOne_93 (by decide) ?_
    refine mE.callV (as := [.inl 1, .inl 4]) (k := 20) (r := 0) (i := 0) (st := [vI (y1 + 2), vR 29 0 0]) dX7_readOne_94 cf7_readOne_164 rfl rfl (Nat.le_of_ble_eq_true rfl) (fun _ => Nat.le_of_ble_eq_true rfl) w (kI_on (fun x750 h749 w => ?_))
    refine mE.iast dX7_readOne_97 rfl rfl (fun _ _ _ _ => rfl) w.1 ?_
    have w := w.2
    refine mE.aload_n dX7_readOne_98 rfl ?_
    refine mE.getf (w := .inr (.inr (some (29, 0, 0)))) dX7_readOne_99 f7_35 rfl ?_
    refine mE.iload_n dX7_readOne_102 rfl ?_
    refine mE.iconst (v := 3) dX7_readOne_103 (by decide) ?_
    refine mE.iadd dX7_readOne_104 ?_
    refine mE.aload_n dX7_readOne_105 rfl ?_
    refine mE.iconst (v := 1) dX7_readOne_106 (by decide) ?_
    refine mE.iconst (v := 4) dX7_readOne_107 (by decide) ?_
    refine mE.callV (as := [.inl 1, .inl 4]) (k := 20) (r := 0) (i := 0) (st := [vI (y1 + 3), vR 29 0 0]) dX7_readOne_108 cf7_readOne_164 rfl rfl (Nat.le_of_ble_eq_true rfl) (fun _ => Nat.le_of_ble_eq_true rfl) w (kI_on (fun x752 h751 w => ?_))
    refine mE.iast dX7_readOne_111 rfl rfl (fun _ _ _ _ => rfl) w.1 ?_
    have w := w.2
    refine mE.aload_n dX7_readOne_112 rfl ?_
    refine mE.getf (w := .inr (.inr (some (29, 0, 0)))) dX7_readOne_113 f7_35 rfl ?_
    refine mE.iload_n dX7_readOne_116 rfl ?_
    refine mE.iconst (v := 4) dX7_readOne_117 (by decide) ?_
    refine mE.iadd dX7_readOne_118 ?_
    refine mE.aload_n dX7_readOne_119 rfl ?_
    refine mE.iconst (v := 1) dX7_readOne_120 (by decide) ?_
    refine mE.bipush (v := 9) dX7_readOne_121 (by decide) ?_
    refine mE.callV (as := [.inl 1, .inl 9]) (k := 20) (r := 0) (i := 0) (st := [vI (y1 + 4), vR 29 0 0]) dX7_readOne_123 cf7_readOne_164 rfl rfl (Nat.le_of_ble_eq_true rfl) (fun _ => Nat.le_of_ble_eq_true rfl) w (kI_on (fun x754 h753 w => ?_))
    refine mE.iast dX7_readOne_126 rfl rfl (fun _ _ _ _ => rfl) w.1 ?_
    have w := w.2
    refine mE.goto (tgt := 142) dX7_readOne_127 (by decide) ?_
    refine mE.aload_n dX7_readOne_142 rfl ?_
    refine mE.dupR dX7_readOne_143 ?_
    refine mE.getf (w := .inl (h753.1 20 0 0 12)) dX7_readOne_144 f7_167 rfl ?_
    refine mE.iconst (v := 1) dX7_readOne_147 (by decide) ?_
    refine mE.iadd dX7_readOne_148 ?_
    refine mE.putf dX7_readOne_149 p7_167 (fun _ _ _ => rfl) rfl rfl ?_
    exact mE.vret dX7_readOne_152 rfl w
theorem w7_faultOf  {h : mH} {Q : mV → mH → Prop} (w : mC M7_readOne [.inr (.inr (some (20, 0, 0)))] (pI (pI (pI h 20 0 0 13 0) 20 0 0 12 0) 20 0 0 14 0) (kV (fun h755 => mE M7_faultOf 19 [vR 20 0 0] [] h755 Q))) : mC M7_faultOf [.inr (.inr (some (20, 0, 0)))] h Q := by
  show mE M7_faultOf 0 [vR 20 0 0] [] h Q
  refine mE.aload_n dX7_faultOf_0 rfl ?_
  refine mE.iconst (v := 0) dX7_faultOf_1 (by decide) ?_
  refine mE.putf dX7_faultOf_2 p7_155 (fun _ _ _ => rfl) rfl rfl ?_
  refine mE.aload_n dX7_faultOf_5 rfl ?_
  refine mE.iconst (v := 0) dX7_faultOf_6 (by decide) ?_
  refine mE.putf dX7_faultOf_7 p7_167 (fun _ _ _ => rfl) rfl rfl ?_
  refine mE.aload_n dX7_faultOf_10 rfl ?_
  refine mE.iconst (v := 0) dX7_faultOf_11 (by decide) ?_
  refine mE.putf dX7_faultOf_12 p7_161 (fun _ _ _ => rfl) rfl rfl ?_
  refine mE.aload_n dX7_faultOf_15 rfl ?_
  refine mE.callV (as := []) (k := 20) (r := 0) (i := 0) (st := []) dX7_faultOf_16 cf7_faultOf_173 rfl rfl (Nat.le_of_ble_eq_true rfl) (fun _ => Nat.le_of_ble_eq_true rfl) w (kV_on (fun h755 w => ?_))
  exact w
theorem w7_faultOf_19  {h : mH} {Q : mV → mH → Prop} (w : (¬ (h.1 20 0 0 14) = 0 → ((h.1 20 0 0 14) = 0 → Q (vI (-6)) h) ∧ (¬ (h.1 20 0 0 14) = 0 → Q (vI (h.1 20 0 0 13)) h)) ∧ ((h.1 20 0 0 14) = 0 → ((h.1 20 0 0 7) ≤ (h.1 20 0 0 13) → ((h.1 20 0 0 14) = 0 → Q (vI (-6)) h) ∧ (¬ (h.1 20 0 0 14) = 0 → Q (vI (h.1 20 0 0 13)) h)) ∧ (¬ (h.1 20 0 0 7) ≤ (h.1 20 0 0 13) → mC M7_sign [.inr (.inr (some (20, 0, 0)))] h (kI (fun x757 h756 => (x757 = 59 → mC M7_readOne [.inr (.inr (some (20, 0, 0)))] (pI (pI h756 20 0 0 14 0) 20 0 0 13 ((h756.1 20 0 0 13) + 1)) (kV (fun h758 => mE M7_faultOf 19 [vR 20 0 0] [] h758 Q))) ∧ (¬ x757 = 59 → mE M7_faultOf 19 [vR 20 0 0] [] (pI h756 20 0 0 14 1) Q)))))) : mE M7_faultOf 19 [vR 20 0 0] [] h Q := by
  refine mE.aload_n dX7_faultOf_19 rfl ?_
  refine mE.getf (w := .inl (h.1 20 0 0 14)) dX7_faultOf_20 f7_161 rfl ?_
  refine mE.if_ne (tgt := 79) dX7_faultOf_23 (by decide) (fun c => ?_) (fun c => ?_)
  · have w := w.1 c
    refine mE.aload_n dX7_faultOf_79 rfl ?_
    refine mE.getf (w := .inl (h.1 20 0 0 14)) dX7_faultOf_80 f7_161 rfl ?_
    refine mE.if_eq (tgt := 93) dX7_faultOf_83 (by decide) (fun c => ?_) (fun c => ?_)
    · have w := w.1 c
      refine mE.bipush (v := -6) dX7_faultOf_93 (by decide) ?_
      exact mE.iret dX7_faultOf_95 rfl rfl w
    · have w := w.2 c
      refine mE.aload_n dX7_faultOf_86 rfl ?_
      refine mE.getf (w := .inl (h.1 20 0 0 13)) dX7_faultOf_87 f7_155 rfl ?_
      refine mE.goto (tgt := 95) dX7_faultOf_90 (by decide) ?_
      exact mE.iret dX7_faultOf_95 rfl rfl w
  · have w := w.2 c
    refine mE.aload_n dX7_faultOf_26 rfl ?_
    refine mE.getf (w := .inl (h.1 20 0 0 13)) dX7_faultOf_27 f7_155 rfl ?_
    refine mE.aload_n dX7_faultOf_30 rfl ?_
    refine mE.getf (w := .inl (h.1 20 0 0 7)) dX7_faultOf_31 f7_139 rfl ?_
    refine mE.icmp_ge (tgt := 79) dX7_faultOf_34 (by decide) (fun c => ?_) (fun c => ?_)
    · have w := w.1 c
      refine mE.aload_n dX7_faultOf_79 rfl ?_
      refine mE.getf (w := .inl (h.1 20 0 0 14)) dX7_faultOf_80 f7_161 rfl ?_
      refine mE.if_eq (tgt := 93) dX7_faultOf_83 (by decide) (fun c => ?_) (fun c => ?_)
      · have w := w.1 c
        refine mE.bipush (v := -6) dX7_faultOf_93 (by decide) ?_
        exact mE.iret dX7_faultOf_95 rfl rfl w
      · have w := w.2 c
        refine mE.aload_n dX7_faultOf_86 rfl ?_
        refine mE.getf (w := .inl (h.1 20 0 0 13)) dX7_faultOf_87 f7_155 rfl ?_
        refine mE.goto (tgt := 95) dX7_faultOf_90 (by decide) ?_
        exact mE.iret dX7_faultOf_95 rfl rfl w
    · have w := w.2 c
      refine mE.aload_n dX7_faultOf_37 rfl ?_
      refine mE.aload_n dX7_faultOf_38 rfl ?_
      refine mE.callV (as := []) (k := 20) (r := 0) (i := 0) (st := [vR 20 0 0]) dX7_faultOf_39 cf7_faultOf_158 rfl rfl (Nat.le_of_ble_eq_true rfl) (fun _ => Nat.le_of_ble_eq_true rfl) w (kI_on (fun x757 h756 w => ?_))
      refine mE.bipush (v := 59) dX7_faultOf_42 (by decide) ?_
      refine mE.icmp_eq (tgt := 51) dX7_faultOf_44 (by decide) (fun c => ?_) (fun c => ?_)
      · have w := w.1 c
        refine mE.iconst (v := 0) dX7_faultOf_51 (by decide) ?_
        refine mE.putf dX7_faultOf_52 p7_161 (fun _ _ _ => rfl) rfl rfl ?_
        refine mE.aload_n dX7_faultOf_55 rfl ?_
        refine mE.getf (w := .inl 0) dX7_faultOf_56 f7_161 (svc (pI_at (h := h756) (k := 20) (r := 0) (i := 0) (s := 14) (x := 0))) ?_
        refine mE.if_ne (tgt := 19) dX7_faultOf_59 (by decide) (fun c => absurd c (by decide)) (fun c => ?_)
        refine mE.aload_n dX7_faultOf_62 rfl ?_
        refine mE.dupR dX7_faultOf_63 ?_
        refine mE.getf (w := .inl (h756.1 20 0 0 13)) dX7_faultOf_64 f7_155 rfl ?_
        refine mE.iconst (v := 1) dX7_faultOf_67 (by decide) ?_
        refine mE.iadd dX7_faultOf_68 ?_
        refine mE.putf dX7_faultOf_69 p7_155 (fun _ _ _ => rfl) rfl rfl ?_
        refine mE.aload_n dX7_faultOf_72 rfl ?_
        refine mE.callV (as := []) (k := 20) (r := 0) (i := 0) (st := []) dX7_faultOf_73 cf7_faultOf_173 rfl rfl (Nat.le_of_ble_eq_true rfl) (fun _ => Nat.le_of_ble_eq_true rfl) w (kV_on (fun h758 w => ?_))
        refine mE.goto (tgt := 19) dX7_faultOf_76 (by decide) ?_
        exact w
      · have w := w.2 c
        refine mE.iconst (v := 1) dX7_faultOf_47 (by decide) ?_
        refine mE.goto (tgt := 52) dX7_faultOf_48 (by decide) ?_
        refine mE.putf dX7_faultOf_52 p7_161 (fun _ _ _ => rfl) rfl rfl ?_
        refine mE.aload_n dX7_faultOf_55 rfl ?_
        refine mE.getf (w := .inl 1) dX7_faultOf_56 f7_161 (svc (pI_at (h := h756) (k := 20) (r := 0) (i := 0) (s := 14) (x := 1))) ?_
        refine mE.if_ne (tgt := 19) dX7_faultOf_59 (by decide) (fun c => ?_) (fun c => absurd c (by decide))
        exact w
theorem w7_put {a1 : Int64} {h : mH} {Q : mV → mH → Prop} (w : mE M7_put 5 [vR 20 0 0, vL a1, vU, vI 0, vL a1, vU, vU] [] h Q) : mC M7_put [.inr (.inr (some (20, 0, 0))), .inr (.inl a1)] h Q := by
  show mE M7_put 0 [vR 20 0 0, vL a1, vU, vU, vU, vU, vU] [] h Q
  refine mE.iconst (v := 0) dX7_put_0 (by decide) ?_
  refine mE.istore_n (l2 := [vR 20 0 0, vL a1, vU, vI 0, vU, vU, vU]) dX7_put_1 (by decide) rfl ?_
  refine mE.lload_n dX7_put_2 rfl ?_
  refine mE.lstore (l2 := [vR 20 0 0, vL a1, vU, vI 0, vL a1, vU, vU]) dX7_put_3 (by decide) rfl ?_
  exact w
theorem w7_put_5 {y1 : Int64} {y3 : Int32} {y4 : Int64} {h : mH} {Q : mV → mH → Prop} (w : ((lg_cmp (y4 &&& 255) 0) = 0 → (¬ (lg_cmp y4 0) = 0 → Q (vI (-2)) h) ∧ ((lg_cmp y4 0) = 0 → (¬ y3 = 0 → (((h.1 20 0 0 7) + y3) ≤ 60 → mE M7_put 85 [vR 20 0 0, vU, vU, vI y3, vL y1, vU, vI (y3 - 1)] [] h Q) ∧ (¬ ((h.1 20 0 0 7) + y3) ≤ 60 → Q (vI (-4)) h)) ∧ (y3 = 0 → Q (vI (-2)) h))) ∧ (¬ (lg_cmp (y4 &&& 255) 0) = 0 → mC M7_in [.inl ((y4 &&& 255).toInt32), .inl 33, .inl 126] h (kI (fun x760 h759 => (¬ x760 = 0 → mE M7_put 5 [vR 20 0 0, vL y1, vU, vI (y3 + 1), vL ((y4.toUInt64 >>> ((8 : Int32).toInt64.toUInt64 &&& Int64.toUInt64 63)).toInt64), vU, vU] [] h759 Q) ∧ (x760 = 0 → Q (vI (-2)) h759))))) : mE M7_put 5 [vR 20 0 0, vL y1, vU, vI y3, vL y4, vU, vU] [] h Q := by
  refine mE.lload dX7_put_5 rfl ?_
  refine mE.ldc2 (v := 255) dX7_put_7 (tb_of 904 (by decide +kernel) rfl) ?_
  refine mE.land dX7_put_10 ?_
  refine mE.lconst (v := 0) dX7_put_11 (by decide) ?_
  refine mE.lcmp dX7_put_12 ?_
  refine mE.if_eq (tgt := 49) dX7_put_13 (by decide) (fun c => ?_) (fun c => ?_)
  · have w := w.1 c
    refine mE.lload dX7_put_49 rfl ?_
    refine mE.lconst (v := 0) dX7_put_51 (by decide) ?_
    refine mE.lcmp dX7_put_52 ?_
    refine mE.if_ne (tgt := 60) dX7_put_53 (by decide) (fun c => ?_) (fun c => ?_)
    · have w := w.1 c
      refine mE.bipush (v := -2) dX7_put_60 (by decide) ?_
      exact mE.iret dX7_put_62 rfl rfl w
    · have w := w.2 c
      refine mE.iload_n dX7_put_56 rfl ?_
      refine mE.if_ne (tgt := 63) dX7_put_57 (by decide) (fun c => ?_) (fun c => ?_)
      · have w := w.1 c
        refine mE.aload_n dX7_put_63 rfl ?_
        refine mE.getf (w := .inl (h.1 20 0 0 7)) dX7_put_64 f7_139 rfl ?_
        refine mE.iload_n dX7_put_67 rfl ?_
        refine mE.iadd dX7_put_68 ?_
        refine mE.bipush (v := 60) dX7_put_69 (by decide) ?_
        refine mE.icmp_le (tgt := 77) dX7_put_71 (by decide) (fun c => ?_) (fun c => ?_)
        · have w := w.1 c
          refine mE.lload_n dX7_put_77 rfl ?_
          refine mE.lstore (l2 := [vR 20 0 0, vL y1, vU, vI y3, vL y1, vU, vU]) dX7_put_78 (by decide) rfl ?_
          refine mE.iload_n dX7_put_80 rfl ?_
          refine mE.iconst (v := 1) dX7_put_81 (by decide) ?_
          refine mE.isub dX7_put_82 ?_
          refine mE.istore (l2 := [vR 20 0 0, vL y1, vU, vI y3, vL y1, vU, vI (y3 - 1)]) dX7_put_83 (by decide) rfl ?_
          exact mE.less (by exact ⟨Or.inr rfl, ⟨Or.inl rfl, ⟨Or.inl rfl, ⟨Or.inr rfl, ⟨Or.inr rfl, ⟨Or.inl rfl, ⟨Or.inr rfl, trivial⟩⟩⟩⟩⟩⟩⟩) w
        · have w := w.2 c
          refine mE.bipush (v := -4) dX7_put_74 (by decide) ?_
          exact mE.iret dX7_put_76 rfl rfl w
      · have w := w.2 c
        refine mE.bipush (v := -2) dX7_put_60 (by decide) ?_
        exact mE.iret dX7_put_62 rfl rfl w
  · have w := w.2 c
    refine mE.lload dX7_put_16 rfl ?_
    refine mE.ldc2 (v := 255) dX7_put_18 (tb_of 904 (by decide +kernel) rfl) ?_
    refine mE.land dX7_put_21 ?_
    refine mE.l2i dX7_put_22 ?_
    refine mE.bipush (v := 33) dX7_put_23 (by decide) ?_
    refine mE.bipush (v := 126) dX7_put_25 (by decide) ?_
    refine mE.callS (as := [.inl ((y4 &&& 255).toInt32), .inl 33, .inl 126]) (st := []) dX7_put_27 cf7_put_54 rfl rfl (Nat.le_of_ble_eq_true rfl) (fun _ => Nat.le_of_ble_eq_true rfl) w (kI_on (fun x760 h759 w => ?_))
    refine mE.if_ne (tgt := 36) dX7_put_30 (by decide) (fun c => ?_) (fun c => ?_)
    · have w := w.1 c
      refine mE.iinc (v := y3 + 1) (l2 := [vR 20 0 0, vL y1, vU, vI (y3 + 1), vL y4, vU, vU]) dX7_put_36 rfl rfl (by decide) rfl ?_
      refine mE.lload dX7_put_39 rfl ?_
      refine mE.bipush (v := 8) dX7_put_41 (by decide) ?_
      refine mE.lushr dX7_put_43 ?_
      refine mE.lstore (l2 := [vR 20 0 0, vL y1, vU, vI (y3 + 1), vL ((y4.toUInt64 >>> ((8 : Int32).toInt64.toUInt64 &&& Int64.toUInt64 63)).toInt64), vU, vU]) dX7_put_44 (by decide) rfl ?_
      refine mE.goto (tgt := 5) dX7_put_46 (by decide) ?_
      exact w
    · have w := w.2 c
      refine mE.bipush (v := -2) dX7_put_33 (by decide) ?_
      exact mE.iret dX7_put_35 rfl rfl w
theorem w7_put_85 {y3 : Int32} {y4 : Int64} {y6 : Int32} {h : mH} {Q : mV → mH → Prop} (w : (y6 < 0 → Q (vI ((h.1 20 0 0 7) + y3)) (pI h 20 0 0 7 ((h.1 20 0 0 7) + y3))) ∧ (¬ y6 < 0 → vp_in ((h.1 20 0 0 7) + y6) 60 ∧ (mE M7_put 85 [vR 20 0 0, vU, vU, vI y3, vL ((y4.toUInt64 >>> ((8 : Int32).toInt64.toUInt64 &&& Int64.toUInt64 63)).toInt64), vU, vI (y6 + (-1))] [] (pI h 26 0 0 (((h.1 20 0 0 7) + y6).toNatClampNeg) ((y4 &&& 255).toInt32)) Q))) : mE M7_put 85 [vR 20 0 0, vU, vU, vI y3, vL y4, vU, vI y6] [] h Q := by
  refine mE.iload dX7_put_85 rfl ?_
  refine mE.if_lt (tgt := 122) dX7_put_87 (by decide) (fun c => ?_) (fun c => ?_)
  · have w := w.1 c
    refine mE.aload_n dX7_put_122 rfl ?_
    refine mE.dupR dX7_put_123 ?_
    refine mE.getf (w := .inl (h.1 20 0 0 7)) dX7_put_124 f7_139 rfl ?_
    refine mE.iload_n dX7_put_127 rfl ?_
    refine mE.iadd dX7_put_128 ?_
    refine mE.putf dX7_put_129 p7_139 (fun _ _ _ => rfl) rfl rfl ?_
    refine mE.aload_n dX7_put_132 rfl ?_
    refine mE.getf (w := .inl ((h.1 20 0 0 7) + y3)) dX7_put_133 f7_139 (svc (pI_at (h := h) (k := 20) (r := 0) (i := 0) (s := 7) (x := ((h.1 20 0 0 7) + y3)))) ?_
    exact mE.iret dX7_put_136 rfl rfl w
  · have w := w.2 c
    refine mE.aload_n dX7_put_90 rfl ?_
    refine mE.getf (w := .inr (.inr (some (26, 0, 0)))) dX7_put_91 f7_26 rfl ?_
    refine mE.aload_n dX7_put_94 rfl ?_
    refine mE.getf (w := .inl (h.1 20 0 0 7)) dX7_put_95 f7_139 rfl ?_
    refine mE.iload dX7_put_98 rfl ?_
    refine mE.iadd dX7_put_100 ?_
    refine mE.lload dX7_put_101 rfl ?_
    refine mE.ldc2 (v := 255) dX7_put_103 (tb_of 904 (by decide +kernel) rfl) ?_
    refine mE.land dX7_put_106 ?_
    refine mE.l2i dX7_put_107 ?_
    refine mE.iast dX7_put_108 rfl rfl (fun _ _ _ _ => rfl) w.1 ?_
    have w := w.2
    refine mE.lload dX7_put_109 rfl ?_
    refine mE.bipush (v := 8) dX7_put_111 (by decide) ?_
    refine mE.lushr dX7_put_113 ?_
    refine mE.lstore (l2 := [vR 20 0 0, vU, vU, vI y3, vL ((y4.toUInt64 >>> ((8 : Int32).toInt64.toUInt64 &&& Int64.toUInt64 63)).toInt64), vU, vI y6]) dX7_put_114 (by decide) rfl ?_
    refine mE.iinc (v := y6 + (-1)) (l2 := [vR 20 0 0, vU, vU, vI y3, vL ((y4.toUInt64 >>> ((8 : Int32).toInt64.toUInt64 &&& Int64.toUInt64 63)).toInt64), vU, vI (y6 + (-1))]) dX7_put_116 rfl rfl (by decide) rfl ?_
    refine mE.goto (tgt := 85) dX7_put_119 (by decide) ?_
    exact w
theorem w7_wipe  {h : mH} {Q : mV → mH → Prop} (w : Q (vI (h.1 20 0 0 7)) (pI h 20 0 0 7 0)) : mC M7_wipe [.inr (.inr (some (20, 0, 0)))] h Q := by
  show mE M7_wipe 0 [vR 20 0 0, vU] [] h Q
  refine mE.aload_n dX7_wipe_0 rfl ?_
  refine mE.getf (w := .inl (h.1 20 0 0 7)) dX7_wipe_1 f7_139 rfl ?_
  refine mE.istore_n (l2 := [vR 20 0 0, vI (h.1 20 0 0 7)]) dX7_wipe_4 (by decide) rfl ?_
  refine mE.aload_n dX7_wipe_5 rfl ?_
  refine mE.iconst (v := 0) dX7_wipe_6 (by decide) ?_
  refine mE.putf dX7_wipe_7 p7_139 (fun _ _ _ => rfl) rfl rfl ?_
  refine mE.iload_n dX7_wipe_10 rfl ?_
  exact mE.iret dX7_wipe_11 rfl rfl w
theorem w7_fault  {h : mH} {Q : mV → mH → Prop} (w : mC M7_faultOf [.inr (.inr (some (20, 0, 0)))] h (kI (fun x762 h761 => Q (vI x762) h761))) : mC M7_fault [.inr (.inr (some (20, 0, 0)))] h Q := by
  show mE M7_fault 0 [vR 20 0 0] [] h Q
  refine mE.aload_n dX7_fault_0 rfl ?_
  refine mE.callV (as := []) (k := 20) (r := 0) (i := 0) (st := []) dX7_fault_1 cf7_fault_178 rfl rfl (Nat.le_of_ble_eq_true rfl) (fun _ => Nat.le_of_ble_eq_true rfl) w (kI_on (fun x762 h761 w => ?_))
  exact mE.iret dX7_fault_4 rfl rfl w
theorem w7_carry {a1 : Int32} {h : mH} {Q : mV → mH → Prop} (w : vp_in (a1 + 1) 150 ∧ (vp_in a1 150 ∧ (((h.1 29 0 0 a1.toNatClampNeg) = 99 → vp_in (a1 + 2) 150 ∧ (vp_in (a1 + 3) 150 ∧ (vp_in (a1 + 4) 150 ∧ (mC M7_come [.inr (.inr (some (20, 0, 0))), .inl (h.1 29 0 0 ((a1 + 1).toNatClampNeg)), .inl (h.1 29 0 0 ((a1 + 2).toNatClampNeg)), .inl (h.1 29 0 0 ((a1 + 3).toNatClampNeg)), .inl (h.1 29 0 0 ((a1 + 4).toNatClampNeg))] h (kI (fun x764 h763 => Q (vI x764) h763)))))) ∧ ((h.1 29 0 0 a1.toNatClampNeg) = 119 → mC M7_want [.inr (.inr (some (20, 0, 0))), .inl (h.1 29 0 0 ((a1 + 1).toNatClampNeg))] h (kI (fun x766 h765 => Q (vI x766) h765))) ∧ (¬ (h.1 29 0 0 a1.toNatClampNeg) = 99 → ¬ (h.1 29 0 0 a1.toNatClampNeg) = 119 → mC M7_ticks [.inr (.inr (some (20, 0, 0))), .inl (h.1 29 0 0 ((a1 + 1).toNatClampNeg))] h (kI (fun x768 h767 => Q (vI x768) h767)))))) : mC M7_carry [.inr (.inr (some (20, 0, 0))), .inl a1] h Q := by
  show mE M7_carry 0 [vR 20 0 0, vI a1, vU] [] h Q
  refine mE.aload_n dX7_carry_0 rfl ?_
  refine mE.getf (w := .inr (.inr (some (29, 0, 0)))) dX7_carry_1 f7_35 rfl ?_
  refine mE.iload_n dX7_carry_4 rfl ?_
  refine mE.iconst (v := 1) dX7_carry_5 (by decide) ?_
  refine mE.iadd dX7_carry_6 ?_
  refine mE.iald (x := h.1 29 0 0 ((a1 + 1).toNatClampNeg)) dX7_carry_7 rfl rfl w.1 rfl ?_
  have w := w.2
  refine mE.istore_n (l2 := [vR 20 0 0, vI a1, vI (h.1 29 0 0 ((a1 + 1).toNatClampNeg))]) dX7_carry_8 (by decide) rfl ?_
  refine mE.aload_n dX7_carry_9 rfl ?_
  refine mE.getf (w := .inr (.inr (some (29, 0, 0)))) dX7_carry_10 f7_35 rfl ?_
  refine mE.iload_n dX7_carry_13 rfl ?_
  refine mE.iald (x := h.1 29 0 0 a1.toNatClampNeg) dX7_carry_14 rfl rfl w.1 rfl ?_
  have w := w.2
  by_cases c0 : (h.1 29 0 0 a1.toNatClampNeg) = 99
  · have w := w.1 c0
    refine mE.look (off := 25) (tgt := 40) dX7_carry_15 (by decide) (by rw [c0]; decide) (by decide) ?_
    refine mE.aload_n dX7_carry_40 rfl ?_
    refine mE.iload_n dX7_carry_41 rfl ?_
    refine mE.aload_n dX7_carry_42 rfl ?_
    refine mE.getf (w := .inr (.inr (some (29, 0, 0)))) dX7_carry_43 f7_35 rfl ?_
    refine mE.iload_n dX7_carry_46 rfl ?_
    refine mE.iconst (v := 2) dX7_carry_47 (by decide) ?_
    refine mE.iadd dX7_carry_48 ?_
    refine mE.iald (x := h.1 29 0 0 ((a1 + 2).toNatClampNeg)) dX7_carry_49 rfl rfl w.1 rfl ?_
    have w := w.2
    refine mE.aload_n dX7_carry_50 rfl ?_
    refine mE.getf (w := .inr (.inr (some (29, 0, 0)))) dX7_carry_51 f7_35 rfl ?_
    refine mE.iload_n dX7_carry_54 rfl ?_
    refine mE.iconst (v := 3) dX7_carry_55 (by decide) ?_
    refine mE.iadd dX7_carry_56 ?_
    refine mE.iald (x := h.1 29 0 0 ((a1 + 3).toNatClampNeg)) dX7_carry_57 rfl rfl w.1 rfl ?_
    have w := w.2
    refine mE.aload_n dX7_carry_58 rfl ?_
    refine mE.getf (w := .inr (.inr (some (29, 0, 0)))) dX7_carry_59 f7_35 rfl ?_
    refine mE.iload_n dX7_carry_62 rfl ?_
    refine mE.iconst (v := 4) dX7_carry_63 (by decide) ?_
    refine mE.iadd dX7_carry_64 ?_
    refine mE.iald (x := h.1 29 0 0 ((a1 + 4).toNatClampNeg)) dX7_carry_65 rfl rfl w.1 rfl ?_
    have w := w.2
    refine mE.callV (as := [.inl (h.1 29 0 0 ((a1 + 1).toNatClampNeg)), .inl (h.1 29 0 0 ((a1 + 2).toNatClampNeg)), .inl (h.1 29 0 0 ((a1 + 3).toNatClampNeg)), .inl (h.1 29 0 0 ((a1 + 4).toNatClampNeg))]) (k := 20) (r := 0) (i := 0) (st := []) dX7_carry_66 cf7_carry_181 rfl rfl (Nat.le_of_ble_eq_true rfl) (fun _ => Nat.le_of_ble_eq_true rfl) w (kI_on (fun x764 h763 w => ?_))
    exact mE.iret dX7_carry_69 rfl rfl w
  · have w := w.2
    by_cases c1 : (h.1 29 0 0 a1.toNatClampNeg) = 119
    · have w := w.1 c1
      refine mE.look (off := 55) (tgt := 70) dX7_carry_15 (by decide) (by rw [c1]; decide) (by decide) ?_
      refine mE.aload_n dX7_carry_70 rfl ?_
      refine mE.iload_n dX7_carry_71 rfl ?_
      refine mE.callV (as := [.inl (h.1 29 0 0 ((a1 + 1).toNatClampNeg))]) (k := 20) (r := 0) (i := 0) (st := []) dX7_carry_72 cf7_carry_185 rfl rfl (Nat.le_of_ble_eq_true rfl) (fun _ => Nat.le_of_ble_eq_true rfl) w (kI_on (fun x766 h765 w => ?_))
      exact mE.iret dX7_carry_75 rfl rfl w
    · have w := w.2
      have w := w c0 c1
      refine mE.look (off := 61) (tgt := 76) dX7_carry_15 (by decide) (sw_2 c0 c1 (by decide) (by decide)) (by decide) ?_
      refine mE.aload_n dX7_carry_76 rfl ?_
      refine mE.iload_n dX7_carry_77 rfl ?_
      refine mE.callV (as := [.inl (h.1 29 0 0 ((a1 + 1).toNatClampNeg))]) (k := 20) (r := 0) (i := 0) (st := []) dX7_carry_78 cf7_carry_188 rfl rfl (Nat.le_of_ble_eq_true rfl) (fun _ => Nat.le_of_ble_eq_true rfl) w (kI_on (fun x768 h767 w => ?_))
      exact mE.iret dX7_carry_81 rfl rfl w
theorem w7_carryOut  {h : mH} {Q : mV → mH → Prop} (w : mC M7_faultOf [.inr (.inr (some (20, 0, 0)))] h (kI (fun x770 h769 => (x770 = (-6) → mC M7_record [.inr (.inr (some (20, 0, 0)))] h769 (kV (fun h771 => mE M7_carryOut 23 [vR 20 0 0, vI 0] [] (pI h771 20 0 0 8 1) Q))) ∧ (¬ x770 = (-6) → Q (vI (-3)) h769)))) : mC M7_carryOut [.inr (.inr (some (20, 0, 0)))] h Q := by
  show mE M7_carryOut 0 [vR 20 0 0, vU] [] h Q
  refine mE.aload_n dX7_carryOut_0 rfl ?_
  refine mE.callV (as := []) (k := 20) (r := 0) (i := 0) (st := []) dX7_carryOut_1 cf7_carryOut_178 rfl rfl (Nat.le_of_ble_eq_true rfl) (fun _ => Nat.le_of_ble_eq_true rfl) w (kI_on (fun x770 h769 w => ?_))
  refine mE.bipush (v := -6) dX7_carryOut_4 (by decide) ?_
  refine mE.icmp_eq (tgt := 12) dX7_carryOut_6 (by decide) (fun c => ?_) (fun c => ?_)
  · have w := w.1 c
    refine mE.aload_n dX7_carryOut_12 rfl ?_
    refine mE.callV (as := []) (k := 20) (r := 0) (i := 0) (st := []) dX7_carryOut_13 cf7_carryOut_115 rfl rfl (Nat.le_of_ble_eq_true rfl) (fun _ => Nat.le_of_ble_eq_true rfl) w (kV_on (fun h771 w => ?_))
    refine mE.aload_n dX7_carryOut_16 rfl ?_
    refine mE.iconst (v := 1) dX7_carryOut_17 (by decide) ?_
    refine mE.putf dX7_carryOut_18 p7_38 (fun _ _ _ => rfl) rfl rfl ?_
    refine mE.iconst (v := 0) dX7_carryOut_21 (by decide) ?_
    refine mE.istore_n (l2 := [vR 20 0 0, vI 0]) dX7_carryOut_22 (by decide) rfl ?_
    exact w
  · have w := w.2 c
    refine mE.bipush (v := -3) dX7_carryOut_9 (by decide) ?_
    exact mE.iret dX7_carryOut_11 rfl rfl w
theorem w7_carryOut_23 {y1 : Int32} {h : mH} {Q : mV → mH → Prop} (w : ((h.1 20 0 0 12) ≤ y1 → Q (vI y1) (pI (pI h 20 0 0 8 0) 20 0 0 7 0)) ∧ (¬ (h.1 20 0 0 12) ≤ y1 → mC M7_carry [.inr (.inr (some (20, 0, 0))), .inl (5 * y1)] h (kI (fun x773 h772 => (x773 < 0 → Q (vI y1) (pI (pI h772 20 0 0 8 0) 20 0 0 7 0)) ∧ (¬ x773 < 0 → mE M7_carryOut 23 [vR 20 0 0, vI (y1 + 1)] [] h772 Q))))) : mE M7_carryOut 23 [vR 20 0 0, vI y1] [] h Q := by
  refine mE.iload_n dX7_carryOut_23 rfl ?_
  refine mE.aload_n dX7_carryOut_24 rfl ?_
  refine mE.getf (w := .inl (h.1 20 0 0 12)) dX7_carryOut_25 f7_167 rfl ?_
  refine mE.icmp_ge (tgt := 47) dX7_carryOut_28 (by decide) (fun c => ?_) (fun c => ?_)
  · have w := w.1 c
    refine mE.aload_n dX7_carryOut_47 rfl ?_
    refine mE.iconst (v := 0) dX7_carryOut_48 (by decide) ?_
    refine mE.putf dX7_carryOut_49 p7_38 (fun _ _ _ => rfl) rfl rfl ?_
    refine mE.aload_n dX7_carryOut_52 rfl ?_
    refine mE.iconst (v := 0) dX7_carryOut_53 (by decide) ?_
    refine mE.putf dX7_carryOut_54 p7_139 (fun _ _ _ => rfl) rfl rfl ?_
    refine mE.iload_n dX7_carryOut_57 rfl ?_
    exact mE.iret dX7_carryOut_58 rfl rfl w
  · have w := w.2 c
    refine mE.aload_n dX7_carryOut_31 rfl ?_
    refine mE.iconst (v := 5) dX7_carryOut_32 (by decide) ?_
    refine mE.iload_n dX7_carryOut_33 rfl ?_
    refine mE.imul dX7_carryOut_34 ?_
    refine mE.callV (as := [.inl (5 * y1)]) (k := 20) (r := 0) (i := 0) (st := []) dX7_carryOut_35 cf7_carryOut_191 rfl rfl (Nat.le_of_ble_eq_true rfl) (fun _ => Nat.le_of_ble_eq_true rfl) w (kI_on (fun x773 h772 w => ?_))
    refine mE.if_lt (tgt := 47) dX7_carryOut_38 (by decide) (fun c => ?_) (fun c => ?_)
    · have w := w.1 c
      refine mE.aload_n dX7_carryOut_47 rfl ?_
      refine mE.iconst (v := 0) dX7_carryOut_48 (by decide) ?_
      refine mE.putf dX7_carryOut_49 p7_38 (fun _ _ _ => rfl) rfl rfl ?_
      refine mE.aload_n dX7_carryOut_52 rfl ?_
      refine mE.iconst (v := 0) dX7_carryOut_53 (by decide) ?_
      refine mE.putf dX7_carryOut_54 p7_139 (fun _ _ _ => rfl) rfl rfl ?_
      refine mE.iload_n dX7_carryOut_57 rfl ?_
      exact mE.iret dX7_carryOut_58 rfl rfl w
    · have w := w.2 c
      refine mE.iinc (v := y1 + 1) (l2 := [vR 20 0 0, vI (y1 + 1)]) dX7_carryOut_41 rfl rfl (by decide) rfl ?_
      refine mE.goto (tgt := 23) dX7_carryOut_44 (by decide) ?_
      exact w
theorem w7_undo  {h : mH} {Q : mV → mH → Prop} (w : (¬ (h.1 20 0 0 3) = 0 → mE M7_undo 22 [vR 20 0 0, vI 0] [] (pI h 20 0 0 3 ((h.1 20 0 0 3) - 1)) Q) ∧ ((h.1 20 0 0 3) = 0 → Q (vI (-5)) h)) : mC M7_undo [.inr (.inr (some (20, 0, 0)))] h Q := by
  show mE M7_undo 0 [vR 20 0 0, vU] [] h Q
  refine mE.aload_n dX7_undo_0 rfl ?_
  refine mE.getf (w := .inl (h.1 20 0 0 3)) dX7_undo_1 f7_42 rfl ?_
  refine mE.if_ne (tgt := 10) dX7_undo_4 (by decide) (fun c => ?_) (fun c => ?_)
  · have w := w.1 c
    refine mE.aload_n dX7_undo_10 rfl ?_
    refine mE.dupR dX7_undo_11 ?_
    refine mE.getf (w := .inl (h.1 20 0 0 3)) dX7_undo_12 f7_42 rfl ?_
    refine mE.iconst (v := 1) dX7_undo_15 (by decide) ?_
    refine mE.isub dX7_undo_16 ?_
    refine mE.putf dX7_undo_17 p7_42 (fun _ _ _ => rfl) rfl rfl ?_
    refine mE.iconst (v := 0) dX7_undo_20 (by decide) ?_
    refine mE.istore_n (l2 := [vR 20 0 0, vI 0]) dX7_undo_21 (by decide) rfl ?_
    exact w
  · have w := w.2 c
    refine mE.bipush (v := -5) dX7_undo_7 (by decide) ?_
    exact mE.iret dX7_undo_9 rfl rfl w
theorem w7_undo_22 {y1 : Int32} {h : mH} {Q : mV → mH → Prop} (w : (470 ≤ y1 → Q (vI (h.1 20 0 0 3)) h) ∧ (¬ 470 ≤ y1 → vp_in (((h.1 20 0 0 3) * 470) + y1) 2820 ∧ (vp_in y1 470 ∧ (mE M7_undo 22 [vR 20 0 0, vI (y1 + 1)] [] (pI h 21 0 0 y1.toNatClampNeg (h.1 23 0 0 ((((h.1 20 0 0 3) * 470) + y1).toNatClampNeg))) Q)))) : mE M7_undo 22 [vR 20 0 0, vI y1] [] h Q := by
  refine mE.iload_n dX7_undo_22 rfl ?_
  refine mE.sipush (v := 470) dX7_undo_23 (by decide) ?_
  refine mE.icmp_ge (tgt := 56) dX7_undo_26 (by decide) (fun c => ?_) (fun c => ?_)
  · have w := w.1 c
    refine mE.aload_n dX7_undo_56 rfl ?_
    refine mE.getf (w := .inl (h.1 20 0 0 3)) dX7_undo_57 f7_42 rfl ?_
    exact mE.iret dX7_undo_60 rfl rfl w
  · have w := w.2 c
    refine mE.aload_n dX7_undo_29 rfl ?_
    refine mE.getf (w := .inr (.inr (some (21, 0, 0)))) dX7_undo_30 f7_7 rfl ?_
    refine mE.iload_n dX7_undo_33 rfl ?_
    refine mE.aload_n dX7_undo_34 rfl ?_
    refine mE.getf (w := .inr (.inr (some (23, 0, 0)))) dX7_undo_35 f7_16 rfl ?_
    refine mE.aload_n dX7_undo_38 rfl ?_
    refine mE.getf (w := .inl (h.1 20 0 0 3)) dX7_undo_39 f7_42 rfl ?_
    refine mE.sipush (v := 470) dX7_undo_42 (by decide) ?_
    refine mE.imul dX7_undo_45 ?_
    refine mE.iload_n dX7_undo_46 rfl ?_
    refine mE.iadd dX7_undo_47 ?_
    refine mE.iald (x := h.1 23 0 0 ((((h.1 20 0 0 3) * 470) + y1).toNatClampNeg)) dX7_undo_48 rfl rfl w.1 rfl ?_
    have w := w.2
    refine mE.iast dX7_undo_49 rfl rfl (fun _ _ _ _ => rfl) w.1 ?_
    have w := w.2
    refine mE.iinc (v := y1 + 1) (l2 := [vR 20 0 0, vI (y1 + 1)]) dX7_undo_50 rfl rfl (by decide) rfl ?_
    refine mE.goto (tgt := 22) dX7_undo_53 (by decide) ?_
    exact w
theorem w7_save {a1 : Int32} {h : mH} {Q : mV → mH → Prop} (w : mC M7_in [.inl a1, .inl 0, .inl 1] h (kI (fun x775 h774 => (¬ x775 = 0 → mE M7_save 14 [vR 20 0 0, vI a1, vI 0] [] h774 Q) ∧ (x775 = 0 → Q (vI (-2)) h774)))) : mC M7_save [.inr (.inr (some (20, 0, 0))), .inl a1] h Q := by
  show mE M7_save 0 [vR 20 0 0, vI a1, vU] [] h Q
  refine mE.iload_n dX7_save_0 rfl ?_
  refine mE.iconst (v := 0) dX7_save_1 (by decide) ?_
  refine mE.iconst (v := 1) dX7_save_2 (by decide) ?_
  refine mE.callS (as := [.inl a1, .inl 0, .inl 1]) (st := []) dX7_save_3 cf7_save_54 rfl rfl (Nat.le_of_ble_eq_true rfl) (fun _ => Nat.le_of_ble_eq_true rfl) w (kI_on (fun x775 h774 w => ?_))
  refine mE.if_ne (tgt := 12) dX7_save_6 (by decide) (fun c => ?_) (fun c => ?_)
  · have w := w.1 c
    refine mE.iconst (v := 0) dX7_save_12 (by decide) ?_
    refine mE.istore_n (l2 := [vR 20 0 0, vI a1, vI 0]) dX7_save_13 (by decide) rfl ?_
    exact w
  · have w := w.2 c
    refine mE.bipush (v := -2) dX7_save_9 (by decide) ?_
    exact mE.iret dX7_save_11 rfl rfl w
theorem w7_save_14 {y1 : Int32} {y2 : Int32} {h : mH} {Q : mV → mH → Prop} (w : (470 ≤ y2 → vp_in y1 2 ∧ (vp_in 2 470 ∧ (Q (vI (h.1 21 0 0 ((2 : Int32).toNatClampNeg))) (pI h 25 0 0 y1.toNatClampNeg 1)))) ∧ (¬ 470 ≤ y2 → vp_in y2 470 ∧ (vp_in ((y1 * 470) + y2) 940 ∧ (mE M7_save 14 [vR 20 0 0, vI y1, vI (y2 + 1)] [] (pI h 24 0 0 (((y1 * 470) + y2).toNatClampNeg) (h.1 21 0 0 y2.toNatClampNeg)) Q)))) : mE M7_save 14 [vR 20 0 0, vI y1, vI y2] [] h Q := by
  refine mE.iload_n dX7_save_14 rfl ?_
  refine mE.sipush (v := 470) dX7_save_15 (by decide) ?_
  refine mE.icmp_ge (tgt := 45) dX7_save_18 (by decide) (fun c => ?_) (fun c => ?_)
  · have w := w.1 c
    refine mE.aload_n dX7_save_45 rfl ?_
    refine mE.getf (w := .inr (.inr (some (25, 0, 0)))) dX7_save_46 f7_22 rfl ?_
    refine mE.iload_n dX7_save_49 rfl ?_
    refine mE.iconst (v := 1) dX7_save_50 (by decide) ?_
    refine mE.zast dX7_save_51 rfl rfl (fun _ _ _ _ => rfl) w.1 rfl ?_
    have w := w.2
    refine mE.aload_n dX7_save_52 rfl ?_
    refine mE.getf (w := .inr (.inr (some (21, 0, 0)))) dX7_save_53 f7_7 rfl ?_
    refine mE.iconst (v := 2) dX7_save_56 (by decide) ?_
    refine mE.iald (x := h.1 21 0 0 ((2 : Int32).toNatClampNeg)) dX7_save_57 rfl rfl w.1 rfl ?_
    have w := w.2
    exact mE.iret dX7_save_58 rfl rfl w
  · have w := w.2 c
    refine mE.aload_n dX7_save_21 rfl ?_
    refine mE.getf (w := .inr (.inr (some (24, 0, 0)))) dX7_save_22 f7_19 rfl ?_
    refine mE.iload_n dX7_save_25 rfl ?_
    refine mE.sipush (v := 470) dX7_save_26 (by decide) ?_
    refine mE.imul dX7_save_29 ?_
    refine mE.iload_n dX7_save_30 rfl ?_
    refine mE.iadd dX7_save_31 ?_
    refine mE.aload_n dX7_save_32 rfl ?_
    refine mE.getf (w := .inr (.inr (some (21, 0, 0)))) dX7_save_33 f7_7 rfl ?_
    refine mE.iload_n dX7_save_36 rfl ?_
    refine mE.iald (x := h.1 21 0 0 y2.toNatClampNeg) dX7_save_37 rfl rfl w.1 rfl ?_
    have w := w.2
    refine mE.iast dX7_save_38 rfl rfl (fun _ _ _ _ => rfl) w.1 ?_
    have w := w.2
    refine mE.iinc (v := y2 + 1) (l2 := [vR 20 0 0, vI y1, vI (y2 + 1)]) dX7_save_39 rfl rfl (by decide) rfl ?_
    refine mE.goto (tgt := 14) dX7_save_42 (by decide) ?_
    exact w
theorem w7_restore {a1 : Int32} {h : mH} {Q : mV → mH → Prop} (w : mC M7_in [.inl a1, .inl 0, .inl 1] h (kI (fun x777 h776 => (¬ x777 = 0 → vp_in a1 2 ∧ ((¬ (h776.1 25 0 0 a1.toNatClampNeg) = 0 → mC M7_record [.inr (.inr (some (20, 0, 0)))] h776 (kV (fun h778 => mE M7_restore 30 [vR 20 0 0, vI a1, vI 0] [] h778 Q))) ∧ ((h776.1 25 0 0 a1.toNatClampNeg) = 0 → Q (vI (-5)) h776))) ∧ (x777 = 0 → Q (vI (-2)) h776)))) : mC M7_restore [.inr (.inr (some (20, 0, 0))), .inl a1] h Q := by
  show mE M7_restore 0 [vR 20 0 0, vI a1, vU] [] h Q
  refine mE.iload_n dX7_restore_0 rfl ?_
  refine mE.iconst (v := 0) dX7_restore_1 (by decide) ?_
  refine mE.iconst (v := 1) dX7_restore_2 (by decide) ?_
  refine mE.callS (as := [.inl a1, .inl 0, .inl 1]) (st := []) dX7_restore_3 cf7_restore_54 rfl rfl (Nat.le_of_ble_eq_true rfl) (fun _ => Nat.le_of_ble_eq_true rfl) w (kI_on (fun x777 h776 w => ?_))
  refine mE.if_ne (tgt := 12) dX7_restore_6 (by decide) (fun c => ?_) (fun c => ?_)
  · have w := w.1 c
    refine mE.aload_n dX7_restore_12 rfl ?_
    refine mE.getf (w := .inr (.inr (some (25, 0, 0)))) dX7_restore_13 f7_22 rfl ?_
    refine mE.iload_n dX7_restore_16 rfl ?_
    refine mE.zald (x := h776.1 25 0 0 a1.toNatClampNeg) dX7_restore_17 rfl rfl w.1 rfl ?_
    have w := w.2
    refine mE.if_ne (tgt := 24) dX7_restore_18 (by decide) (fun c => ?_) (fun c => ?_)
    · have w := w.1 c
      refine mE.aload_n dX7_restore_24 rfl ?_
      refine mE.callV (as := []) (k := 20) (r := 0) (i := 0) (st := []) dX7_restore_25 cf7_restore_115 rfl rfl (Nat.le_of_ble_eq_true rfl) (fun _ => Nat.le_of_ble_eq_true rfl) w (kV_on (fun h778 w => ?_))
      refine mE.iconst (v := 0) dX7_restore_28 (by decide) ?_
      refine mE.istore_n (l2 := [vR 20 0 0, vI a1, vI 0]) dX7_restore_29 (by decide) rfl ?_
      exact w
    · have w := w.2 c
      refine mE.bipush (v := -5) dX7_restore_21 (by decide) ?_
      exact mE.iret dX7_restore_23 rfl rfl w
  · have w := w.2 c
    refine mE.bipush (v := -2) dX7_restore_9 (by decide) ?_
    exact mE.iret dX7_restore_11 rfl rfl w
theorem w7_restore_30 {y1 : Int32} {y2 : Int32} {h : mH} {Q : mV → mH → Prop} (w : (470 ≤ y2 → vp_in 2 470 ∧ (Q (vI (h.1 21 0 0 ((2 : Int32).toNatClampNeg))) h)) ∧ (¬ 470 ≤ y2 → vp_in ((y1 * 470) + y2) 940 ∧ (vp_in y2 470 ∧ (mE M7_restore 30 [vR 20 0 0, vI y1, vI (y2 + 1)] [] (pI h 21 0 0 y2.toNatClampNeg (h.1 24 0 0 (((y1 * 470) + y2).toNatClampNeg))) Q)))) : mE M7_restore 30 [vR 20 0 0, vI y1, vI y2] [] h Q := by
  refine mE.iload_n dX7_restore_30 rfl ?_
  refine mE.sipush (v := 470) dX7_restore_31 (by decide) ?_
  refine mE.icmp_ge (tgt := 61) dX7_restore_34 (by decide) (fun c => ?_) (fun c => ?_)
  · have w := w.1 c
    refine mE.aload_n dX7_restore_61 rfl ?_
    refine mE.getf (w := .inr (.inr (some (21, 0, 0)))) dX7_restore_62 f7_7 rfl ?_
    refine mE.iconst (v := 2) dX7_restore_65 (by decide) ?_
    refine mE.iald (x := h.1 21 0 0 ((2 : Int32).toNatClampNeg)) dX7_restore_66 rfl rfl w.1 rfl ?_
    have w := w.2
    exact mE.iret dX7_restore_67 rfl rfl w
  · have w := w.2 c
    refine mE.aload_n dX7_restore_37 rfl ?_
    refine mE.getf (w := .inr (.inr (some (21, 0, 0)))) dX7_restore_38 f7_7 rfl ?_
    refine mE.iload_n dX7_restore_41 rfl ?_
    refine mE.aload_n dX7_restore_42 rfl ?_
    refine mE.getf (w := .inr (.inr (some (24, 0, 0)))) dX7_restore_43 f7_19 rfl ?_
    refine mE.iload_n dX7_restore_46 rfl ?_
    refine mE.sipush (v := 470) dX7_restore_47 (by decide) ?_
    refine mE.imul dX7_restore_50 ?_
    refine mE.iload_n dX7_restore_51 rfl ?_
    refine mE.iadd dX7_restore_52 ?_
    refine mE.iald (x := h.1 24 0 0 (((y1 * 470) + y2).toNatClampNeg)) dX7_restore_53 rfl rfl w.1 rfl ?_
    have w := w.2
    refine mE.iast dX7_restore_54 rfl rfl (fun _ _ _ _ => rfl) w.1 ?_
    have w := w.2
    refine mE.iinc (v := y2 + 1) (l2 := [vR 20 0 0, vI y1, vI (y2 + 1)]) dX7_restore_55 rfl rfl (by decide) rfl ?_
    refine mE.goto (tgt := 30) dX7_restore_58 (by decide) ?_
    exact w
