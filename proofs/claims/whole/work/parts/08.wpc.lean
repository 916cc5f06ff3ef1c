/-! written by wip/gen/mmgen.py: the landed class -/
theorem w0_arrive {r : Nat} {i : Nat} {a1 : Int32} {a2 : Int32} {a3 : Int32} {a4 : Int32} {h : mH} {Q : mV → mH → Prop} (w : Q vU (pI (pI (pI (pI (pI (pI (pI (pI (pI (pI h 5 r i 1 a1) 5 r i 2 0) 5 r i 3 a2) 5 r i 4 a3) 5 r i 5 a4) 5 r i 6 0) 5 r i 7 0) 5 r i 8 0) 5 r i 9 0) 5 r i 10 0)) : mC M0_arrive [.inr (.inr (some (5, r, i))), .inl a1, .inl a2, .inl a3, .inl a4] h Q := by
  show mE M0_arrive 0 [vR 5 r i, vI a1, vI a2, vI a3, vI a4] [] h Q
  refine mE.aload_n dX0_arrive_0 rfl ?_
  refine mE.iload_n dX0_arrive_1 rfl ?_
  refine mE.putf dX0_arrive_2 p0_15 (fun _ _ _ => rfl) rfl rfl ?_
  refine mE.aload_n dX0_arrive_5 rfl ?_
  refine mE.iconst (v := 0) dX0_arrive_6 (by decide) ?_
  refine mE.putf dX0_arrive_7 p0_18 (fun _ _ _ => rfl) rfl rfl ?_
  refine mE.aload_n dX0_arrive_10 rfl ?_
  refine mE.iload_n dX0_arrive_11 rfl ?_
  refine mE.putf dX0_arrive_12 p0_21 (fun _ _ _ => rfl) rfl rfl ?_
  refine mE.aload_n dX0_arrive_15 rfl ?_
  refine mE.iload_n dX0_arrive_16 rfl ?_
  refine mE.putf dX0_arrive_17 p0_24 (fun _ _ _ => rfl) rfl rfl ?_
  refine mE.aload_n dX0_arrive_20 rfl ?_
  refine mE.iload dX0_arrive_21 rfl ?_
  refine mE.putf dX0_arrive_23 p0_27 (fun _ _ _ => rfl) rfl rfl ?_
  refine mE.aload_n dX0_arrive_26 rfl ?_
  refine mE.iconst (v := 0) dX0_arrive_27 (by decide) ?_
  refine mE.putf dX0_arrive_28 p0_30 (fun _ _ _ => rfl) rfl rfl ?_
  refine mE.aload_n dX0_arrive_31 rfl ?_
  refine mE.iconst (v := 0) dX0_arrive_32 (by decide) ?_
  refine mE.putf dX0_arrive_33 p0_34 (fun _ _ _ => rfl) rfl rfl ?_
  refine mE.aload_n dX0_arrive_36 rfl ?_
  refine mE.iconst (v := 0) dX0_arrive_37 (by decide) ?_
  refine mE.putf dX0_arrive_38 p0_37 (fun _ _ _ => rfl) rfl rfl ?_
  refine mE.aload_n dX0_arrive_41 rfl ?_
  refine mE.iconst (v := 0) dX0_arrive_42 (by decide) ?_
  refine mE.putf dX0_arrive_43 p0_40 (fun _ _ _ => rfl) rfl rfl ?_
  refine mE.aload_n dX0_arrive_46 rfl ?_
  refine mE.iconst (v := 0) dX0_arrive_47 (by decide) ?_
  refine mE.putf dX0_arrive_48 p0_43 (fun _ _ _ => rfl) rfl rfl ?_
  exact mE.vret dX0_arrive_51 rfl w
theorem w0_become {r : Nat} {i : Nat} {r1 : Nat} {i1 : Nat} {h : mH} {Q : mV → mH → Prop} (w : (h.1 5 r1 i1 6 = 0 ∨ h.1 5 r1 i1 6 = 1) ∧ ((h.1 5 r1 i1 7 = 0 ∨ h.1 5 r1 i1 7 = 1) ∧ (Q vU (pI (pI (pI (pI (pI (pI (pI (pI (pI (pI h 5 r i 1 (h.1 5 r1 i1 1)) 5 r i 2 (h.1 5 r1 i1 2)) 5 r i 3 (h.1 5 r1 i1 3)) 5 r i 4 (h.1 5 r1 i1 4)) 5 r i 5 (h.1 5 r1 i1 5)) 5 r i 6 (h.1 5 r1 i1 6)) 5 r i 7 (h.1 5 r1 i1 7)) 5 r i 8 (h.1 5 r1 i1 8)) 5 r i 9 (h.1 5 r1 i1 9)) 5 r i 10 (h.1 5 r1 i1 10))))) : mC M0_become [.inr (.inr (some (5, r, i))), .inr (.inr (some (5, r1, i1)))] h Q := by
  show mE M0_become 0 [vR 5 r i, vR 5 r1 i1] [] h Q
  refine mE.aload_n dX0_become_0 rfl ?_
  refine mE.aload_n dX0_become_1 rfl ?_
  refine mE.getf (w := .inl (h.1 5 r1 i1 1)) dX0_become_2 f0_15 rfl ?_
  refine mE.putf dX0_become_5 p0_15 (fun _ _ _ => rfl) rfl rfl ?_
  refine mE.aload_n dX0_become_8 rfl ?_
  refine mE.aload_n dX0_become_9 rfl ?_
  refine mE.getf (w := .inl (h.1 5 r1 i1 2)) dX0_become_10 f0_18 rfl ?_
  refine mE.putf dX0_become_13 p0_18 (fun _ _ _ => rfl) rfl rfl ?_
  refine mE.aload_n dX0_become_16 rfl ?_
  refine mE.aload_n dX0_become_17 rfl ?_
  refine mE.getf (w := .inl (h.1 5 r1 i1 3)) dX0_become_18 f0_21 rfl ?_
  refine mE.putf dX0_become_21 p0_21 (fun _ _ _ => rfl) rfl rfl ?_
  refine mE.aload_n dX0_become_24 rfl ?_
  refine mE.aload_n dX0_become_25 rfl ?_
  refine mE.getf (w := .inl (h.1 5 r1 i1 4)) dX0_become_26 f0_24 rfl ?_
  refine mE.putf dX0_become_29 p0_24 (fun _ _ _ => rfl) rfl rfl ?_
  refine mE.aload_n dX0_become_32 rfl ?_
  refine mE.aload_n dX0_become_33 rfl ?_
  refine mE.getf (w := .inl (h.1 5 r1 i1 5)) dX0_become_34 f0_27 rfl ?_
  refine mE.putf dX0_become_37 p0_27 (fun _ _ _ => rfl) rfl rfl ?_
  refine mE.aload_n dX0_become_40 rfl ?_
  refine mE.aload_n dX0_become_41 rfl ?_
  refine mE.getf (w := .inl (h.1 5 r1 i1 6)) dX0_become_42 f0_30 rfl ?_
  refine mE.putf dX0_become_45 p0_30 (fun _ _ _ => rfl) (nar_b w.1) (fit_b w.1) ?_
  have w := w.2
  refine mE.aload_n dX0_become_48 rfl ?_
  refine mE.aload_n dX0_become_49 rfl ?_
  refine mE.getf (w := .inl (h.1 5 r1 i1 7)) dX0_become_50 f0_34 rfl ?_
  refine mE.putf dX0_become_53 p0_34 (fun _ _ _ => rfl) (nar_b w.1) (fit_b w.1) ?_
  have w := w.2
  refine mE.aload_n dX0_become_56 rfl ?_
  refine mE.aload_n dX0_become_57 rfl ?_
  refine mE.getf (w := .inl (h.1 5 r1 i1 8)) dX0_become_58 f0_37 rfl ?_
  refine mE.putf dX0_become_61 p0_37 (fun _ _ _ => rfl) rfl rfl ?_
  refine mE.aload_n dX0_become_64 rfl ?_
  refine mE.aload_n dX0_become_65 rfl ?_
  refine mE.getf (w := .inl (h.1 5 r1 i1 9)) dX0_become_66 f0_40 rfl ?_
  refine mE.putf dX0_become_69 p0_40 (fun _ _ _ => rfl) rfl rfl ?_
  refine mE.aload_n dX0_become_72 rfl ?_
  refine mE.aload_n dX0_become_73 rfl ?_
  refine mE.getf (w := .inl (h.1 5 r1 i1 10)) dX0_become_74 f0_43 rfl ?_
  refine mE.putf dX0_become_77 p0_43 (fun _ _ _ => rfl) rfl rfl ?_
  exact mE.vret dX0_become_80 rfl w
theorem w0_last {r : Nat} {i : Nat} {h : mH} {Q : mV → mH → Prop} (w : Q (vI (((h.1 5 r i 2) - (h.1 5 r i 3)) + 1)) h) : mC M0_last [.inr (.inr (some (5, r, i)))] h Q := by
  show mE M0_last 0 [vR 5 r i] [] h Q
  refine mE.aload_n dX0_last_0 rfl ?_
  refine mE.getf (w := .inl (h.1 5 r i 2)) dX0_last_1 f0_18 rfl ?_
  refine mE.aload_n dX0_last_4 rfl ?_
  refine mE.getf (w := .inl (h.1 5 r i 3)) dX0_last_5 f0_21 rfl ?_
  refine mE.isub dX0_last_8 ?_
  refine mE.iconst (v := 1) dX0_last_9 (by decide) ?_
  refine mE.iadd dX0_last_10 ?_
  exact mE.iret dX0_last_11 rfl rfl w
theorem w0_about {r : Nat} {i : Nat} {a1 : Int32} {h : mH} {Q : mV → mH → Prop} (w : (a1 = 0 → Q (vI (h.1 5 r i 1)) h) ∧ (a1 = 1 → Q (vI (h.1 5 r i 2)) h) ∧ (a1 = 2 → Q (vI (h.1 5 r i 3)) h) ∧ (a1 = 3 → Q (vI (h.1 5 r i 4)) h) ∧ (a1 = 4 → Q (vI (h.1 5 r i 5)) h) ∧ (a1 = 5 → ((h.1 5 r i 6) = 0 → Q (vI 0) h) ∧ (¬ (h.1 5 r i 6) = 0 → Q (vI 1) h)) ∧ (a1 = 6 → ((h.1 5 r i 7) = 0 → Q (vI 0) h) ∧ (¬ (h.1 5 r i 7) = 0 → Q (vI 1) h)) ∧ (a1 = 7 → Q (vI (h.1 5 r i 8)) h) ∧ (a1 = 8 → Q (vI (h.1 5 r i 9)) h) ∧ (¬ a1 = 0 → ¬ a1 = 1 → ¬ a1 = 2 → ¬ a1 = 3 → ¬ a1 = 4 → ¬ a1 = 5 → ¬ a1 = 6 → ¬ a1 = 7 → ¬ a1 = 8 → Q (vI (-2)) h)) : mC M0_about [.inr (.inr (some (5, r, i))), .inl a1] h Q := by
  show mE M0_about 0 [vR 5 r i, vI a1] [] h Q
  refine mE.iload_n dX0_about_0 rfl ?_
  by_cases c0 : a1 = 0
  · have w := w.1 c0
    refine mE.tabIn (v := 0) (off := 51) (tgt := 52) dX0_about_1 (by rw [c0]; decide) (by decide) (by decide) rfl (by decide) ?_
    refine mE.aload_n dX0_about_52 rfl ?_
    refine mE.getf (w := .inl (h.1 5 r i 1)) dX0_about_53 f0_15 rfl ?_
    exact mE.iret dX0_about_56 rfl rfl w
  · have w := w.2
    by_cases c1 : a1 = 1
    · have w := w.1 c1
      refine mE.tabIn (v := 1) (off := 56) (tgt := 57) dX0_about_1 (by rw [c1]; decide) (by decide) (by decide) rfl (by decide) ?_
      refine mE.aload_n dX0_about_57 rfl ?_
      refine mE.getf (w := .inl (h.1 5 r i 2)) dX0_about_58 f0_18 rfl ?_
      exact mE.iret dX0_about_61 rfl rfl w
    · have w := w.2
      by_cases c2 : a1 = 2
      · have w := w.1 c2
        refine mE.tabIn (v := 2) (off := 61) (tgt := 62) dX0_about_1 (by rw [c2]; decide) (by decide) (by decide) rfl (by decide) ?_
        refine mE.aload_n dX0_about_62 rfl ?_
        refine mE.getf (w := .inl (h.1 5 r i 3)) dX0_about_63 f0_21 rfl ?_
        exact mE.iret dX0_about_66 rfl rfl w
      · have w := w.2
        by_cases c3 : a1 = 3
        · have w := w.1 c3
          refine mE.tabIn (v := 3) (off := 66) (tgt := 67) dX0_about_1 (by rw [c3]; decide) (by decide) (by decide) rfl (by decide) ?_
          refine mE.aload_n dX0_about_67 rfl ?_
          refine mE.getf (w := .inl (h.1 5 r i 4)) dX0_about_68 f0_24 rfl ?_
          exact mE.iret dX0_about_71 rfl rfl w
        · have w := w.2
          by_cases c4 : a1 = 4
          · have w := w.1 c4
            refine mE.tabIn (v := 4) (off := 71) (tgt := 72) dX0_about_1 (by rw [c4]; decide) (by decide) (by decide) rfl (by decide) ?_
            refine mE.aload_n dX0_about_72 rfl ?_
            refine mE.getf (w := .inl (h.1 5 r i 5)) dX0_about_73 f0_27 rfl ?_
            exact mE.iret dX0_about_76 rfl rfl w
          · have w := w.2
            by_cases c5 : a1 = 5
            · have w := w.1 c5
              refine mE.tabIn (v := 5) (off := 76) (tgt := 77) dX0_about_1 (by rw [c5]; decide) (by decide) (by decide) rfl (by decide) ?_
              refine mE.aload_n dX0_about_77 rfl ?_
              refine mE.getf (w := .inl (h.1 5 r i 6)) dX0_about_78 f0_30 rfl ?_
              refine mE.if_eq (tgt := 88) dX0_about_81 (by decide) (fun c => ?_) (fun c => ?_)
              · have w := w.1 c
                refine mE.iconst (v := 0) dX0_about_88 (by decide) ?_
                exact mE.iret dX0_about_89 rfl rfl w
              · have w := w.2 c
                refine mE.iconst (v := 1) dX0_about_84 (by decide) ?_
                refine mE.goto (tgt := 89) dX0_about_85 (by decide) ?_
                exact mE.iret dX0_about_89 rfl rfl w
            · have w := w.2
              by_cases c6 : a1 = 6
              · have w := w.1 c6
                refine mE.tabIn (v := 6) (off := 89) (tgt := 90) dX0_about_1 (by rw [c6]; decide) (by decide) (by decide) rfl (by decide) ?_
                refine mE.aload_n dX0_about_90 rfl ?_
                refine mE.getf (w := .inl (h.1 5 r i 7)) dX0_about_91 f0_34 rfl ?_
                refine mE.if_eq (tgt := 101) dX0_about_94 (by decide) (fun c => ?_) (fun c => ?_)
                · have w := w.1 c
                  refine mE.iconst (v := 0) dX0_about_101 (by decide) ?_
                  exact mE.iret dX0_about_102 rfl rfl w
                · have w := w.2 c
                  refine mE.iconst (v := 1) dX0_about_97 (by decide) ?_
                  refine mE.goto (tgt := 102) dX0_about_98 (by decide) ?_
                  exact mE.iret dX0_about_102 rfl rfl w
              · have w := w.2
                by_cases c7 : a1 = 7
                · have w := w.1 c7
                  refine mE.tabIn (v := 7) (off := 102) (tgt := 103) dX0_about_1 (by rw [c7]; decide) (by decide) (by decide) rfl (by decide) ?_
                  refine mE.aload_n dX0_about_103 rfl ?_
                  refine mE.getf (w := .inl (h.1 5 r i 8)) dX0_about_104 f0_37 rfl ?_
                  exact mE.iret dX0_about_107 rfl rfl w
                · have w := w.2
                  by_cases c8 : a1 = 8
                  · have w := w.1 c8
                    refine mE.tabIn (v := 8) (off := 107) (tgt := 108) dX0_about_1 (by rw [c8]; decide) (by decide) (by decide) rfl (by decide) ?_
                    refine mE.aload_n dX0_about_108 rfl ?_
                    refine mE.getf (w := .inl (h.1 5 r i 9)) dX0_about_109 f0_40 rfl ?_
                    exact mE.iret dX0_about_112 rfl rfl w
                  · have w := w.2
                    have w := w c0 c1 c2 c3 c4 c5 c6 c7 c8
                    refine mE.tabOut (tgt := 113) dX0_about_1 (by have e0 := lv_neT c0 (a := 0) (by decide); have e1 := lv_neT c1 (a := 1) (by decide); have e2 := lv_neT c2 (a := 2) (by decide); have e3 := lv_neT c3 (a := 3) (by decide); have e4 := lv_neT c4 (a := 4) (by decide); have e5 := lv_neT c5 (a := 5) (by decide); have e6 := lv_neT c6 (a := 6) (by decide); have e7 := lv_neT c7 (a := 7) (by decide); have e8 := lv_neT c8 (a := 8) (by decide); omega) (by decide) ?_
                    refine mE.bipush (v := -2) dX0_about_113 (by decide) ?_
                    exact mE.iret dX0_about_115 rfl rfl w
theorem w1_note {r1 : Nat} {h : mH} {Q : mV → mH → Prop} (w : mC M1_notedState [.inr (.inr (some (11, 0, 0)))] h (kR0 (fun h1 => Q vU h1) (fun r2 c3 h1 => mC M4_become [.inr (.inr (some (0, r2, c3))), .inr (.inr (some (0, r1, 0)))] h1 (kV (fun h4 => Q vU h4))))) : mC M1_note [.inr (.inr (some (11, 0, 0))), .inr (.inr (some (0, r1, 0)))] h Q := by
  show mE M1_note 0 [vR 11 0 0, vR 0 r1 0, vU] [] h Q
  refine mE.aload_n dX1_note_0 rfl ?_
  refine mE.callV (as := []) (k := 11) (r := 0) (i := 0) (st := []) dX1_note_1 cf1_note_18 rfl rfl (Nat.le_of_ble_eq_true rfl) (fun _ => Nat.le_of_ble_eq_true rfl) w (kR0_on (fun h1 w => ?_) (fun r2 c3 h1 w => ?_))
  · refine mE.astore_nN (l2 := [vR 11 0 0, vR 0 r1 0, vN]) dX1_note_4 (by decide) rfl ?_
    refine mE.aload_nN dX1_note_5 rfl ?_
    refine mE.ifnullN (tgt := 14) dX1_note_6 (by decide) ?_
    exact mE.vret dX1_note_14 rfl w
  · refine mE.astore_n (l2 := [vR 11 0 0, vR 0 r1 0, vR 0 r2 c3]) dX1_note_4 (by decide) rfl ?_
    refine mE.aload_n dX1_note_5 rfl ?_
    refine mE.ifnullR dX1_note_6 ?_
    refine mE.aload_n dX1_note_9 rfl ?_
    refine mE.aload_n dX1_note_10 rfl ?_
    refine mE.callV (as := [.inr (.inr (some (0, r1, 0)))]) (k := 0) (r := r2) (i := c3) (st := []) dX1_note_11 cf1_note_22 rfl rfl (Nat.le_of_ble_eq_true rfl) (fun _ => Nat.le_of_ble_eq_true rfl) w (kV_on (fun h4 w => ?_))
    exact mE.vret dX1_note_14 rfl w
theorem w1_keep  {h : mH} {Q : mV → mH → Prop} (w : (7 ≤ ((h.1 11 0 0 1) + 1) → Q vU (pI (pI h 11 0 0 1 0) 11 0 0 2 (if 6 < ((h.1 11 0 0 2) + 1) then 6 else (h.1 11 0 0 2) + 1))) ∧ (¬ 7 ≤ ((h.1 11 0 0 1) + 1) → Q vU (pI (pI h 11 0 0 1 ((h.1 11 0 0 1) + 1)) 11 0 0 2 (if 6 < ((h.1 11 0 0 2) + 1) then 6 else (h.1 11 0 0 2) + 1)))) : mC M1_keep [.inr (.inr (some (11, 0, 0)))] h Q := by
  show mE M1_keep 0 [vR 11 0 0] [] h Q
  refine mE.aload_n dX1_keep_0 rfl ?_
  refine mE.aload_n dX1_keep_1 rfl ?_
  refine mE.getf (w := .inl (h.1 11 0 0 1)) dX1_keep_2 f1_26 rfl ?_
  refine mE.iconst (v := 1) dX1_keep_5 (by decide) ?_
  refine mE.iadd dX1_keep_6 ?_
  refine mE.aload_n dX1_keep_7 rfl ?_
  refine mE.getf (w := .inr (.inr (some (12, 0, 0)))) dX1_keep_8 f1_11 rfl ?_
  refine mE.alen (v := 7) dX1_keep_11 rfl (by decide) ?_
  refine mE.icmp_ge (tgt := 24) dX1_keep_12 (by decide) (fun c => ?_) (fun c => ?_)
  · have w := w.1 c
    refine mE.iconst (v := 0) dX1_keep_24 (by decide) ?_
    refine mE.putf dX1_keep_25 p1_26 (fun _ _ _ => rfl) rfl rfl ?_
    refine mE.aload_n dX1_keep_28 rfl ?_
    refine mE.aload_n dX1_keep_29 rfl ?_
    refine mE.getf (w := .inl (h.1 11 0 0 2)) dX1_keep_30 f1_30 rfl ?_
    refine mE.iconst (v := 1) dX1_keep_33 (by decide) ?_
    refine mE.iadd dX1_keep_34 ?_
    refine mE.bipush (v := 6) dX1_keep_35 (by decide) ?_
    refine mE.mmin dX1_keep_37 ml1_33 mj_min.1 mj_min.2.1 mj_min.2.2 ⟨by decide, by decide⟩ (fun _ => Nat.le_of_ble_eq_true rfl) ?_
    refine mE.putf dX1_keep_40 p1_30 (fun _ _ _ => rfl) rfl rfl ?_
    exact mE.vret dX1_keep_43 rfl w
  · have w := w.2 c
    refine mE.aload_n dX1_keep_15 rfl ?_
    refine mE.getf (w := .inl (h.1 11 0 0 1)) dX1_keep_16 f1_26 rfl ?_
    refine mE.iconst (v := 1) dX1_keep_19 (by decide) ?_
    refine mE.iadd dX1_keep_20 ?_
    refine mE.goto (tgt := 25) dX1_keep_21 (by decide) ?_
    refine mE.putf dX1_keep_25 p1_26 (fun _ _ _ => rfl) rfl rfl ?_
    refine mE.aload_n dX1_keep_28 rfl ?_
    refine mE.aload_n dX1_keep_29 rfl ?_
    refine mE.getf (w := .inl (h.1 11 0 0 2)) dX1_keep_30 f1_30 rfl ?_
    refine mE.iconst (v := 1) dX1_keep_33 (by decide) ?_
    refine mE.iadd dX1_keep_34 ?_
    refine mE.bipush (v := 6) dX1_keep_35 (by decide) ?_
    refine mE.mmin dX1_keep_37 ml1_33 mj_min.1 mj_min.2.1 mj_min.2.2 ⟨by decide, by decide⟩ (fun _ => Nat.le_of_ble_eq_true rfl) ?_
    refine mE.putf dX1_keep_40 p1_30 (fun _ _ _ => rfl) rfl rfl ?_
    exact mE.vret dX1_keep_43 rfl w
theorem w1_stepBack {r1 : Nat} {h : mH} {Q : mV → mH → Prop} (w : (0 < (h.1 11 0 0 2) → ((h.1 11 0 0 1) ≤ 0 → mC M1_notedState [.inr (.inr (some (11, 0, 0)))] (pI (pI h 11 0 0 2 ((h.1 11 0 0 2) - 1)) 11 0 0 1 (7 - 1)) (kR0 (fun h5 => Q (vI (h5.1 11 0 0 2)) h5) (fun r6 c7 h5 => mC M4_become [.inr (.inr (some (0, r1, 0))), .inr (.inr (some (0, r6, c7)))] h5 (kV (fun h8 => Q (vI (h8.1 11 0 0 2)) h8))))) ∧ (¬ (h.1 11 0 0 1) ≤ 0 → mC M1_notedState [.inr (.inr (some (11, 0, 0)))] (pI (pI h 11 0 0 2 ((h.1 11 0 0 2) - 1)) 11 0 0 1 ((h.1 11 0 0 1) - 1)) (kR0 (fun h9 => Q (vI (h9.1 11 0 0 2)) h9) (fun r10 c11 h9 => mC M4_become [.inr (.inr (some (0, r1, 0))), .inr (.inr (some (0, r10, c11)))] h9 (kV (fun h12 => Q (vI (h12.1 11 0 0 2)) h12)))))) ∧ (¬ 0 < (h.1 11 0 0 2) → Q (vI (-5)) h)) : mC M1_stepBack [.inr (.inr (some (11, 0, 0))), .inr (.inr (some (0, r1, 0)))] h Q := by
  show mE M1_stepBack 0 [vR 11 0 0, vR 0 r1 0, vU] [] h Q
  refine mE.aload_n dX1_stepBack_0 rfl ?_
  refine mE.getf (w := .inl (h.1 11 0 0 2)) dX1_stepBack_1 f1_30 rfl ?_
  refine mE.if_gt (tgt := 10) dX1_stepBack_4 (by decide) (fun c => ?_) (fun c => ?_)
  · have w := w.1 c
    refine mE.aload_n dX1_stepBack_10 rfl ?_
    refine mE.dupR dX1_stepBack_11 ?_
    refine mE.getf (w := .inl (h.1 11 0 0 2)) dX1_stepBack_12 f1_30 rfl ?_
    refine mE.iconst (v := 1) dX1_stepBack_15 (by decide) ?_
    refine mE.isub dX1_stepBack_16 ?_
    refine mE.putf dX1_stepBack_17 p1_30 (fun _ _ _ => rfl) rfl rfl ?_
    refine mE.aload_n dX1_stepBack_20 rfl ?_
    refine mE.aload_n dX1_stepBack_21 rfl ?_
    refine mE.getf (w := .inl (h.1 11 0 0 1)) dX1_stepBack_22 f1_26 rfl ?_
    refine mE.if_le (tgt := 37) dX1_stepBack_25 (by decide) (fun c => ?_) (fun c => ?_)
    · have w := w.1 c
      refine mE.aload_n dX1_stepBack_37 rfl ?_
      refine mE.getf (w := .inr (.inr (some (12, 0, 0)))) dX1_stepBack_38 f1_11 rfl ?_
      refine mE.alen (v := 7) dX1_stepBack_41 rfl (by decide) ?_
      refine mE.iconst (v := 1) dX1_stepBack_42 (by decide) ?_
      refine mE.isub dX1_stepBack_43 ?_
      refine mE.putf dX1_stepBack_44 p1_26 (fun _ _ _ => rfl) rfl rfl ?_
      refine mE.aload_n dX1_stepBack_47 rfl ?_
      refine mE.callV (as := []) (k := 11) (r := 0) (i := 0) (st := []) dX1_stepBack_48 cf1_stepBack_18 rfl rfl (Nat.le_of_ble_eq_true rfl) (fun _ => Nat.le_of_ble_eq_true rfl) w (kR0_on (fun h5 w => ?_) (fun r6 c7 h5 w => ?_))
      · refine mE.astore_nN (l2 := [vR 11 0 0, vR 0 r1 0, vN]) dX1_stepBack_51 (by decide) rfl ?_
        refine mE.aload_nN dX1_stepBack_52 rfl ?_
        refine mE.ifnullN (tgt := 61) dX1_stepBack_53 (by decide) ?_
        refine mE.aload_n dX1_stepBack_61 rfl ?_
        refine mE.getf (w := .inl (h5.1 11 0 0 2)) dX1_stepBack_62 f1_30 rfl ?_
        exact mE.iret dX1_stepBack_65 rfl rfl w
      · refine mE.astore_n (l2 := [vR 11 0 0, vR 0 r1 0, vR 0 r6 c7]) dX1_stepBack_51 (by decide) rfl ?_
        refine mE.aload_n dX1_stepBack_52 rfl ?_
        refine mE.ifnullR dX1_stepBack_53 ?_
        refine mE.aload_n dX1_stepBack_56 rfl ?_
        refine mE.aload_n dX1_stepBack_57 rfl ?_
        refine mE.callV (as := [.inr (.inr (some (0, r6, c7)))]) (k := 0) (r := r1) (i := 0) (st := []) dX1_stepBack_58 cf1_stepBack_22 rfl rfl (Nat.le_of_ble_eq_true rfl) (fun _ => Nat.le_of_ble_eq_true rfl) w (kV_on (fun h8 w => ?_))
        refine mE.aload_n dX1_stepBack_61 rfl ?_
        refine mE.getf (w := .inl (h8.1 11 0 0 2)) dX1_stepBack_62 f1_30 rfl ?_
        exact mE.iret dX1_stepBack_65 rfl rfl w
    · have w := w.2 c
      refine mE.aload_n dX1_stepBack_28 rfl ?_
      refine mE.getf (w := .inl (h.1 11 0 0 1)) dX1_stepBack_29 f1_26 rfl ?_
      refine mE.iconst (v := 1) dX1_stepBack_32 (by decide) ?_
      refine mE.isub dX1_stepBack_33 ?_
      refine mE.goto (tgt := 44) dX1_stepBack_34 (by decide) ?_
      refine mE.putf dX1_stepBack_44 p1_26 (fun _ _ _ => rfl) rfl rfl ?_
      refine mE.aload_n dX1_stepBack_47 rfl ?_
      refine mE.callV (as := []) (k := 11) (r := 0) (i := 0) (st := []) dX1_stepBack_48 cf1_stepBack_18 rfl rfl (Nat.le_of_ble_eq_true rfl) (fun _ => Nat.le_of_ble_eq_true rfl) w (kR0_on (fun h9 w => ?_) (fun r10 c11 h9 w => ?_))
      · refine mE.astore_nN (l2 := [vR 11 0 0, vR 0 r1 0, vN]) dX1_stepBack_51 (by decide) rfl ?_
        refine mE.aload_nN dX1_stepBack_52 rfl ?_
        refine mE.ifnullN (tgt := 61) dX1_stepBack_53 (by decide) ?_
        refine mE.aload_n dX1_stepBack_61 rfl ?_
        refine mE.getf (w := .inl (h9.1 11 0 0 2)) dX1_stepBack_62 f1_30 rfl ?_
        exact mE.iret dX1_stepBack_65 rfl rfl w
      · refine mE.astore_n (l2 := [vR 11 0 0, vR 0 r1 0, vR 0 r10 c11]) dX1_stepBack_51 (by decide) rfl ?_
        refine mE.aload_n dX1_stepBack_52 rfl ?_
        refine mE.ifnullR dX1_stepBack_53 ?_
        refine mE.aload_n dX1_stepBack_56 rfl ?_
        refine mE.aload_n dX1_stepBack_57 rfl ?_
        refine mE.callV (as := [.inr (.inr (some (0, r10, c11)))]) (k := 0) (r := r1) (i := 0) (st := []) dX1_stepBack_58 cf1_stepBack_22 rfl rfl (Nat.le_of_ble_eq_true rfl) (fun _ => Nat.le_of_ble_eq_true rfl) w (kV_on (fun h12 w => ?_))
        refine mE.aload_n dX1_stepBack_61 rfl ?_
        refine mE.getf (w := .inl (h12.1 11 0 0 2)) dX1_stepBack_62 f1_30 rfl ?_
        exact mE.iret dX1_stepBack_65 rfl rfl w
  · have w := w.2 c
    refine mE.bipush (v := -5) dX1_stepBack_7 (by decide) ?_
    exact mE.iret dX1_stepBack_9 rfl rfl w
theorem w1_notedState  {h : mH} {Q : mV → mH → Prop} (w : ((h.1 11 0 0 1) < 0 → Q (vN) h) ∧ (¬ (h.1 11 0 0 1) < 0 → (7 ≤ (h.1 11 0 0 1) → Q (vN) h) ∧ (¬ 7 ≤ (h.1 11 0 0 1) → vp_in (h.1 11 0 0 1) 7 ∧ (Q (vR 0 (2 + (h.1 11 0 0 1).toNatClampNeg) 0) h)))) : mC M1_notedState [.inr (.inr (some (11, 0, 0)))] h Q := by
  show mE M1_notedState 0 [vR 11 0 0] [] h Q
  refine mE.aload_n dX1_notedState_0 rfl ?_
  refine mE.getf (w := .inl (h.1 11 0 0 1)) dX1_notedState_1 f1_26 rfl ?_
  refine mE.if_lt (tgt := 31) dX1_notedState_4 (by decide) (fun c => ?_) (fun c => ?_)
  · have w := w.1 c
    refine mE.null dX1_notedState_31 ?_
    exact mE.aret dX1_notedState_32 rfl w
  · have w := w.2 c
    refine mE.aload_n dX1_notedState_7 rfl ?_
    refine mE.getf (w := .inl (h.1 11 0 0 1)) dX1_notedState_8 f1_26 rfl ?_
    refine mE.aload_n dX1_notedState_11 rfl ?_
    refine mE.getf (w := .inr (.inr (some (12, 0, 0)))) dX1_notedState_12 f1_11 rfl ?_
    refine mE.alen (v := 7) dX1_notedState_15 rfl (by decide) ?_
    refine mE.icmp_ge (tgt := 31) dX1_notedState_16 (by decide) (fun c => ?_) (fun c => ?_)
    · have w := w.1 c
      refine mE.null dX1_notedState_31 ?_
      exact mE.aret dX1_notedState_32 rfl w
    · have w := w.2 c
      refine mE.aload_n dX1_notedState_19 rfl ?_
      refine mE.getf (w := .inr (.inr (some (12, 0, 0)))) dX1_notedState_20 f1_11 rfl ?_
      refine mE.aload_n dX1_notedState_23 rfl ?_
      refine mE.getf (w := .inl (h.1 11 0 0 1)) dX1_notedState_24 f1_26 rfl ?_
      refine mE.aald (w := .inr (.inr (some (0, 2 + (h.1 11 0 0 1).toNatClampNeg, 0)))) dX1_notedState_27 rfl rfl w.1 rfl ?_
      have w := w.2
      refine mE.goto (tgt := 32) dX1_notedState_28 (by decide) ?_
      exact mE.aret dX1_notedState_32 rfl w
theorem w2_lay {r : Nat} {i : Nat} {a1 : Int32} {a2 : Int32} {a3 : Int32} {a4 : Int32} {a5 : Int32} {h : mH} {Q : mV → mH → Prop} (w : Q vU (pI (pI (pI (pI (pI (pI (pI (pI (pI h 6 r i 0 a1) 6 r i 1 a2) 6 r i 2 a3) 6 r i 3 a4) 6 r i 4 a5) 6 r i 5 0) 6 r i 6 0) 6 r i 7 0) 6 r i 8 0)) : mC M2_lay [.inr (.inr (some (6, r, i))), .inl a1, .inl a2, .inl a3, .inl a4, .inl a5] h Q := by
  show mE M2_lay 0 [vR 6 r i, vI a1, vI a2, vI a3, vI a4, vI a5] [] h Q
  refine mE.aload_n dX2_lay_0 rfl ?_
  refine mE.iload_n dX2_lay_1 rfl ?_
  refine mE.putf dX2_lay_2 p2_9 (fun _ _ _ => rfl) rfl rfl ?_
  refine mE.aload_n dX2_lay_5 rfl ?_
  refine mE.iload_n dX2_lay_6 rfl ?_
  refine mE.putf dX2_lay_7 p2_15 (fun _ _ _ => rfl) rfl rfl ?_
  refine mE.aload_n dX2_lay_10 rfl ?_
  refine mE.iload_n dX2_lay_11 rfl ?_
  refine mE.putf dX2_lay_12 p2_18 (fun _ _ _ => rfl) rfl rfl ?_
  refine mE.aload_n dX2_lay_15 rfl ?_
  refine mE.iload dX2_lay_16 rfl ?_
  refine mE.putf dX2_lay_18 p2_21 (fun _ _ _ => rfl) rfl rfl ?_
  refine mE.aload_n dX2_lay_21 rfl ?_
  refine mE.iload dX2_lay_22 rfl ?_
  refine mE.putf dX2_lay_24 p2_24 (fun _ _ _ => rfl) rfl rfl ?_
  refine mE.aload_n dX2_lay_27 rfl ?_
  refine mE.iconst (v := 0) dX2_lay_28 (by decide) ?_
  refine mE.putf dX2_lay_29 p2_27 (fun _ _ _ => rfl) rfl rfl ?_
  refine mE.aload_n dX2_lay_32 rfl ?_
  refine mE.iconst (v := 0) dX2_lay_33 (by decide) ?_
  refine mE.putf dX2_lay_34 p2_31 (fun _ _ _ => rfl) rfl rfl ?_
  refine mE.aload_n dX2_lay_37 rfl ?_
  refine mE.iconst (v := 0) dX2_lay_38 (by decide) ?_
  refine mE.putf dX2_lay_39 p2_34 (fun _ _ _ => rfl) rfl rfl ?_
  refine mE.aload_n dX2_lay_42 rfl ?_
  refine mE.iconst (v := 0) dX2_lay_43 (by decide) ?_
  refine mE.putf dX2_lay_44 p2_37 (fun _ _ _ => rfl) rfl rfl ?_
  exact mE.vret dX2_lay_47 rfl w
theorem w2_become {r : Nat} {i : Nat} {r1 : Nat} {i1 : Nat} {h : mH} {Q : mV → mH → Prop} (w : (h.1 6 r1 i1 5 = 0 ∨ h.1 6 r1 i1 5 = 1) ∧ (Q vU (pI (pI (pI (pI (pI (pI (pI (pI (pI h 6 r i 0 (h.1 6 r1 i1 0)) 6 r i 1 (h.1 6 r1 i1 1)) 6 r i 2 (h.1 6 r1 i1 2)) 6 r i 3 (h.1 6 r1 i1 3)) 6 r i 4 (h.1 6 r1 i1 4)) 6 r i 5 (h.1 6 r1 i1 5)) 6 r i 6 (h.1 6 r1 i1 6)) 6 r i 7 (h.1 6 r1 i1 7)) 6 r i 8 (h.1 6 r1 i1 8)))) : mC M2_become [.inr (.inr (some (6, r, i))), .inr (.inr (some (6, r1, i1)))] h Q := by
  show mE M2_become 0 [vR 6 r i, vR 6 r1 i1] [] h Q
  refine mE.aload_n dX2_become_0 rfl ?_
  refine mE.aload_n dX2_become_1 rfl ?_
  refine mE.getf (w := .inl (h.1 6 r1 i1 0)) dX2_become_2 f2_9 rfl ?_
  refine mE.putf dX2_become_5 p2_9 (fun _ _ _ => rfl) rfl rfl ?_
  refine mE.aload_n dX2_become_8 rfl ?_
  refine mE.aload_n dX2_become_9 rfl ?_
  refine mE.getf (w := .inl (h.1 6 r1 i1 1)) dX2_become_10 f2_15 rfl ?_
  refine mE.putf dX2_become_13 p2_15 (fun _ _ _ => rfl) rfl rfl ?_
  refine mE.aload_n dX2_become_16 rfl ?_
  refine mE.aload_n dX2_become_17 rfl ?_
  refine mE.getf (w := .inl (h.1 6 r1 i1 2)) dX2_become_18 f2_18 rfl ?_
  refine mE.putf dX2_become_21 p2_18 (fun _ _ _ => rfl) rfl rfl ?_
  refine mE.aload_n dX2_become_24 rfl ?_
  refine mE.aload_n dX2_become_25 rfl ?_
  refine mE.getf (w := .inl (h.1 6 r1 i1 3)) dX2_become_26 f2_21 rfl ?_
  refine mE.putf dX2_become_29 p2_21 (fun _ _ _ => rfl) rfl rfl ?_
  refine mE.aload_n dX2_become_32 rfl ?_
  refine mE.aload_n dX2_become_33 rfl ?_
  refine mE.getf (w := .inl (h.1 6 r1 i1 4)) dX2_become_34 f2_24 rfl ?_
  refine mE.putf dX2_become_37 p2_24 (fun _ _ _ => rfl) rfl rfl ?_
  refine mE.aload_n dX2_become_40 rfl ?_
  refine mE.aload_n dX2_become_41 rfl ?_
  refine mE.getf (w := .inl (h.1 6 r1 i1 5)) dX2_become_42 f2_27 rfl ?_
  refine mE.putf dX2_become_45 p2_27 (fun _ _ _ => rfl) (nar_b w.1) (fit_b w.1) ?_
  have w := w.2
  refine mE.aload_n dX2_become_48 rfl ?_
  refine mE.aload_n dX2_become_49 rfl ?_
  refine mE.getf (w := .inl (h.1 6 r1 i1 6)) dX2_become_50 f2_31 rfl ?_
  refine mE.putf dX2_become_53 p2_31 (fun _ _ _ => rfl) rfl rfl ?_
  refine mE.aload_n dX2_become_56 rfl ?_
  refine mE.aload_n dX2_become_57 rfl ?_
  refine mE.getf (w := .inl (h.1 6 r1 i1 7)) dX2_become_58 f2_34 rfl ?_
  refine mE.putf dX2_become_61 p2_34 (fun _ _ _ => rfl) rfl rfl ?_
  refine mE.aload_n dX2_become_64 rfl ?_
  refine mE.aload_n dX2_become_65 rfl ?_
  refine mE.getf (w := .inl (h.1 6 r1 i1 8)) dX2_become_66 f2_37 rfl ?_
  refine mE.putf dX2_become_69 p2_37 (fun _ _ _ => rfl) rfl rfl ?_
  exact mE.vret dX2_become_72 rfl w
theorem w2_isUnder {r : Nat} {i : Nat} {r1 : Nat} {i1 : Nat} {h : mH} {Q : mV → mH → Prop} (w : (¬ (h.1 6 r i 0) = (h.1 5 r1 i1 1) → Q (vI 0) h) ∧ ((h.1 6 r i 0) = (h.1 5 r1 i1 1) → ((h.1 5 r1 i1 2) < (h.1 6 r i 1) → Q (vI 0) h) ∧ (¬ (h.1 5 r1 i1 2) < (h.1 6 r i 1) → (((h.1 6 r i 1) + (h.1 6 r i 2)) ≤ (((h.1 5 r1 i1 2) - (h.1 5 r1 i1 3)) + 1) → Q (vI 0) h) ∧ (¬ ((h.1 6 r i 1) + (h.1 6 r i 2)) ≤ (((h.1 5 r1 i1 2) - (h.1 5 r1 i1 3)) + 1) → Q (vI 1) h)))) : mC M2_isUnder [.inr (.inr (some (6, r, i))), .inr (.inr (some (5, r1, i1)))] h Q := by
  show mE M2_isUnder 0 [vR 6 r i, vR 5 r1 i1, vU] [] h Q
  refine mE.aload_n dX2_isUnder_0 rfl ?_
  refine mE.getf (w := .inl (h.1 5 r1 i1 2)) dX2_isUnder_1 f2_40 rfl ?_
  refine mE.aload_n dX2_isUnder_4 rfl ?_
  refine mE.getf (w := .inl (h.1 5 r1 i1 3)) dX2_isUnder_5 f2_45 rfl ?_
  refine mE.isub dX2_isUnder_8 ?_
  refine mE.iconst (v := 1) dX2_isUnder_9 (by decide) ?_
  refine mE.iadd dX2_isUnder_10 ?_
  refine mE.istore_n (l2 := [vR 6 r i, vR 5 r1 i1, vI (((h.1 5 r1 i1 2) - (h.1 5 r1 i1 3)) + 1)]) dX2_isUnder_11 (by decide) rfl ?_
  refine mE.aload_n dX2_isUnder_12 rfl ?_
  refine mE.getf (w := .inl (h.1 6 r i 0)) dX2_isUnder_13 f2_9 rfl ?_
  refine mE.aload_n dX2_isUnder_16 rfl ?_
  refine mE.getf (w := .inl (h.1 5 r1 i1 1)) dX2_isUnder_17 f2_48 rfl ?_
  refine mE.icmp_ne (tgt := 51) dX2_isUnder_20 (by decide) (fun c => ?_) (fun c => ?_)
  · have w := w.1 c
    refine mE.iconst (v := 0) dX2_isUnder_51 (by decide) ?_
    exact mE.iret dX2_isUnder_52 rfl rfl w
  · have w := w.2 c
    refine mE.aload_n dX2_isUnder_23 rfl ?_
    refine mE.getf (w := .inl (h.1 6 r i 1)) dX2_isUnder_24 f2_15 rfl ?_
    refine mE.aload_n dX2_isUnder_27 rfl ?_
    refine mE.getf (w := .inl (h.1 5 r1 i1 2)) dX2_isUnder_28 f2_40 rfl ?_
    refine mE.icmp_gt (tgt := 51) dX2_isUnder_31 (by decide) (fun c => ?_) (fun c => ?_)
    · have w := w.1 c
      refine mE.iconst (v := 0) dX2_isUnder_51 (by decide) ?_
      exact mE.iret dX2_isUnder_52 rfl rfl w
    · have w := w.2 c
      refine mE.iload_n dX2_isUnder_34 rfl ?_
      refine mE.aload_n dX2_isUnder_35 rfl ?_
      refine mE.getf (w := .inl (h.1 6 r i 1)) dX2_isUnder_36 f2_15 rfl ?_
      refine mE.aload_n dX2_isUnder_39 rfl ?_
      refine mE.getf (w := .inl (h.1 6 r i 2)) dX2_isUnder_40 f2_18 rfl ?_
      refine mE.iadd dX2_isUnder_43 ?_
      refine mE.icmp_ge (tgt := 51) dX2_isUnder_44 (by decide) (fun c => ?_) (fun c => ?_)
      · have w := w.1 c
        refine mE.iconst (v := 0) dX2_isUnder_51 (by decide) ?_
        exact mE.iret dX2_isUnder_52 rfl rfl w
      · have w := w.2 c
        refine mE.iconst (v := 1) dX2_isUnder_47 (by decide) ?_
        refine mE.goto (tgt := 52) dX2_isUnder_48 (by decide) ?_
        exact mE.iret dX2_isUnder_52 rfl rfl w
theorem w2_hear {r : Nat} {i : Nat} {a1 : Int32} {h : mH} {Q : mV → mH → Prop} (w : (¬ (h.1 6 r i 5) = 0 → ((h.1 6 r i 5) = 0 → Q vU (pI h 6 r i 8 ((h.1 6 r i 8) + 1))) ∧ (¬ (h.1 6 r i 5) = 0 → ((h.1 6 r i 4) ≤ a1 → Q vU (pI h 6 r i 8 ((h.1 6 r i 8) + 1))) ∧ (¬ (h.1 6 r i 4) ≤ a1 → Q vU (pI (pI h 6 r i 8 ((h.1 6 r i 8) + 1)) 6 r i 5 0)))) ∧ ((h.1 6 r i 5) = 0 → (a1 < (h.1 6 r i 3) → ((h.1 6 r i 5) = 0 → Q vU (pI h 6 r i 8 ((h.1 6 r i 8) + 1))) ∧ (¬ (h.1 6 r i 5) = 0 → ((h.1 6 r i 4) ≤ a1 → Q vU (pI h 6 r i 8 ((h.1 6 r i 8) + 1))) ∧ (¬ (h.1 6 r i 4) ≤ a1 → Q vU (pI (pI h 6 r i 8 ((h.1 6 r i 8) + 1)) 6 r i 5 0)))) ∧ (¬ a1 < (h.1 6 r i 3) → Q vU (pI (pI (pI h 6 r i 8 ((h.1 6 r i 8) + 1)) 6 r i 5 1) 6 r i 6 ((h.1 6 r i 6) + 1))))) : mC M2_hear [.inr (.inr (some (6, r, i))), .inl a1] h Q := by
  show mE M2_hear 0 [vR 6 r i, vI a1] [] h Q
  refine mE.aload_n dX2_hear_0 rfl ?_
  refine mE.dupR dX2_hear_1 ?_
  refine mE.getf (w := .inl (h.1 6 r i 8)) dX2_hear_2 f2_37 rfl ?_
  refine mE.iconst (v := 1) dX2_hear_5 (by decide) ?_
  refine mE.iadd dX2_hear_6 ?_
  refine mE.putf dX2_hear_7 p2_37 (fun _ _ _ => rfl) rfl rfl ?_
  refine mE.aload_n dX2_hear_10 rfl ?_
  refine mE.getf (w := .inl (h.1 6 r i 5)) dX2_hear_11 f2_27 rfl ?_
  refine mE.if_ne (tgt := 43) dX2_hear_14 (by decide) (fun c => ?_) (fun c => ?_)
  · have w := w.1 c
    refine mE.aload_n dX2_hear_43 rfl ?_
    refine mE.getf (w := .inl (h.1 6 r i 5)) dX2_hear_44 f2_27 rfl ?_
    refine mE.if_eq (tgt := 63) dX2_hear_47 (by decide) (fun c => ?_) (fun c => ?_)
    · have w := w.1 c
      exact mE.vret dX2_hear_63 rfl w
    · have w := w.2 c
      refine mE.iload_n dX2_hear_50 rfl ?_
      refine mE.aload_n dX2_hear_51 rfl ?_
      refine mE.getf (w := .inl (h.1 6 r i 4)) dX2_hear_52 f2_24 rfl ?_
      refine mE.icmp_ge (tgt := 63) dX2_hear_55 (by decide) (fun c => ?_) (fun c => ?_)
      · have w := w.1 c
        exact mE.vret dX2_hear_63 rfl w
      · have w := w.2 c
        refine mE.aload_n dX2_hear_58 rfl ?_
        refine mE.iconst (v := 0) dX2_hear_59 (by decide) ?_
        refine mE.putf dX2_hear_60 p2_27 (fun _ _ _ => rfl) rfl rfl ?_
        exact mE.vret dX2_hear_63 rfl w
  · have w := w.2 c
    refine mE.iload_n dX2_hear_17 rfl ?_
    refine mE.aload_n dX2_hear_18 rfl ?_
    refine mE.getf (w := .inl (h.1 6 r i 3)) dX2_hear_19 f2_21 rfl ?_
    refine mE.icmp_lt (tgt := 43) dX2_hear_22 (by decide) (fun c => ?_) (fun c => ?_)
    · have w := w.1 c
      refine mE.aload_n dX2_hear_43 rfl ?_
      refine mE.getf (w := .inl (h.1 6 r i 5)) dX2_hear_44 f2_27 rfl ?_
      refine mE.if_eq (tgt := 63) dX2_hear_47 (by decide) (fun c => ?_) (fun c => ?_)
      · have w := w.1 c
        exact mE.vret dX2_hear_63 rfl w
      · have w := w.2 c
        refine mE.iload_n dX2_hear_50 rfl ?_
        refine mE.aload_n dX2_hear_51 rfl ?_
        refine mE.getf (w := .inl (h.1 6 r i 4)) dX2_hear_52 f2_24 rfl ?_
        refine mE.icmp_ge (tgt := 63) dX2_hear_55 (by decide) (fun c => ?_) (fun c => ?_)
        · have w := w.1 c
          exact mE.vret dX2_hear_63 rfl w
        · have w := w.2 c
          refine mE.aload_n dX2_hear_58 rfl ?_
          refine mE.iconst (v := 0) dX2_hear_59 (by decide) ?_
          refine mE.putf dX2_hear_60 p2_27 (fun _ _ _ => rfl) rfl rfl ?_
          exact mE.vret dX2_hear_63 rfl w
    · have w := w.2 c
      refine mE.aload_n dX2_hear_25 rfl ?_
      refine mE.iconst (v := 1) dX2_hear_26 (by decide) ?_
      refine mE.putf dX2_hear_27 p2_27 (fun _ _ _ => rfl) rfl rfl ?_
      refine mE.aload_n dX2_hear_30 rfl ?_
      refine mE.dupR dX2_hear_31 ?_
      refine mE.getf (w := .inl (h.1 6 r i 6)) dX2_hear_32 f2_31 rfl ?_
      refine mE.iconst (v := 1) dX2_hear_35 (by decide) ?_
      refine mE.iadd dX2_hear_36 ?_
      refine mE.putf dX2_hear_37 p2_31 (fun _ _ _ => rfl) rfl rfl ?_
      refine mE.goto (tgt := 63) dX2_hear_40 (by decide) ?_
      exact mE.vret dX2_hear_63 rfl w
theorem w2_falselyCounted {r : Nat} {i : Nat} {h : mH} {Q : mV → mH → Prop} (w : Q (vI ((h.1 6 r i 6) - (h.1 6 r i 7))) h) : mC M2_falselyCounted [.inr (.inr (some (6, r, i)))] h Q := by
  show mE M2_falselyCounted 0 [vR 6 r i] [] h Q
  refine mE.aload_n dX2_falselyCounted_0 rfl ?_
  refine mE.getf (w := .inl (h.1 6 r i 6)) dX2_falselyCounted_1 f2_31 rfl ?_
  refine mE.aload_n dX2_falselyCounted_4 rfl ?_
  refine mE.getf (w := .inl (h.1 6 r i 7)) dX2_falselyCounted_5 f2_34 rfl ?_
  refine mE.isub dX2_falselyCounted_8 ?_
  exact mE.iret dX2_falselyCounted_9 rfl rfl w
theorem w2_about {r : Nat} {i : Nat} {a1 : Int32} {h : mH} {Q : mV → mH → Prop} (w : (a1 = 0 → Q (vI (h.1 6 r i 0)) h) ∧ (a1 = 1 → Q (vI (h.1 6 r i 1)) h) ∧ (a1 = 2 → Q (vI (h.1 6 r i 2)) h) ∧ (a1 = 3 → Q (vI (h.1 6 r i 3)) h) ∧ (a1 = 4 → Q (vI (h.1 6 r i 4)) h) ∧ (a1 = 5 → ((h.1 6 r i 5) = 0 → Q (vI 0) h) ∧ (¬ (h.1 6 r i 5) = 0 → Q (vI 1) h)) ∧ (a1 = 6 → Q (vI (h.1 6 r i 6)) h) ∧ (a1 = 7 → Q (vI (h.1 6 r i 7)) h) ∧ (a1 = 8 → Q (vI (-2)) h) ∧ (a1 = 9 → Q (vI (h.1 6 r i 8)) h) ∧ (¬ a1 = 0 → ¬ a1 = 1 → ¬ a1 = 2 → ¬ a1 = 3 → ¬ a1 = 4 → ¬ a1 = 5 → ¬ a1 = 6 → ¬ a1 = 7 → ¬ a1 = 8 → ¬ a1 = 9 → Q (vI (-2)) h)) : mC M2_about [.inr (.inr (some (6, r, i))), .inl a1] h Q := by
  show mE M2_about 0 [vR 6 r i, vI a1] [] h Q
  refine mE.iload_n dX2_about_0 rfl ?_
  by_cases c0 : a1 = 0
  · have w := w.1 c0
    refine mE.tabIn (v := 0) (off := 55) (tgt := 56) dX2_about_1 (by rw [c0]; decide) (by decide) (by decide) rfl (by decide) ?_
    refine mE.aload_n dX2_about_56 rfl ?_
    refine mE.getf (w := .inl (h.1 6 r i 0)) dX2_about_57 f2_9 rfl ?_
    exact mE.iret dX2_about_60 rfl rfl w
  · have w := w.2
    by_cases c1 : a1 = 1
    · have w := w.1 c1
      refine mE.tabIn (v := 1) (off := 60) (tgt := 61) dX2_about_1 (by rw [c1]; decide) (by decide) (by decide) rfl (by decide) ?_
      refine mE.aload_n dX2_about_61 rfl ?_
      refine mE.getf (w := .inl (h.1 6 r i 1)) dX2_about_62 f2_15 rfl ?_
      exact mE.iret dX2_about_65 rfl rfl w
    · have w := w.2
      by_cases c2 : a1 = 2
      · have w := w.1 c2
        refine mE.tabIn (v := 2) (off := 65) (tgt := 66) dX2_about_1 (by rw [c2]; decide) (by decide) (by decide) rfl (by decide) ?_
        refine mE.aload_n dX2_about_66 rfl ?_
        refine mE.getf (w := .inl (h.1 6 r i 2)) dX2_about_67 f2_18 rfl ?_
        exact mE.iret dX2_about_70 rfl rfl w
      · have w := w.2
        by_cases c3 : a1 = 3
        · have w := w.1 c3
          refine mE.tabIn (v := 3) (off := 70) (tgt := 71) dX2_about_1 (by rw [c3]; decide) (by decide) (by decide) rfl (by decide) ?_
          refine mE.aload_n dX2_about_71 rfl ?_
          refine mE.getf (w := .inl (h.1 6 r i 3)) dX2_about_72 f2_21 rfl ?_
          exact mE.iret dX2_about_75 rfl rfl w
        · have w := w.2
          by_cases c4 : a1 = 4
          · have w := w.1 c4
            refine mE.tabIn (v := 4) (off := 75) (tgt := 76) dX2_about_1 (by rw [c4]; decide) (by decide) (by decide) rfl (by decide) ?_
            refine mE.aload_n dX2_about_76 rfl ?_
            refine mE.getf (w := .inl (h.1 6 r i 4)) dX2_about_77 f2_24 rfl ?_
            exact mE.iret dX2_about_80 rfl rfl w
          · have w := w.2
            by_cases c5 : a1 = 5
            · have w := w.1 c5
              refine mE.tabIn (v := 5) (off := 80) (tgt := 81) dX2_about_1 (by rw [c5]; decide) (by decide) (by decide) rfl (by decide) ?_
              refine mE.aload_n dX2_about_81 rfl ?_
              refine mE.getf (w := .inl (h.1 6 r i 5)) dX2_about_82 f2_27 rfl ?_
              refine mE.if_eq (tgt := 92) dX2_about_85 (by decide) (fun c => ?_) (fun c => ?_)
              · have w := w.1 c
                refine mE.iconst (v := 0) dX2_about_92 (by decide) ?_
                exact mE.iret dX2_about_93 rfl rfl w
              · have w := w.2 c
                refine mE.iconst (v := 1) dX2_about_88 (by decide) ?_
                refine mE.goto (tgt := 93) dX2_about_89 (by decide) ?_
                exact mE.iret dX2_about_93 rfl rfl w
            · have w := w.2
              by_cases c6 : a1 = 6
              · have w := w.1 c6
                refine mE.tabIn (v := 6) (off := 93) (tgt := 94) dX2_about_1 (by rw [c6]; decide) (by decide) (by decide) rfl (by decide) ?_
                refine mE.aload_n dX2_about_94 rfl ?_
                refine mE.getf (w := .inl (h.1 6 r i 6)) dX2_about_95 f2_31 rfl ?_
                exact mE.iret dX2_about_98 rfl rfl w
              · have w := w.2
                by_cases c7 : a1 = 7
                · have w := w.1 c7
                  refine mE.tabIn (v := 7) (off := 98) (tgt := 99) dX2_about_1 (by rw [c7]; decide) (by decide) (by decide) rfl (by decide) ?_
                  refine mE.aload_n dX2_about_99 rfl ?_
                  refine mE.getf (w := .inl (h.1 6 r i 7)) dX2_about_100 f2_34 rfl ?_
                  exact mE.iret dX2_about_103 rfl rfl w
                · have w := w.2
                  by_cases c8 : a1 = 8
                  · have w := w.1 c8
                    refine mE.tabIn (v := 8) (off := 108) (tgt := 109) dX2_about_1 (by rw [c8]; decide) (by decide) (by decide) rfl (by decide) ?_
                    refine mE.bipush (v := -2) dX2_about_109 (by decide) ?_
                    exact mE.iret dX2_about_111 rfl rfl w
                  · have w := w.2
                    by_cases c9 : a1 = 9
                    · have w := w.1 c9
                      refine mE.tabIn (v := 9) (off := 103) (tgt := 104) dX2_about_1 (by rw [c9]; decide) (by decide) (by decide) rfl (by decide) ?_
                      refine mE.aload_n dX2_about_104 rfl ?_
                      refine mE.getf (w := .inl (h.1 6 r i 8)) dX2_about_105 f2_37 rfl ?_
                      exact mE.iret dX2_about_108 rfl rfl w
                    · have w := w.2
                      have w := w c0 c1 c2 c3 c4 c5 c6 c7 c8 c9
                      refine mE.tabOut (tgt := 109) dX2_about_1 (by have e0 := lv_neT c0 (a := 0) (by decide); have e1 := lv_neT c1 (a := 1) (by decide); have e2 := lv_neT c2 (a := 2) (by decide); have e3 := lv_neT c3 (a := 3) (by decide); have e4 := lv_neT c4 (a := 4) (by decide); have e5 := lv_neT c5 (a := 5) (by decide); have e6 := lv_neT c6 (a := 6) (by decide); have e7 := lv_neT c7 (a := 7) (by decide); have e8 := lv_neT c8 (a := 8) (by decide); have e9 := lv_neT c9 (a := 9) (by decide); omega) (by decide) ?_
                      refine mE.bipush (v := -2) dX2_about_109 (by decide) ?_
                      exact mE.iret dX2_about_111 rfl rfl w
theorem w3_append {a1 : Int64} {h : mH} {Q : mV → mH → Prop} (w : mC M3_signsIn [.inr (.inl a1)] h (kI (fun x14 h13 => (¬ x14 = 0 → (((h13.1 9 0 0 1) + x14) ≤ 60 → mE M3_append 34 [vR 9 0 0, vL a1, vU, vU, vI (x14 - 1)] [] h13 Q) ∧ (¬ ((h13.1 9 0 0 1) + x14) ≤ 60 → Q (vI (-4)) h13)) ∧ (x14 = 0 → Q (vI (-2)) h13)))) : mC M3_append [.inr (.inr (some (9, 0, 0))), .inr (.inl a1)] h Q := by
  show mE M3_append 0 [vR 9 0 0, vL a1, vU, vU, vU] [] h Q
  refine mE.lload_n dX3_append_0 rfl ?_
  refine mE.callS (as := [.inr (.inl a1)]) (st := []) dX3_append_1 cf3_append_15 rfl rfl (Nat.le_of_ble_eq_true rfl) (fun _ => Nat.le_of_ble_eq_true rfl) w (kI_on (fun x14 h13 w => ?_))
  refine mE.istore_n (l2 := [vR 9 0 0, vL a1, vU, vI x14, vU]) dX3_append_4 (by decide) rfl ?_
  refine mE.iload_n dX3_append_5 rfl ?_
  refine mE.if_ne (tgt := 12) dX3_append_6 (by decide) (fun c => ?_) (fun c => ?_)
  · have w := w.1 c
    refine mE.aload_n dX3_append_12 rfl ?_
    refine mE.getf (w := .inl (h13.1 9 0 0 1)) dX3_append_13 f3_19 rfl ?_
    refine mE.iload_n dX3_append_16 rfl ?_
    refine mE.iadd dX3_append_17 ?_
    refine mE.aload_n dX3_append_18 rfl ?_
    refine mE.getf (w := .inr (.inr (some (10, 0, 0)))) dX3_append_19 f3_9 rfl ?_
    refine mE.alen (v := 60) dX3_append_22 rfl (by decide) ?_
    refine mE.icmp_le (tgt := 29) dX3_append_23 (by decide) (fun c => ?_) (fun c => ?_)
    · have w := w.1 c
      refine mE.iload_n dX3_append_29 rfl ?_
      refine mE.iconst (v := 1) dX3_append_30 (by decide) ?_
      refine mE.isub dX3_append_31 ?_
      refine mE.istore (l2 := [vR 9 0 0, vL a1, vU, vI x14, vI (x14 - 1)]) dX3_append_32 (by decide) rfl ?_
      exact mE.less (by exact ⟨Or.inr rfl, ⟨Or.inr rfl, ⟨Or.inl rfl, ⟨Or.inl rfl, ⟨Or.inr rfl, trivial⟩⟩⟩⟩⟩) w
    · have w := w.2 c
      refine mE.bipush (v := -4) dX3_append_26 (by decide) ?_
      exact mE.iret dX3_append_28 rfl rfl w
  · have w := w.2 c
    refine mE.bipush (v := -2) dX3_append_9 (by decide) ?_
    exact mE.iret dX3_append_11 rfl rfl w
theorem w3_append_34 {y1 : Int64} {y4 : Int32} {h : mH} {Q : mV → mH → Prop} (w : (y4 < 0 → Q (vI (h.1 9 0 0 1)) h) ∧ (¬ y4 < 0 → ((h.1 9 0 0 1) < 0 → mE M3_append 34 [vR 9 0 0, vL y1, vU, vU, vI (y4 + (-1))] [] h Q) ∧ (¬ (h.1 9 0 0 1) < 0 → (60 ≤ (h.1 9 0 0 1) → mE M3_append 34 [vR 9 0 0, vL y1, vU, vU, vI (y4 + (-1))] [] h Q) ∧ (¬ 60 ≤ (h.1 9 0 0 1) → vp_in (h.1 9 0 0 1) 60 ∧ (mE M3_append 34 [vR 9 0 0, vL y1, vU, vU, vI (y4 + (-1))] [] (pI (pI h 10 0 0 ((h.1 9 0 0 1).toNatClampNeg) ((((((y1.toUInt64 >>> ((8 * y4).toInt64.toUInt64 &&& Int64.toUInt64 63)).toInt64) &&& 255).toInt32).toUInt32 % 65536).toInt32)) 9 0 0 1 ((h.1 9 0 0 1) + 1)) Q))))) : mE M3_append 34 [vR 9 0 0, vL y1, vU, vU, vI y4] [] h Q := by
  refine mE.iload dX3_append_34 rfl ?_
  refine mE.if_lt (tgt := 96) dX3_append_36 (by decide) (fun c => ?_) (fun c => ?_)
  · have w := w.1 c
    refine mE.aload_n dX3_append_96 rfl ?_
    refine mE.getf (w := .inl (h.1 9 0 0 1)) dX3_append_97 f3_19 rfl ?_
    exact mE.iret dX3_append_100 rfl rfl w
  · have w := w.2 c
    refine mE.aload_n dX3_append_39 rfl ?_
    refine mE.getf (w := .inl (h.1 9 0 0 1)) dX3_append_40 f3_19 rfl ?_
    refine mE.if_lt (tgt := 90) dX3_append_43 (by decide) (fun c => ?_) (fun c => ?_)
    · have w := w.1 c
      refine mE.iinc (v := y4 + (-1)) (l2 := [vR 9 0 0, vL y1, vU, vU, vI (y4 + (-1))]) dX3_append_90 rfl rfl (by decide) rfl ?_
      refine mE.goto (tgt := 34) dX3_append_93 (by decide) ?_
      exact w
    · have w := w.2 c
      refine mE.aload_n dX3_append_46 rfl ?_
      refine mE.getf (w := .inl (h.1 9 0 0 1)) dX3_append_47 f3_19 rfl ?_
      refine mE.aload_n dX3_append_50 rfl ?_
      refine mE.getf (w := .inr (.inr (some (10, 0, 0)))) dX3_append_51 f3_9 rfl ?_
      refine mE.alen (v := 60) dX3_append_54 rfl (by decide) ?_
      refine mE.icmp_ge (tgt := 90) dX3_append_55 (by decide) (fun c => ?_) (fun c => ?_)
      · have w := w.1 c
        refine mE.iinc (v := y4 + (-1)) (l2 := [vR 9 0 0, vL y1, vU, vU, vI (y4 + (-1))]) dX3_append_90 rfl rfl (by decide) rfl ?_
        refine mE.goto (tgt := 34) dX3_append_93 (by decide) ?_
        exact w
      · have w := w.2 c
        refine mE.aload_n dX3_append_58 rfl ?_
        refine mE.getf (w := .inr (.inr (some (10, 0, 0)))) dX3_append_59 f3_9 rfl ?_
        refine mE.aload_n dX3_append_62 rfl ?_
        refine mE.getf (w := .inl (h.1 9 0 0 1)) dX3_append_63 f3_19 rfl ?_
        refine mE.lload_n dX3_append_66 rfl ?_
        refine mE.bipush (v := 8) dX3_append_67 (by decide) ?_
        refine mE.iload dX3_append_69 rfl ?_
        refine mE.imul dX3_append_71 ?_
        refine mE.lushr dX3_append_72 ?_
        refine mE.ldc2 (v := 255) dX3_append_73 (tb_of 575 (by decide +kernel) rfl) ?_
        refine mE.land dX3_append_76 ?_
        refine mE.l2i dX3_append_77 ?_
        refine mE.i2c dX3_append_78 ?_
        refine mE.cast dX3_append_79 rfl rfl (fun _ _ _ _ => rfl) w.1 (pk_nc _) ?_
        have w := w.2
        refine mE.aload_n dX3_append_80 rfl ?_
        refine mE.dupR dX3_append_81 ?_
        refine mE.getf (w := .inl (h.1 9 0 0 1)) dX3_append_82 f3_19 rfl ?_
        refine mE.iconst (v := 1) dX3_append_85 (by decide) ?_
        refine mE.iadd dX3_append_86 ?_
        refine mE.putf dX3_append_87 p3_19 (fun _ _ _ => rfl) rfl rfl ?_
        refine mE.iinc (v := y4 + (-1)) (l2 := [vR 9 0 0, vL y1, vU, vU, vI (y4 + (-1))]) dX3_append_90 rfl rfl (by decide) rfl ?_
        refine mE.goto (tgt := 34) dX3_append_93 (by decide) ?_
        exact w
theorem w3_signsIn {a1 : Int64} {h : mH} {Q : mV → mH → Prop} (w : mE M3_signsIn 5 [vL a1, vU, vL a1, vU, vI 0] [] h Q) : mC M3_signsIn [.inr (.inl a1)] h Q := by
  show mE M3_signsIn 0 [vL a1, vU, vU, vU, vU] [] h Q
  refine mE.lload_n dX3_signsIn_0 rfl ?_
  refine mE.lstore_n (l2 := [vL a1, vU, vL a1, vU, vU]) dX3_signsIn_1 (by decide) rfl ?_
  refine mE.iconst (v := 0) dX3_signsIn_2 (by decide) ?_
  refine mE.istore (l2 := [vL a1, vU, vL a1, vU, vI 0]) dX3_signsIn_3 (by decide) rfl ?_
  exact w
theorem w3_signsIn_5 {y0 : Int64} {y2 : Int64} {y4 : Int32} {h : mH} {Q : mV → mH → Prop} (w : (8 ≤ y4 → (¬ (lg_cmp y2 0) = 0 → Q (vI 0) h) ∧ ((lg_cmp y2 0) = 0 → Q (vI y4) h)) ∧ (¬ 8 ≤ y4 → ((lg_cmp (y2 &&& 255) 0) = 0 → (¬ (lg_cmp y2 0) = 0 → Q (vI 0) h) ∧ ((lg_cmp y2 0) = 0 → Q (vI y4) h)) ∧ (¬ (lg_cmp (y2 &&& 255) 0) = 0 → mC M6_isWithin [.inl ((y2 &&& 255).toInt32), .inl 33, .inl 126] h (kI (fun x16 h15 => (¬ x16 = 0 → mE M3_signsIn 5 [vL y0, vU, vL ((y2.toUInt64 >>> ((8 : Int32).toInt64.toUInt64 &&& Int64.toUInt64 63)).toInt64), vU, vI (y4 + 1)] [] h15 Q) ∧ (x16 = 0 → Q (vI 0) h15)))))) : mE M3_signsIn 5 [vL y0, vU, vL y2, vU, vI y4] [] h Q := by
  refine mE.iload dX3_signsIn_5 rfl ?_
  refine mE.bipush (v := 8) dX3_signsIn_7 (by decide) ?_
  refine mE.icmp_ge (tgt := 51) dX3_signsIn_9 (by decide) (fun c => ?_) (fun c => ?_)
  · have w := w.1 c
    refine mE.lload_n dX3_signsIn_51 rfl ?_
    refine mE.lconst (v := 0) dX3_signsIn_52 (by decide) ?_
    refine mE.lcmp dX3_signsIn_53 ?_
    refine mE.if_ne (tgt := 62) dX3_signsIn_54 (by decide) (fun c => ?_) (fun c => ?_)
    · have w := w.1 c
      refine mE.iconst (v := 0) dX3_signsIn_62 (by decide) ?_
      exact mE.iret dX3_signsIn_63 rfl rfl w
    · have w := w.2 c
      refine mE.iload dX3_signsIn_57 rfl ?_
      refine mE.goto (tgt := 63) dX3_signsIn_59 (by decide) ?_
      exact mE.iret dX3_signsIn_63 rfl rfl w
  · have w := w.2 c
    refine mE.lload_n dX3_signsIn_12 rfl ?_
    refine mE.ldc2 (v := 255) dX3_signsIn_13 (tb_of 575 (by decide +kernel) rfl) ?_
    refine mE.land dX3_signsIn_16 ?_
    refine mE.lconst (v := 0) dX3_signsIn_17 (by decide) ?_
    refine mE.lcmp dX3_signsIn_18 ?_
    refine mE.if_eq (tgt := 51) dX3_signsIn_19 (by decide) (fun c => ?_) (fun c => ?_)
    · have w := w.1 c
      refine mE.lload_n dX3_signsIn_51 rfl ?_
      refine mE.lconst (v := 0) dX3_signsIn_52 (by decide) ?_
      refine mE.lcmp dX3_signsIn_53 ?_
      refine mE.if_ne (tgt := 62) dX3_signsIn_54 (by decide) (fun c => ?_) (fun c => ?_)
      · have w := w.1 c
        refine mE.iconst (v := 0) dX3_signsIn_62 (by decide) ?_
        exact mE.iret dX3_signsIn_63 rfl rfl w
      · have w := w.2 c
        refine mE.iload dX3_signsIn_57 rfl ?_
        refine mE.goto (tgt := 63) dX3_signsIn_59 (by decide) ?_
        exact mE.iret dX3_signsIn_63 rfl rfl w
    · have w := w.2 c
      refine mE.lload_n dX3_signsIn_22 rfl ?_
      refine mE.ldc2 (v := 255) dX3_signsIn_23 (tb_of 575 (by decide +kernel) rfl) ?_
      refine mE.land dX3_signsIn_26 ?_
      refine mE.l2i dX3_signsIn_27 ?_
      refine mE.bipush (v := 33) dX3_signsIn_28 (by decide) ?_
      refine mE.bipush (v := 126) dX3_signsIn_30 (by decide) ?_
      refine mE.callN (as := [.inl ((y2 &&& 255).toInt32), .inl 33, .inl 126]) (st := []) dX3_signsIn_32 cf3_signsIn_25 rfl rfl (Nat.le_of_ble_eq_true rfl) (fun _ => Nat.le_of_ble_eq_true rfl) w (kI_on (fun x16 h15 w => ?_))
      refine mE.if_ne (tgt := 40) dX3_signsIn_35 (by decide) (fun c => ?_) (fun c => ?_)
      · have w := w.1 c
        refine mE.lload_n dX3_signsIn_40 rfl ?_
        refine mE.bipush (v := 8) dX3_signsIn_41 (by decide) ?_
        refine mE.lushr dX3_signsIn_43 ?_
        refine mE.lstore_n (l2 := [vL y0, vU, vL ((y2.toUInt64 >>> ((8 : Int32).toInt64.toUInt64 &&& Int64.toUInt64 63)).toInt64), vU, vI y4]) dX3_signsIn_44 (by decide) rfl ?_
        refine mE.iinc (v := y4 + 1) (l2 := [vL y0, vU, vL ((y2.toUInt64 >>> ((8 : Int32).toInt64.toUInt64 &&& Int64.toUInt64 63)).toInt64), vU, vI (y4 + 1)]) dX3_signsIn_45 rfl rfl (by decide) rfl ?_
        refine mE.goto (tgt := 5) dX3_signsIn_48 (by decide) ?_
        exact w
      · have w := w.2 c
        refine mE.iconst (v := 0) dX3_signsIn_38 (by decide) ?_
        exact mE.iret dX3_signsIn_39 rfl rfl w
theorem w3_empty  {h : mH} {Q : mV → mH → Prop} (w : Q (vI (h.1 9 0 0 1)) (pI h 9 0 0 1 0)) : mC M3_empty [.inr (.inr (some (9, 0, 0)))] h Q := by
  show mE M3_empty 0 [vR 9 0 0, vU] [] h Q
  refine mE.aload_n dX3_empty_0 rfl ?_
  refine mE.getf (w := .inl (h.1 9 0 0 1)) dX3_empty_1 f3_19 rfl ?_
  refine mE.istore_n (l2 := [vR 9 0 0, vI (h.1 9 0 0 1)]) dX3_empty_4 (by decide) rfl ?_
  refine mE.aload_n dX3_empty_5 rfl ?_
  refine mE.iconst (v := 0) dX3_empty_6 (by decide) ?_
  refine mE.putf dX3_empty_7 p3_19 (fun _ _ _ => rfl) rfl rfl ?_
  refine mE.iload_n dX3_empty_10 rfl ?_
  exact mE.iret dX3_empty_11 rfl rfl w
theorem w3_signAt {a1 : Int32} {h : mH} {Q : mV → mH → Prop} (w : (a1 < 0 → Q (vI 0) h) ∧ (¬ a1 < 0 → ((h.1 9 0 0 1) ≤ a1 → Q (vI 0) h) ∧ (¬ (h.1 9 0 0 1) ≤ a1 → (60 ≤ a1 → Q (vI 0) h) ∧ (¬ 60 ≤ a1 → vp_in a1 60 ∧ (Q (vI (h.1 10 0 0 a1.toNatClampNeg)) h))))) : mC M3_signAt [.inr (.inr (some (9, 0, 0))), .inl a1] h Q := by
  show mE M3_signAt 0 [vR 9 0 0, vI a1] [] h Q
  refine mE.iload_n dX3_signAt_0 rfl ?_
  refine mE.if_lt (tgt := 30) dX3_signAt_1 (by decide) (fun c => ?_) (fun c => ?_)
  · have w := w.1 c
    refine mE.iconst (v := 0) dX3_signAt_30 (by decide) ?_
    exact mE.iret dX3_signAt_31 rfl rfl w
  · have w := w.2 c
    refine mE.iload_n dX3_signAt_4 rfl ?_
    refine mE.aload_n dX3_signAt_5 rfl ?_
    refine mE.getf (w := .inl (h.1 9 0 0 1)) dX3_signAt_6 f3_19 rfl ?_
    refine mE.icmp_ge (tgt := 30) dX3_signAt_9 (by decide) (fun c => ?_) (fun c => ?_)
    · have w := w.1 c
      refine mE.iconst (v := 0) dX3_signAt_30 (by decide) ?_
      exact mE.iret dX3_signAt_31 rfl rfl w
    · have w := w.2 c
      refine mE.iload_n dX3_signAt_12 rfl ?_
      refine mE.aload_n dX3_signAt_13 rfl ?_
      refine mE.getf (w := .inr (.inr (some (10, 0, 0)))) dX3_signAt_14 f3_9 rfl ?_
      refine mE.alen (v := 60) dX3_signAt_17 rfl (by decide) ?_
      refine mE.icmp_ge (tgt := 30) dX3_signAt_18 (by decide) (fun c => ?_) (fun c => ?_)
      · have w := w.1 c
        refine mE.iconst (v := 0) dX3_signAt_30 (by decide) ?_
        exact mE.iret dX3_signAt_31 rfl rfl w
      · have w := w.2 c
        refine mE.aload_n dX3_signAt_21 rfl ?_
        refine mE.getf (w := .inr (.inr (some (10, 0, 0)))) dX3_signAt_22 f3_9 rfl ?_
        refine mE.iload_n dX3_signAt_25 rfl ?_
        refine mE.cald (x := h.1 10 0 0 a1.toNatClampNeg) dX3_signAt_26 rfl rfl w.1 rfl ?_
        have w := w.2
        refine mE.goto (tgt := 31) dX3_signAt_27 (by decide) ?_
        exact mE.iret dX3_signAt_31 rfl rfl w
theorem w3_digitAt {a1 : Int32} {h : mH} {Q : mV → mH → Prop} (w : mC M3_signAt [.inr (.inr (some (9, 0, 0))), .inl a1] h (kI (fun x18 h17 => Q (vI (x18 - 48)) h17))) : mC M3_digitAt [.inr (.inr (some (9, 0, 0))), .inl a1] h Q := by
  show mE M3_digitAt 0 [vR 9 0 0, vI a1] [] h Q
  refine mE.aload_n dX3_digitAt_0 rfl ?_
  refine mE.iload_n dX3_digitAt_1 rfl ?_
  refine mE.callV (as := [.inl a1]) (k := 9) (r := 0) (i := 0) (st := []) dX3_digitAt_2 cf3_digitAt_29 rfl rfl (Nat.le_of_ble_eq_true rfl) (fun _ => Nat.le_of_ble_eq_true rfl) w (kI_on (fun x18 h17 w => ?_))
  refine mE.bipush (v := 48) dX3_digitAt_5 (by decide) ?_
  refine mE.isub dX3_digitAt_7 ?_
  exact mE.iret dX3_digitAt_8 rfl rfl w
theorem w3_numberAt {a1 : Int32} {h : mH} {Q : mV → mH → Prop} (w : mC M3_digitAt [.inr (.inr (some (9, 0, 0))), .inl (a1 + 1)] h (kI (fun x20 h19 => mC M6_isWithin [.inl x20, .inl 0, .inl 9] h19 (kI (fun x22 h21 => (x22 = 0 → mC M3_digitAt [.inr (.inr (some (9, 0, 0))), .inl a1] h21 (kI (fun x24 h23 => Q (vI x24) h23))) ∧ (¬ x22 = 0 → mC M3_digitAt [.inr (.inr (some (9, 0, 0))), .inl a1] h21 (kI (fun x26 h25 => Q (vI ((x26 * 10) + x20)) h25)))))))) : mC M3_numberAt [.inr (.inr (some (9, 0, 0))), .inl a1] h Q := by
  show mE M3_numberAt 0 [vR 9 0 0, vI a1, vU] [] h Q
  refine mE.aload_n dX3_numberAt_0 rfl ?_
  refine mE.iload_n dX3_numberAt_1 rfl ?_
  refine mE.iconst (v := 1) dX3_numberAt_2 (by decide) ?_
  refine mE.iadd dX3_numberAt_3 ?_
  refine mE.callV (as := [.inl (a1 + 1)]) (k := 9) (r := 0) (i := 0) (st := []) dX3_numberAt_4 cf3_numberAt_33 rfl rfl (Nat.le_of_ble_eq_true rfl) (fun _ => Nat.le_of_ble_eq_true rfl) w (kI_on (fun x20 h19 w => ?_))
  refine mE.istore_n (l2 := [vR 9 0 0, vI a1, vI x20]) dX3_numberAt_7 (by decide) rfl ?_
  refine mE.iload_n dX3_numberAt_8 rfl ?_
  refine mE.iconst (v := 0) dX3_numberAt_9 (by decide) ?_
  refine mE.bipush (v := 9) dX3_numberAt_10 (by decide) ?_
  refine mE.callN (as := [.inl x20, .inl 0, .inl 9]) (st := []) dX3_numberAt_12 cf3_numberAt_25 rfl rfl (Nat.le_of_ble_eq_true rfl) (fun _ => Nat.le_of_ble_eq_true rfl) w (kI_on (fun x22 h21 w => ?_))
  refine mE.if_eq (tgt := 31) dX3_numberAt_15 (by decide) (fun c => ?_) (fun c => ?_)
  · have w := w.1 c
    refine mE.aload_n dX3_numberAt_31 rfl ?_
    refine mE.iload_n dX3_numberAt_32 rfl ?_
    refine mE.callV (as := [.inl a1]) (k := 9) (r := 0) (i := 0) (st := []) dX3_numberAt_33 cf3_numberAt_33 rfl rfl (Nat.le_of_ble_eq_true rfl) (fun _ => Nat.le_of_ble_eq_true rfl) w (kI_on (fun x24 h23 w => ?_))
    exact mE.iret dX3_numberAt_36 rfl rfl w
  · have w := w.2 c
    refine mE.aload_n dX3_numberAt_18 rfl ?_
    refine mE.iload_n dX3_numberAt_19 rfl ?_
    refine mE.callV (as := [.inl a1]) (k := 9) (r := 0) (i := 0) (st := []) dX3_numberAt_20 cf3_numberAt_33 rfl rfl (Nat.le_of_ble_eq_true rfl) (fun _ => Nat.le_of_ble_eq_true rfl) w (kI_on (fun x26 h25 w => ?_))
    refine mE.bipush (v := 10) dX3_numberAt_23 (by decide) ?_
    refine mE.imul dX3_numberAt_25 ?_
    refine mE.iload_n dX3_numberAt_26 rfl ?_
    refine mE.iadd dX3_numberAt_27 ?_
    refine mE.goto (tgt := 36) dX3_numberAt_28 (by decide) ?_
    exact mE.iret dX3_numberAt_36 rfl rfl w
theorem w3_beginsOrder {a1 : Int32} {h : mH} {Q : mV → mH → Prop} (w : (a1 = 0 → Q (vI 1) h) ∧ (¬ a1 = 0 → mC M3_signAt [.inr (.inr (some (9, 0, 0))), .inl (a1 - 1)] h (kI (fun x28 h27 => (¬ x28 = 59 → Q (vI 0) h27) ∧ (x28 = 59 → Q (vI 1) h27))))) : mC M3_beginsOrder [.inr (.inr (some (9, 0, 0))), .inl a1] h Q := by
  show mE M3_beginsOrder 0 [vR 9 0 0, vI a1] [] h Q
  refine mE.iload_n dX3_beginsOrder_0 rfl ?_
  refine mE.if_eq (tgt := 16) dX3_beginsOrder_1 (by decide) (fun c => ?_) (fun c => ?_)
  · have w := w.1 c
    refine mE.iconst (v := 1) dX3_beginsOrder_16 (by decide) ?_
    refine mE.goto (tgt := 21) dX3_beginsOrder_17 (by decide) ?_
    exact mE.iret dX3_beginsOrder_21 rfl rfl w
  · have w := w.2 c
    refine mE.aload_n dX3_beginsOrder_4 rfl ?_
    refine mE.iload_n dX3_beginsOrder_5 rfl ?_
    refine mE.iconst (v := 1) dX3_beginsOrder_6 (by decide) ?_
    refine mE.isub dX3_beginsOrder_7 ?_
    refine mE.callV (as := [.inl (a1 - 1)]) (k := 9) (r := 0) (i := 0) (st := []) dX3_beginsOrder_8 cf3_beginsOrder_29 rfl rfl (Nat.le_of_ble_eq_true rfl) (fun _ => Nat.le_of_ble_eq_true rfl) w (kI_on (fun x28 h27 w => ?_))
    refine mE.bipush (v := 59) dX3_beginsOrder_11 (by decide) ?_
    refine mE.icmp_ne (tgt := 20) dX3_beginsOrder_13 (by decide) (fun c => ?_) (fun c => ?_)
    · have w := w.1 c
      refine mE.iconst (v := 0) dX3_beginsOrder_20 (by decide) ?_
      exact mE.iret dX3_beginsOrder_21 rfl rfl w
    · have w := w.2 c
      refine mE.iconst (v := 1) dX3_beginsOrder_16 (by decide) ?_
      refine mE.goto (tgt := 21) dX3_beginsOrder_17 (by decide) ?_
      exact mE.iret dX3_beginsOrder_21 rfl rfl w
theorem w3_firstFault  {h : mH} {Q : mV → mH → Prop} (w : mE M3_firstFault 4 [vR 9 0 0, vI 0, vI 0] [] h Q) : mC M3_firstFault [.inr (.inr (some (9, 0, 0)))] h Q := by
  show mE M3_firstFault 0 [vR 9 0 0, vU, vU] [] h Q
  refine mE.iconst (v := 0) dX3_firstFault_0 (by decide) ?_
  refine mE.istore_n (l2 := [vR 9 0 0, vI 0, vU]) dX3_firstFault_1 (by decide) rfl ?_
  refine mE.iconst (v := 0) dX3_firstFault_2 (by decide) ?_
  refine mE.istore_n (l2 := [vR 9 0 0, vI 0, vI 0]) dX3_firstFault_3 (by decide) rfl ?_
  exact w
theorem w3_firstFault_4 {y1 : Int32} {y2 : Int32} {h : mH} {Q : mV → mH → Prop} (w : ((h.1 9 0 0 1) ≤ y2 → (y1 = 7 → Q (vI (-6)) h) ∧ (¬ y1 = 7 → (¬ y1 = 6 → Q (vI (h.1 9 0 0 1)) h) ∧ (y1 = 6 → Q (vI (-6)) h))) ∧ (¬ (h.1 9 0 0 1) ≤ y2 → mC M3_signAt [.inr (.inr (some (9, 0, 0))), .inl y2] h (kI (fun x30 h29 => mC M3_dueAfter [.inl y1, .inl x30] h29 (kI (fun x32 h31 => (¬ x32 = (-1) → mE M3_firstFault 4 [vR 9 0 0, vI x32, vI (y2 + 1)] [] h31 Q) ∧ (x32 = (-1) → Q (vI y2) h31))))))) : mE M3_firstFault 4 [vR 9 0 0, vI y1, vI y2] [] h Q := by
  refine mE.iload_n dX3_firstFault_4 rfl ?_
  refine mE.aload_n dX3_firstFault_5 rfl ?_
  refine mE.getf (w := .inl (h.1 9 0 0 1)) dX3_firstFault_6 f3_19 rfl ?_
  refine mE.icmp_ge (tgt := 35) dX3_firstFault_9 (by decide) (fun c => ?_) (fun c => ?_)
  · have w := w.1 c
    refine mE.iload_n dX3_firstFault_35 rfl ?_
    refine mE.bipush (v := 7) dX3_firstFault_36 (by decide) ?_
    refine mE.icmp_eq (tgt := 47) dX3_firstFault_38 (by decide) (fun c => ?_) (fun c => ?_)
    · have w := w.1 c
      refine mE.bipush (v := -6) dX3_firstFault_47 (by decide) ?_
      refine mE.goto (tgt := 56) dX3_firstFault_49 (by decide) ?_
      exact mE.iret dX3_firstFault_56 rfl rfl w
    · have w := w.2 c
      refine mE.iload_n dX3_firstFault_41 rfl ?_
      refine mE.bipush (v := 6) dX3_firstFault_42 (by decide) ?_
      refine mE.icmp_ne (tgt := 52) dX3_firstFault_44 (by decide) (fun c => ?_) (fun c => ?_)
      · have w := w.1 c
        refine mE.aload_n dX3_firstFault_52 rfl ?_
        refine mE.getf (w := .inl (h.1 9 0 0 1)) dX3_firstFault_53 f3_19 rfl ?_
        exact mE.iret dX3_firstFault_56 rfl rfl w
      · have w := w.2 c
        refine mE.bipush (v := -6) dX3_firstFault_47 (by decide) ?_
        refine mE.goto (tgt := 56) dX3_firstFault_49 (by decide) ?_
        exact mE.iret dX3_firstFault_56 rfl rfl w
  · have w := w.2 c
    refine mE.iload_n dX3_firstFault_12 rfl ?_
    refine mE.aload_n dX3_firstFault_13 rfl ?_
    refine mE.iload_n dX3_firstFault_14 rfl ?_
    refine mE.callV (as := [.inl y2]) (k := 9) (r := 0) (i := 0) (st := [vI y1]) dX3_firstFault_15 cf3_firstFault_29 rfl rfl (Nat.le_of_ble_eq_true rfl) (fun _ => Nat.le_of_ble_eq_true rfl) w (kI_on (fun x30 h29 w => ?_))
    refine mE.callS (as := [.inl y1, .inl x30]) (st := []) dX3_firstFault_18 cf3_firstFault_36 rfl rfl (Nat.le_of_ble_eq_true rfl) (fun _ => Nat.le_of_ble_eq_true rfl) w (kI_on (fun x32 h31 w => ?_))
    refine mE.istore_n (l2 := [vR 9 0 0, vI x32, vI y2]) dX3_firstFault_21 (by decide) rfl ?_
    refine mE.iload_n dX3_firstFault_22 rfl ?_
    refine mE.iconst (v := -1) dX3_firstFault_23 (by decide) ?_
    refine mE.icmp_ne (tgt := 29) dX3_firstFault_24 (by decide) (fun c => ?_) (fun c => ?_)
    · have w := w.1 c
      refine mE.iinc (v := y2 + 1) (l2 := [vR 9 0 0, vI x32, vI (y2 + 1)]) dX3_firstFault_29 rfl rfl (by decide) rfl ?_
      refine mE.goto (tgt := 4) dX3_firstFault_32 (by decide) ?_
      exact w
    · have w := w.2 c
      refine mE.iload_n dX3_firstFault_27 rfl ?_
      exact mE.iret dX3_firstFault_28 rfl rfl w
theorem w3_dueAfter {a1 : Int32} {a2 : Int32} {h : mH} {Q : mV → mH → Prop} (w : (a1 = 0 → (¬ a2 = 99 → (a2 = 119 → Q (vI 5) h) ∧ (¬ a2 = 119 → (¬ a2 = 116 → Q (vI (-1)) h) ∧ (a2 = 116 → Q (vI 5) h))) ∧ (a2 = 99 → Q (vI 1) h)) ∧ (a1 = 1 → mC M6_isWithin [.inl a2, .inl 48, .inl 49] h (kI (fun x34 h33 => (x34 = 0 → Q (vI (-1)) h33) ∧ (¬ x34 = 0 → Q (vI 2) h33)))) ∧ (a1 = 2 → mC M6_isWithin [.inl a2, .inl 49, .inl 52] h (kI (fun x36 h35 => (x36 = 0 → Q (vI (-1)) h35) ∧ (¬ x36 = 0 → Q (vI 3) h35)))) ∧ (a1 = 3 → mC M6_isWithin [.inl a2, .inl 49, .inl 52] h (kI (fun x38 h37 => (x38 = 0 → Q (vI (-1)) h37) ∧ (¬ x38 = 0 → Q (vI 4) h37)))) ∧ (a1 = 4 → mC M6_isWithin [.inl a2, .inl 49, .inl 57] h (kI (fun x40 h39 => (x40 = 0 → Q (vI (-1)) h39) ∧ (¬ x40 = 0 → Q (vI 7) h39)))) ∧ (a1 = 5 → (¬ a2 = 48 → mC M6_isWithin [.inl a2, .inl 49, .inl 57] h (kI (fun x42 h41 => (x42 = 0 → Q (vI (-1)) h41) ∧ (¬ x42 = 0 → Q (vI 6) h41)))) ∧ (a2 = 48 → Q (vI 7) h)) ∧ (a1 = 6 → mC M6_isWithin [.inl a2, .inl 48, .inl 57] h (kI (fun x44 h43 => (x44 = 0 → (¬ a2 = 59 → Q (vI (-1)) h43) ∧ (a2 = 59 → Q (vI 0) h43)) ∧ (¬ x44 = 0 → Q (vI 7) h43)))) ∧ (a1 = 7 → (¬ a2 = 59 → Q (vI (-1)) h) ∧ (a2 = 59 → Q (vI 0) h)) ∧ (¬ a1 = 0 → ¬ a1 = 1 → ¬ a1 = 2 → ¬ a1 = 3 → ¬ a1 = 4 → ¬ a1 = 5 → ¬ a1 = 6 → ¬ a1 = 7 → Q (vI (-1)) h)) : mC M3_dueAfter [.inl a1, .inl a2] h Q := by
  show mE M3_dueAfter 0 [vI a1, vI a2] [] h Q
  refine mE.iload_n dX3_dueAfter_0 rfl ?_
  by_cases c0 : a1 = 0
  · have w := w.1 c0
    refine mE.tabIn (v := 0) (off := 47) (tgt := 48) dX3_dueAfter_1 (by rw [c0]; decide) (by decide) (by decide) rfl (by decide) ?_
    refine mE.iload_n dX3_dueAfter_48 rfl ?_
    refine mE.bipush (v := 99) dX3_dueAfter_49 (by decide) ?_
    refine mE.icmp_ne (tgt := 58) dX3_dueAfter_51 (by decide) (fun c => ?_) (fun c => ?_)
    · have w := w.1 c
      refine mE.iload_n dX3_dueAfter_58 rfl ?_
      refine mE.bipush (v := 119) dX3_dueAfter_59 (by decide) ?_
      refine mE.icmp_eq (tgt := 70) dX3_dueAfter_61 (by decide) (fun c => ?_) (fun c => ?_)
      · have w := w.1 c
        refine mE.iconst (v := 5) dX3_dueAfter_70 (by decide) ?_
        refine mE.goto (tgt := 75) dX3_dueAfter_71 (by decide) ?_
        exact mE.iret dX3_dueAfter_75 rfl rfl w
      · have w := w.2 c
        refine mE.iload_n dX3_dueAfter_64 rfl ?_
        refine mE.bipush (v := 116) dX3_dueAfter_65 (by decide) ?_
        refine mE.icmp_ne (tgt := 74) dX3_dueAfter_67 (by decide) (fun c => ?_) (fun c => ?_)
        · have w := w.1 c
          refine mE.iconst (v := -1) dX3_dueAfter_74 (by decide) ?_
          exact mE.iret dX3_dueAfter_75 rfl rfl w
        · have w := w.2 c
          refine mE.iconst (v := 5) dX3_dueAfter_70 (by decide) ?_
          refine mE.goto (tgt := 75) dX3_dueAfter_71 (by decide) ?_
          exact mE.iret dX3_dueAfter_75 rfl rfl w
    · have w := w.2 c
      refine mE.iconst (v := 1) dX3_dueAfter_54 (by decide) ?_
      refine mE.goto (tgt := 75) dX3_dueAfter_55 (by decide) ?_
      exact mE.iret dX3_dueAfter_75 rfl rfl w
  · have w := w.2
    by_cases c1 : a1 = 1
    · have w := w.1 c1
      refine mE.tabIn (v := 1) (off := 75) (tgt := 76) dX3_dueAfter_1 (by rw [c1]; decide) (by decide) (by decide) rfl (by decide) ?_
      refine mE.iload_n dX3_dueAfter_76 rfl ?_
      refine mE.bipush (v := 48) dX3_dueAfter_77 (by decide) ?_
      refine mE.bipush (v := 49) dX3_dueAfter_79 (by decide) ?_
      refine mE.callN (as := [.inl a2, .inl 48, .inl 49]) (st := []) dX3_dueAfter_81 cf3_dueAfter_25 rfl rfl (Nat.le_of_ble_eq_true rfl) (fun _ => Nat.le_of_ble_eq_true rfl) w (kI_on (fun x34 h33 w => ?_))
      refine mE.if_eq (tgt := 91) dX3_dueAfter_84 (by decide) (fun c => ?_) (fun c => ?_)
      · have w := w.1 c
        refine mE.iconst (v := -1) dX3_dueAfter_91 (by decide) ?_
        exact mE.iret dX3_dueAfter_92 rfl rfl w
      · have w := w.2 c
        refine mE.iconst (v := 2) dX3_dueAfter_87 (by decide) ?_
        refine mE.goto (tgt := 92) dX3_dueAfter_88 (by decide) ?_
        exact mE.iret dX3_dueAfter_92 rfl rfl w
    · have w := w.2
      by_cases c2 : a1 = 2
      · have w := w.1 c2
        refine mE.tabIn (v := 2) (off := 92) (tgt := 93) dX3_dueAfter_1 (by rw [c2]; decide) (by decide) (by decide) rfl (by decide) ?_
        refine mE.iload_n dX3_dueAfter_93 rfl ?_
        refine mE.bipush (v := 49) dX3_dueAfter_94 (by decide) ?_
        refine mE.bipush (v := 52) dX3_dueAfter_96 (by decide) ?_
        refine mE.callN (as := [.inl a2, .inl 49, .inl 52]) (st := []) dX3_dueAfter_98 cf3_dueAfter_25 rfl rfl (Nat.le_of_ble_eq_true rfl) (fun _ => Nat.le_of_ble_eq_true rfl) w (kI_on (fun x36 h35 w => ?_))
        refine mE.if_eq (tgt := 108) dX3_dueAfter_101 (by decide) (fun c => ?_) (fun c => ?_)
        · have w := w.1 c
          refine mE.iconst (v := -1) dX3_dueAfter_108 (by decide) ?_
          exact mE.iret dX3_dueAfter_109 rfl rfl w
        · have w := w.2 c
          refine mE.iconst (v := 3) dX3_dueAfter_104 (by decide) ?_
          refine mE.goto (tgt := 109) dX3_dueAfter_105 (by decide) ?_
          exact mE.iret dX3_dueAfter_109 rfl rfl w
      · have w := w.2
        by_cases c3 : a1 = 3
        · have w := w.1 c3
          refine mE.tabIn (v := 3) (off := 109) (tgt := 110) dX3_dueAfter_1 (by rw [c3]; decide) (by decide) (by decide) rfl (by decide) ?_
          refine mE.iload_n dX3_dueAfter_110 rfl ?_
          refine mE.bipush (v := 49) dX3_dueAfter_111 (by decide) ?_
          refine mE.bipush (v := 52) dX3_dueAfter_113 (by decide) ?_
          refine mE.callN (as := [.inl a2, .inl 49, .inl 52]) (st := []) dX3_dueAfter_115 cf3_dueAfter_25 rfl rfl (Nat.le_of_ble_eq_true rfl) (fun _ => Nat.le_of_ble_eq_true rfl) w (kI_on (fun x38 h37 w => ?_))
          refine mE.if_eq (tgt := 125) dX3_dueAfter_118 (by decide) (fun c => ?_) (fun c => ?_)
          · have w := w.1 c
            refine mE.iconst (v := -1) dX3_dueAfter_125 (by decide) ?_
            exact mE.iret dX3_dueAfter_126 rfl rfl w
          · have w := w.2 c
            refine mE.iconst (v := 4) dX3_dueAfter_121 (by decide) ?_
            refine mE.goto (tgt := 126) dX3_dueAfter_122 (by decide) ?_
            exact mE.iret dX3_dueAfter_126 rfl rfl w
        · have w := w.2
          by_cases c4 : a1 = 4
          · have w := w.1 c4
            refine mE.tabIn (v := 4) (off := 126) (tgt := 127) dX3_dueAfter_1 (by rw [c4]; decide) (by decide) (by decide) rfl (by decide) ?_
            refine mE.iload_n dX3_dueAfter_127 rfl ?_
            refine mE.bipush (v := 49) dX3_dueAfter_128 (by decide) ?_
            refine mE.bipush (v := 57) dX3_dueAfter_130 (by decide) ?_
            refine mE.callN (as := [.inl a2, .inl 49, .inl 57]) (st := []) dX3_dueAfter_132 cf3_dueAfter_25 rfl rfl (Nat.le_of_ble_eq_true rfl) (fun _ => Nat.le_of_ble_eq_true rfl) w (kI_on (fun x40 h39 w => ?_))
            refine mE.if_eq (tgt := 143) dX3_dueAfter_135 (by decide) (fun c => ?_) (fun c => ?_)
            · have w := w.1 c
              refine mE.iconst (v := -1) dX3_dueAfter_143 (by decide) ?_
              exact mE.iret dX3_dueAfter_144 rfl rfl w
            · have w := w.2 c
              refine mE.bipush (v := 7) dX3_dueAfter_138 (by decide) ?_
              refine mE.goto (tgt := 144) dX3_dueAfter_140 (by decide) ?_
              exact mE.iret dX3_dueAfter_144 rfl rfl w
          · have w := w.2
            by_cases c5 : a1 = 5
            · have w := w.1 c5
              refine mE.tabIn (v := 5) (off := 144) (tgt := 145) dX3_dueAfter_1 (by rw [c5]; decide) (by decide) (by decide) rfl (by decide) ?_
              refine mE.iload_n dX3_dueAfter_145 rfl ?_
              refine mE.bipush (v := 48) dX3_dueAfter_146 (by decide) ?_
              refine mE.icmp_ne (tgt := 156) dX3_dueAfter_148 (by decide) (fun c => ?_) (fun c => ?_)
              · have w := w.1 c
                refine mE.iload_n dX3_dueAfter_156 rfl ?_
                refine mE.bipush (v := 49) dX3_dueAfter_157 (by decide) ?_
                refine mE.bipush (v := 57) dX3_dueAfter_159 (by decide) ?_
                refine mE.callN (as := [.inl a2, .inl 49, .inl 57]) (st := []) dX3_dueAfter_161 cf3_dueAfter_25 rfl rfl (Nat.le_of_ble_eq_true rfl) (fun _ => Nat.le_of_ble_eq_true rfl) w (kI_on (fun x42 h41 w => ?_))
                refine mE.if_eq (tgt := 172) dX3_dueAfter_164 (by decide) (fun c => ?_) (fun c => ?_)
                · have w := w.1 c
                  refine mE.iconst (v := -1) dX3_dueAfter_172 (by decide) ?_
                  exact mE.iret dX3_dueAfter_173 rfl rfl w
                · have w := w.2 c
                  refine mE.bipush (v := 6) dX3_dueAfter_167 (by decide) ?_
                  refine mE.goto (tgt := 173) dX3_dueAfter_169 (by decide) ?_
                  exact mE.iret dX3_dueAfter_173 rfl rfl w
              · have w := w.2 c
                refine mE.bipush (v := 7) dX3_dueAfter_151 (by decide) ?_
                refine mE.goto (tgt := 173) dX3_dueAfter_153 (by decide) ?_
                exact mE.iret dX3_dueAfter_173 rfl rfl w
            · have w := w.2
              by_cases c6 : a1 = 6
              · have w := w.1 c6
                refine mE.tabIn (v := 6) (off := 173) (tgt := 174) dX3_dueAfter_1 (by rw [c6]; decide) (by decide) (by decide) rfl (by decide) ?_
                refine mE.iload_n dX3_dueAfter_174 rfl ?_
                refine mE.bipush (v := 48) dX3_dueAfter_175 (by decide) ?_
                refine mE.bipush (v := 57) dX3_dueAfter_177 (by decide) ?_
                refine mE.callN (as := [.inl a2, .inl 48, .inl 57]) (st := []) dX3_dueAfter_179 cf3_dueAfter_25 rfl rfl (Nat.le_of_ble_eq_true rfl) (fun _ => Nat.le_of_ble_eq_true rfl) w (kI_on (fun x44 h43 w => ?_))
                refine mE.if_eq (tgt := 190) dX3_dueAfter_182 (by decide) (fun c => ?_) (fun c => ?_)
                · have w := w.1 c
                  refine mE.iload_n dX3_dueAfter_190 rfl ?_
                  refine mE.bipush (v := 59) dX3_dueAfter_191 (by decide) ?_
                  refine mE.icmp_ne (tgt := 200) dX3_dueAfter_193 (by decide) (fun c => ?_) (fun c => ?_)
                  · have w := w.1 c
                    refine mE.iconst (v := -1) dX3_dueAfter_200 (by decide) ?_
                    exact mE.iret dX3_dueAfter_201 rfl rfl w
                  · have w := w.2 c
                    refine mE.iconst (v := 0) dX3_dueAfter_196 (by decide) ?_
                    refine mE.goto (tgt := 201) dX3_dueAfter_197 (by decide) ?_
                    exact mE.iret dX3_dueAfter_201 rfl rfl w
                · have w := w.2 c
                  refine mE.bipush (v := 7) dX3_dueAfter_185 (by decide) ?_
                  refine mE.goto (tgt := 201) dX3_dueAfter_187 (by decide) ?_
                  exact mE.iret dX3_dueAfter_201 rfl rfl w
              · have w := w.2
                by_cases c7 : a1 = 7
                · have w := w.1 c7
                  refine mE.tabIn (v := 7) (off := 201) (tgt := 202) dX3_dueAfter_1 (by rw [c7]; decide) (by decide) (by decide) rfl (by decide) ?_
                  refine mE.iload_n dX3_dueAfter_202 rfl ?_
                  refine mE.bipush (v := 59) dX3_dueAfter_203 (by decide) ?_
                  refine mE.icmp_ne (tgt := 212) dX3_dueAfter_205 (by decide) (fun c => ?_) (fun c => ?_)
                  · have w := w.1 c
                    refine mE.iconst (v := -1) dX3_dueAfter_212 (by decide) ?_
                    exact mE.iret dX3_dueAfter_213 rfl rfl w
                  · have w := w.2 c
                    refine mE.iconst (v := 0) dX3_dueAfter_208 (by decide) ?_
                    refine mE.goto (tgt := 213) dX3_dueAfter_209 (by decide) ?_
                    exact mE.iret dX3_dueAfter_213 rfl rfl w
                · have w := w.2
                  have w := w c0 c1 c2 c3 c4 c5 c6 c7
                  refine mE.tabOut (tgt := 214) dX3_dueAfter_1 (by have e0 := lv_neT c0 (a := 0) (by decide); have e1 := lv_neT c1 (a := 1) (by decide); have e2 := lv_neT c2 (a := 2) (by decide); have e3 := lv_neT c3 (a := 3) (by decide); have e4 := lv_neT c4 (a := 4) (by decide); have e5 := lv_neT c5 (a := 5) (by decide); have e6 := lv_neT c6 (a := 6) (by decide); have e7 := lv_neT c7 (a := 7) (by decide); omega) (by decide) ?_
                  refine mE.iconst (v := -1) dX3_dueAfter_214 (by decide) ?_
                  exact mE.iret dX3_dueAfter_215 rfl rfl w
theorem w4_become {r : Nat} {r1 : Nat} {h : mH} {Q : mV → mH → Prop} (w : mE M4_become 42 [vR 0 r 0, vR 0 r1 0, vI 0, vU, vU] [] (pI (pI (pI (pI (pI h 0 r 0 6 (h.1 0 r1 0 6)) 0 r 0 7 (h.1 0 r1 0 7)) 0 r 0 8 (h.1 0 r1 0 8)) 0 r 0 4 (h.1 0 r1 0 4)) 0 r 0 5 (h.1 0 r1 0 5)) Q) : mC M4_become [.inr (.inr (some (0, r, 0))), .inr (.inr (some (0, r1, 0)))] h Q := by
  show mE M4_become 0 [vR 0 r 0, vR 0 r1 0, vU, vU, vU] [] h Q
  refine mE.aload_n dX4_become_0 rfl ?_
  refine mE.aload_n dX4_become_1 rfl ?_
  refine mE.getf (w := .inl (h.1 0 r1 0 6)) dX4_become_2 f4_41 rfl ?_
  refine mE.putf dX4_become_5 p4_41 (fun _ _ _ => rfl) rfl rfl ?_
  refine mE.aload_n dX4_become_8 rfl ?_
  refine mE.aload_n dX4_become_9 rfl ?_
  refine mE.getf (w := .inl (h.1 0 r1 0 7)) dX4_become_10 f4_30 rfl ?_
  refine mE.putf dX4_become_13 p4_30 (fun _ _ _ => rfl) rfl rfl ?_
  refine mE.aload_n dX4_become_16 rfl ?_
  refine mE.aload_n dX4_become_17 rfl ?_
  refine mE.getf (w := .inl (h.1 0 r1 0 8)) dX4_become_18 f4_34 rfl ?_
  refine mE.putf dX4_become_21 p4_34 (fun _ _ _ => rfl) rfl rfl ?_
  refine mE.aload_n dX4_become_24 rfl ?_
  refine mE.aload_n dX4_become_25 rfl ?_
  refine mE.getf (w := .inl (h.1 0 r1 0 4)) dX4_become_26 f4_44 rfl ?_
  refine mE.putf dX4_become_29 p4_44 (fun _ _ _ => rfl) rfl rfl ?_
  refine mE.aload_n dX4_become_32 rfl ?_
  refine mE.aload_n dX4_become_33 rfl ?_
  refine mE.getf (w := .inl (h.1 0 r1 0 5)) dX4_become_34 f4_47 rfl ?_
  refine mE.putf dX4_become_37 p4_47 (fun _ _ _ => rfl) rfl rfl ?_
  refine mE.iconst (v := 0) dX4_become_40 (by decide) ?_
  refine mE.istore_n (l2 := [vR 0 r 0, vR 0 r1 0, vI 0, vU, vU]) dX4_become_41 (by decide) rfl ?_
  exact w
theorem w4_become_42 {r : Nat} {r1_ : Nat} {y2 : Int32} {h : mH} {Q : mV → mH → Prop} (w : ((h.1 0 r 0 4) ≤ y2 → mE M4_become 86 [vR 0 r 0, vR 0 r1_ 0, vI 0, vU, vU] [] h Q) ∧ (¬ (h.1 0 r 0 4) ≤ y2 → mC M4_carNumbered [.inr (.inr (some (0, r, 0))), .inl y2] h (kR5 (fun h45 => mC M4_carNumbered [.inr (.inr (some (0, r1_, 0))), .inl y2] h45 (kR5 (fun h48 => mE M4_become 42 [vR 0 r 0, vR 0 r1_ 0, vI (y2 + 1), vU, vU] [] h48 Q) (fun r49 c50 h48 => mE M4_become 42 [vR 0 r 0, vR 0 r1_ 0, vI (y2 + 1), vU, vU] [] h48 Q))) (fun r46 c47 h45 => mC M4_carNumbered [.inr (.inr (some (0, r1_, 0))), .inl y2] h45 (kR5 (fun h51 => mE M4_become 42 [vR 0 r 0, vR 0 r1_ 0, vI (y2 + 1), vU, vU] [] h51 Q) (fun r52 c53 h51 => mC M0_become [.inr (.inr (some (5, r46, c47))), .inr (.inr (some (5, r52, c53)))] h51 (kV (fun h54 => mE M4_become 42 [vR 0 r 0, vR 0 r1_ 0, vI (y2 + 1), vU, vU] [] h54 Q)))))))) : mE M4_become 42 [vR 0 r 0, vR 0 r1_ 0, vI y2, vU, vU] [] h Q := by
  refine mE.iload_n dX4_become_42 rfl ?_
  refine mE.aload_n dX4_become_43 rfl ?_
  refine mE.getf (w := .inl (h.1 0 r 0 4)) dX4_become_44 f4_44 rfl ?_
  refine mE.icmp_ge (tgt := 84) dX4_become_47 (by decide) (fun c => ?_) (fun c => ?_)
  · have w := w.1 c
    refine mE.iconst (v := 0) dX4_become_84 (by decide) ?_
    refine mE.istore_n (l2 := [vR 0 r 0, vR 0 r1_ 0, vI 0, vU, vU]) dX4_become_85 (by decide) rfl ?_
    exact w
  · have w := w.2 c
    refine mE.aload_n dX4_become_50 rfl ?_
    refine mE.iload_n dX4_become_51 rfl ?_
    refine mE.callV (as := [.inl y2]) (k := 0) (r := r) (i := 0) (st := []) dX4_become_52 cf4_become_50 rfl rfl (Nat.le_of_ble_eq_true rfl) (fun _ => Nat.le_of_ble_eq_true rfl) w (kR5_on (fun h45 w => ?_) (fun r46 c47 h45 w => ?_))
    · refine mE.astore_nN (l2 := [vR 0 r 0, vR 0 r1_ 0, vI y2, vN, vU]) dX4_become_55 (by decide) rfl ?_
      refine mE.aload_n dX4_become_56 rfl ?_
      refine mE.iload_n dX4_become_57 rfl ?_
      refine mE.callV (as := [.inl y2]) (k := 0) (r := r1_) (i := 0) (st := []) dX4_become_58 cf4_become_50 rfl rfl (Nat.le_of_ble_eq_true rfl) (fun _ => Nat.le_of_ble_eq_true rfl) w (kR5_on (fun h48 w => ?_) (fun r49 c50 h48 w => ?_))
      · refine mE.astoreN (l2 := [vR 0 r 0, vR 0 r1_ 0, vI y2, vN, vN]) dX4_become_61 (by decide) rfl ?_
        refine mE.aload_nN dX4_become_63 rfl ?_
        refine mE.ifnullN (tgt := 78) dX4_become_64 (by decide) ?_
        refine mE.iinc (v := y2 + 1) (l2 := [vR 0 r 0, vR 0 r1_ 0, vI (y2 + 1), vN, vN]) dX4_become_78 rfl rfl (by decide) rfl ?_
        refine mE.goto (tgt := 42) dX4_become_81 (by decide) ?_
        exact mE.less (by exact ⟨Or.inr rfl, ⟨Or.inr rfl, ⟨Or.inr rfl, ⟨Or.inl rfl, ⟨Or.inl rfl, trivial⟩⟩⟩⟩⟩) w
      · refine mE.astore (l2 := [vR 0 r 0, vR 0 r1_ 0, vI y2, vN, vR 5 r49 c50]) dX4_become_61 (by decide) rfl ?_
        refine mE.aload_nN dX4_become_63 rfl ?_
        refine mE.ifnullN (tgt := 78) dX4_become_64 (by decide) ?_
        refine mE.iinc (v := y2 + 1) (l2 := [vR 0 r 0, vR 0 r1_ 0, vI (y2 + 1), vN, vR 5 r49 c50]) dX4_become_78 rfl rfl (by decide) rfl ?_
        refine mE.goto (tgt := 42) dX4_become_81 (by decide) ?_
        exact mE.less (by exact ⟨Or.inr rfl, ⟨Or.inr rfl, ⟨Or.inr rfl, ⟨Or.inl rfl, ⟨Or.inl rfl, trivial⟩⟩⟩⟩⟩) w
    · refine mE.astore_n (l2 := [vR 0 r 0, vR 0 r1_ 0, vI y2, vR 5 r46 c47, vU]) dX4_become_55 (by decide) rfl ?_
      refine mE.aload_n dX4_become_56 rfl ?_
      refine mE.iload_n dX4_become_57 rfl ?_
      refine mE.callV (as := [.inl y2]) (k := 0) (r := r1_) (i := 0) (st := []) dX4_become_58 cf4_become_50 rfl rfl (Nat.le_of_ble_eq_true rfl) (fun _ => Nat.le_of_ble_eq_true rfl) w (kR5_on (fun h51 w => ?_) (fun r52 c53 h51 w => ?_))
      · refine mE.astoreN (l2 := [vR 0 r 0, vR 0 r1_ 0, vI y2, vR 5 r46 c47, vN]) dX4_become_61 (by decide) rfl ?_
        refine mE.aload_n dX4_become_63 rfl ?_
        refine mE.ifnullR dX4_become_64 ?_
        refine mE.aloadN dX4_become_67 rfl ?_
        refine mE.ifnullN (tgt := 78) dX4_become_69 (by decide) ?_
        refine mE.iinc (v := y2 + 1) (l2 := [vR 0 r 0, vR 0 r1_ 0, vI (y2 + 1), vR 5 r46 c47, vN]) dX4_become_78 rfl rfl (by decide) rfl ?_
        refine mE.goto (tgt := 42) dX4_become_81 (by decide) ?_
        exact mE.less (by exact ⟨Or.inr rfl, ⟨Or.inr rfl, ⟨Or.inr rfl, ⟨Or.inl rfl, ⟨Or.inl rfl, trivial⟩⟩⟩⟩⟩) w
      · refine mE.astore (l2 := [vR 0 r 0, vR 0 r1_ 0, vI y2, vR 5 r46 c47, vR 5 r52 c53]) dX4_become_61 (by decide) rfl ?_
        refine mE.aload_n dX4_become_63 rfl ?_
        refine mE.ifnullR dX4_become_64 ?_
        refine mE.aload dX4_become_67 rfl ?_
        refine mE.ifnullR dX4_become_69 ?_
        refine mE.aload_n dX4_become_72 rfl ?_
        refine mE.aload dX4_become_73 rfl ?_
        refine mE.callV (as := [.inr (.inr (some (5, r52, c53)))]) (k := 5) (r := r46) (i := c47) (st := []) dX4_become_75 cf4_become_54 rfl rfl (Nat.le_of_ble_eq_true rfl) (fun _ => Nat.le_of_ble_eq_true rfl) w (kV_on (fun h54 w => ?_))
        refine mE.iinc (v := y2 + 1) (l2 := [vR 0 r 0, vR 0 r1_ 0, vI (y2 + 1), vR 5 r46 c47, vR 5 r52 c53]) dX4_become_78 rfl rfl (by decide) rfl ?_
        refine mE.goto (tgt := 42) dX4_become_81 (by decide) ?_
        exact mE.less (by exact ⟨Or.inr rfl, ⟨Or.inr rfl, ⟨Or.inr rfl, ⟨Or.inl rfl, ⟨Or.inl rfl, trivial⟩⟩⟩⟩⟩) w
theorem w4_become_86 {r : Nat} {r1_ : Nat} {y2 : Int32} {h : mH} {Q : mV → mH → Prop} (w : ((h.1 0 r 0 5) ≤ y2 → mE M4_become 130 [vR 0 r 0, vR 0 r1_ 0, vI 0, vU, vU] [] h Q) ∧ (¬ (h.1 0 r 0 5) ≤ y2 → mC M4_loopNumbered [.inr (.inr (some (0, r, 0))), .inl y2] h (kR6 (fun h55 => mC M4_loopNumbered [.inr (.inr (some (0, r1_, 0))), .inl y2] h55 (kR6 (fun h58 => mE M4_become 86 [vR 0 r 0, vR 0 r1_ 0, vI (y2 + 1), vU, vU] [] h58 Q) (fun r59 c60 h58 => mE M4_become 86 [vR 0 r 0, vR 0 r1_ 0, vI (y2 + 1), vU, vU] [] h58 Q))) (fun r56 c57 h55 => mC M4_loopNumbered [.inr (.inr (some (0, r1_, 0))), .inl y2] h55 (kR6 (fun h61 => mE M4_become 86 [vR 0 r 0, vR 0 r1_ 0, vI (y2 + 1), vU, vU] [] h61 Q) (fun r62 c63 h61 => mC M2_become [.inr (.inr (some (6, r56, c57))), .inr (.inr (some (6, r62, c63)))] h61 (kV (fun h64 => mE M4_become 86 [vR 0 r 0, vR 0 r1_ 0, vI (y2 + 1), vU, vU] [] h64 Q)))))))) : mE M4_become 86 [vR 0 r 0, vR 0 r1_ 0, vI y2, vU, vU] [] h Q := by
  refine mE.iload_n dX4_become_86 rfl ?_
  refine mE.aload_n dX4_become_87 rfl ?_
  refine mE.getf (w := .inl (h.1 0 r 0 5)) dX4_become_88 f4_47 rfl ?_
  refine mE.icmp_ge (tgt := 128) dX4_become_91 (by decide) (fun c => ?_) (fun c => ?_)
  · have w := w.1 c
    refine mE.iconst (v := 0) dX4_become_128 (by decide) ?_
    refine mE.istore_n (l2 := [vR 0 r 0, vR 0 r1_ 0, vI 0, vU, vU]) dX4_become_129 (by decide) rfl ?_
    exact w
  · have w := w.2 c
    refine mE.aload_n dX4_become_94 rfl ?_
    refine mE.iload_n dX4_become_95 rfl ?_
    refine mE.callV (as := [.inl y2]) (k := 0) (r := r) (i := 0) (st := []) dX4_become_96 cf4_become_58 rfl rfl (Nat.le_of_ble_eq_true rfl) (fun _ => Nat.le_of_ble_eq_true rfl) w (kR6_on (fun h55 w => ?_) (fun r56 c57 h55 w => ?_))
    · refine mE.astore_nN (l2 := [vR 0 r 0, vR 0 r1_ 0, vI y2, vN, vU]) dX4_become_99 (by decide) rfl ?_
      refine mE.aload_n dX4_become_100 rfl ?_
      refine mE.iload_n dX4_become_101 rfl ?_
      refine mE.callV (as := [.inl y2]) (k := 0) (r := r1_) (i := 0) (st := []) dX4_become_102 cf4_become_58 rfl rfl (Nat.le_of_ble_eq_true rfl) (fun _ => Nat.le_of_ble_eq_true rfl) w (kR6_on (fun h58 w => ?_) (fun r59 c60 h58 w => ?_))
      · refine mE.astoreN (l2 := [vR 0 r 0, vR 0 r1_ 0, vI y2, vN, vN]) dX4_become_105 (by decide) rfl ?_
        refine mE.aload_nN dX4_become_107 rfl ?_
        refine mE.ifnullN (tgt := 122) dX4_become_108 (by decide) ?_
        refine mE.iinc (v := y2 + 1) (l2 := [vR 0 r 0, vR 0 r1_ 0, vI (y2 + 1), vN, vN]) dX4_become_122 rfl rfl (by decide) rfl ?_
        refine mE.goto (tgt := 86) dX4_become_125 (by decide) ?_
        exact mE.less (by exact ⟨Or.inr rfl, ⟨Or.inr rfl, ⟨Or.inr rfl, ⟨Or.inl rfl, ⟨Or.inl rfl, trivial⟩⟩⟩⟩⟩) w
      · refine mE.astore (l2 := [vR 0 r 0, vR 0 r1_ 0, vI y2, vN, vR 6 r59 c60]) dX4_become_105 (by decide) rfl ?_
        refine mE.aload_nN dX4_become_107 rfl ?_
        refine mE.ifnullN (tgt := 122) dX4_become_108 (by decide) ?_
        refine mE.iinc (v := y2 + 1) (l2 := [vR 0 r 0, vR 0 r1_ 0, vI (y2 + 1), vN, vR 6 r59 c60]) dX4_become_122 rfl rfl (by decide) rfl ?_
        refine mE.goto (tgt := 86) dX4_become_125 (by decide) ?_
        exact mE.less (by exact ⟨Or.inr rfl, ⟨Or.inr rfl, ⟨Or.inr rfl, ⟨Or.inl rfl, ⟨Or.inl rfl, trivial⟩⟩⟩⟩⟩) w
    · refine mE.astore_n (l2 := [vR 0 r 0, vR 0 r1_ 0, vI y2, vR 6 r56 c57, vU]) dX4_become_99 (by decide) rfl ?_
      refine mE.aload_n dX4_become_100 rfl ?_
      refine mE.iload_n dX4_become_101 rfl ?_
      refine mE.callV (as := [.inl y2]) (k := 0) (r := r1_) (i := 0) (st := []) dX4_become_102 cf4_become_58 rfl rfl (Nat.le_of_ble_eq_true rfl) (fun _ => Nat.le_of_ble_eq_true rfl) w (kR6_on (fun h61 w => ?_) (fun r62 c63 h61 w => ?_))
      · refine mE.astoreN (l2 := [vR 0 r 0, vR 0 r1_ 0, vI y2, vR 6 r56 c57, vN]) dX4_become_105 (by decide) rfl ?_
        refine mE.aload_n dX4_become_107 rfl ?_
        refine mE.ifnullR dX4_become_108 ?_
        refine mE.aloadN dX4_become_111 rfl ?_
        refine mE.ifnullN (tgt := 122) dX4_become_113 (by decide) ?_
        refine mE.iinc (v := y2 + 1) (l2 := [vR 0 r 0, vR 0 r1_ 0, vI (y2 + 1), vR 6 r56 c57, vN]) dX4_become_122 rfl rfl (by decide) rfl ?_
        refine mE.goto (tgt := 86) dX4_become_125 (by decide) ?_
        exact mE.less (by exact ⟨Or.inr rfl, ⟨Or.inr rfl, ⟨Or.inr rfl, ⟨Or.inl rfl, ⟨Or.inl rfl, trivial⟩⟩⟩⟩⟩) w
      · refine mE.astore (l2 := [vR 0 r 0, vR 0 r1_ 0, vI y2, vR 6 r56 c57, vR 6 r62 c63]) dX4_become_105 (by decide) rfl ?_
        refine mE.aload_n dX4_become_107 rfl ?_
        refine mE.ifnullR dX4_become_108 ?_
        refine mE.aload dX4_become_111 rfl ?_
        refine mE.ifnullR dX4_become_113 ?_
        refine mE.aload_n dX4_become_116 rfl ?_
        refine mE.aload dX4_become_117 rfl ?_
        refine mE.callV (as := [.inr (.inr (some (6, r62, c63)))]) (k := 6) (r := r56) (i := c57) (st := []) dX4_become_119 cf4_become_62 rfl rfl (Nat.le_of_ble_eq_true rfl) (fun _ => Nat.le_of_ble_eq_true rfl) w (kV_on (fun h64 w => ?_))
        refine mE.iinc (v := y2 + 1) (l2 := [vR 0 r 0, vR 0 r1_ 0, vI (y2 + 1), vR 6 r56 c57, vR 6 r62 c63]) dX4_become_122 rfl rfl (by decide) rfl ?_
        refine mE.goto (tgt := 86) dX4_become_125 (by decide) ?_
        exact mE.less (by exact ⟨Or.inr rfl, ⟨Or.inr rfl, ⟨Or.inr rfl, ⟨Or.inl rfl, ⟨Or.inl rfl, trivial⟩⟩⟩⟩⟩) w
theorem w4_become_130 {r : Nat} {r1_ : Nat} {y2 : Int32} {h : mH} {Q : mV → mH → Prop} (w : (80 ≤ y2 → Q vU h) ∧ (¬ 80 ≤ y2 → (80 ≤ y2 → Q vU h) ∧ (¬ 80 ≤ y2 → vp_in y2 80 ∧ (vp_in y2 80 ∧ (mE M4_become 130 [vR 0 r 0, vR 0 r1_ 0, vI (y2 + 1), vU, vU] [] (pI h 3 r 0 y2.toNatClampNeg (h.1 3 r1_ 0 y2.toNatClampNeg)) Q))))) : mE M4_become 130 [vR 0 r 0, vR 0 r1_ 0, vI y2, vU, vU] [] h Q := by
  refine mE.iload_n dX4_become_130 rfl ?_
  refine mE.aload_n dX4_become_131 rfl ?_
  refine mE.getf (w := .inr (.inr (some (3, r, 0)))) dX4_become_132 f4_23 rfl ?_
  refine mE.alen (v := 80) dX4_become_135 rfl (by decide) ?_
  refine mE.icmp_ge (tgt := 166) dX4_become_136 (by decide) (fun c => ?_) (fun c => ?_)
  · have w := w.1 c
    exact mE.vret dX4_become_166 rfl w
  · have w := w.2 c
    refine mE.iload_n dX4_become_139 rfl ?_
    refine mE.aload_n dX4_become_140 rfl ?_
    refine mE.getf (w := .inr (.inr (some (3, r1_, 0)))) dX4_become_141 f4_23 rfl ?_
    refine mE.alen (v := 80) dX4_become_144 rfl (by decide) ?_
    refine mE.icmp_ge (tgt := 166) dX4_become_145 (by decide) (fun c => ?_) (fun c => ?_)
    · have w := w.1 c
      exact mE.vret dX4_become_166 rfl w
    · have w := w.2 c
      refine mE.aload_n dX4_become_148 rfl ?_
      refine mE.getf (w := .inr (.inr (some (3, r, 0)))) dX4_become_149 f4_23 rfl ?_
      refine mE.iload_n dX4_become_152 rfl ?_
      refine mE.aload_n dX4_become_153 rfl ?_
      refine mE.getf (w := .inr (.inr (some (3, r1_, 0)))) dX4_become_154 f4_23 rfl ?_
      refine mE.iload_n dX4_become_157 rfl ?_
      refine mE.iald (x := h.1 3 r1_ 0 y2.toNatClampNeg) dX4_become_158 rfl rfl w.1 rfl ?_
      have w := w.2
      refine mE.iast dX4_become_159 rfl rfl (fun _ _ _ _ => rfl) w.1 ?_
      have w := w.2
      refine mE.iinc (v := y2 + 1) (l2 := [vR 0 r 0, vR 0 r1_ 0, vI (y2 + 1), vU, vU]) dX4_become_160 rfl rfl (by decide) rfl ?_
      refine mE.goto (tgt := 130) dX4_become_163 (by decide) ?_
      exact w
theorem w4_carNumbered {r : Nat} {a1 : Int32} {h : mH} {Q : mV → mH → Prop} (w : (a1 < 0 → Q (vN) h) ∧ (¬ a1 < 0 → ((h.1 0 r 0 4) ≤ a1 → Q (vN) h) ∧ (¬ (h.1 0 r 0 4) ≤ a1 → (40 ≤ a1 → Q (vN) h) ∧ (¬ 40 ≤ a1 → vp_in a1 40 ∧ (Q (vR 5 r a1.toNatClampNeg) h))))) : mC M4_carNumbered [.inr (.inr (some (0, r, 0))), .inl a1] h Q := by
  show mE M4_carNumbered 0 [vR 0 r 0, vI a1] [] h Q
  refine mE.iload_n dX4_carNumbered_0 rfl ?_
  refine mE.if_lt (tgt := 30) dX4_carNumbered_1 (by decide) (fun c => ?_) (fun c => ?_)
  · have w := w.1 c
    refine mE.null dX4_carNumbered_30 ?_
    exact mE.aret dX4_carNumbered_31 rfl w
  · have w := w.2 c
    refine mE.iload_n dX4_carNumbered_4 rfl ?_
    refine mE.aload_n dX4_carNumbered_5 rfl ?_
    refine mE.getf (w := .inl (h.1 0 r 0 4)) dX4_carNumbered_6 f4_44 rfl ?_
    refine mE.icmp_ge (tgt := 30) dX4_carNumbered_9 (by decide) (fun c => ?_) (fun c => ?_)
    · have w := w.1 c
      refine mE.null dX4_carNumbered_30 ?_
      exact mE.aret dX4_carNumbered_31 rfl w
    · have w := w.2 c
      refine mE.iload_n dX4_carNumbered_12 rfl ?_
      refine mE.aload_n dX4_carNumbered_13 rfl ?_
      refine mE.getf (w := .inr (.inr (some (1, r, 0)))) dX4_carNumbered_14 f4_11 rfl ?_
      refine mE.alen (v := 40) dX4_carNumbered_17 rfl (by decide) ?_
      refine mE.icmp_ge (tgt := 30) dX4_carNumbered_18 (by decide) (fun c => ?_) (fun c => ?_)
      · have w := w.1 c
        refine mE.null dX4_carNumbered_30 ?_
        exact mE.aret dX4_carNumbered_31 rfl w
      · have w := w.2 c
        refine mE.aload_n dX4_carNumbered_21 rfl ?_
        refine mE.getf (w := .inr (.inr (some (1, r, 0)))) dX4_carNumbered_22 f4_11 rfl ?_
        refine mE.iload_n dX4_carNumbered_25 rfl ?_
        refine mE.aald (w := .inr (.inr (some (5, r, a1.toNatClampNeg)))) dX4_carNumbered_26 rfl rfl w.1 rfl ?_
        have w := w.2
        refine mE.goto (tgt := 31) dX4_carNumbered_27 (by decide) ?_
        exact mE.aret dX4_carNumbered_31 rfl w
theorem w4_loopNumbered {r : Nat} {a1 : Int32} {h : mH} {Q : mV → mH → Prop} (w : (a1 < 0 → Q (vN) h) ∧ (¬ a1 < 0 → ((h.1 0 r 0 5) ≤ a1 → Q (vN) h) ∧ (¬ (h.1 0 r 0 5) ≤ a1 → (6 ≤ a1 → Q (vN) h) ∧ (¬ 6 ≤ a1 → vp_in a1 6 ∧ (Q (vR 6 r a1.toNatClampNeg) h))))) : mC M4_loopNumbered [.inr (.inr (some (0, r, 0))), .inl a1] h Q := by
  show mE M4_loopNumbered 0 [vR 0 r 0, vI a1] [] h Q
  refine mE.iload_n dX4_loopNumbered_0 rfl ?_
  refine mE.if_lt (tgt := 30) dX4_loopNumbered_1 (by decide) (fun c => ?_) (fun c => ?_)
  · have w := w.1 c
    refine mE.null dX4_loopNumbered_30 ?_
    exact mE.aret dX4_loopNumbered_31 rfl w
  · have w := w.2 c
    refine mE.iload_n dX4_loopNumbered_4 rfl ?_
    refine mE.aload_n dX4_loopNumbered_5 rfl ?_
    refine mE.getf (w := .inl (h.1 0 r 0 5)) dX4_loopNumbered_6 f4_47 rfl ?_
    refine mE.icmp_ge (tgt := 30) dX4_loopNumbered_9 (by decide) (fun c => ?_) (fun c => ?_)
    · have w := w.1 c
      refine mE.null dX4_loopNumbered_30 ?_
      exact mE.aret dX4_loopNumbered_31 rfl w
    · have w := w.2 c
      refine mE.iload_n dX4_loopNumbered_12 rfl ?_
      refine mE.aload_n dX4_loopNumbered_13 rfl ?_
      refine mE.getf (w := .inr (.inr (some (2, r, 0)))) dX4_loopNumbered_14 f4_19 rfl ?_
      refine mE.alen (v := 6) dX4_loopNumbered_17 rfl (by decide) ?_
      refine mE.icmp_ge (tgt := 30) dX4_loopNumbered_18 (by decide) (fun c => ?_) (fun c => ?_)
      · have w := w.1 c
        refine mE.null dX4_loopNumbered_30 ?_
        exact mE.aret dX4_loopNumbered_31 rfl w
      · have w := w.2 c
        refine mE.aload_n dX4_loopNumbered_21 rfl ?_
        refine mE.getf (w := .inr (.inr (some (2, r, 0)))) dX4_loopNumbered_22 f4_19 rfl ?_
        refine mE.iload_n dX4_loopNumbered_25 rfl ?_
        refine mE.aald (w := .inr (.inr (some (6, r, a1.toNatClampNeg)))) dX4_loopNumbered_26 rfl rfl w.1 rfl ?_
        have w := w.2
        refine mE.goto (tgt := 31) dX4_loopNumbered_27 (by decide) ?_
        exact mE.aret dX4_loopNumbered_31 rfl w
theorem w4_changeSetting {r : Nat} {a1 : Int32} {a2 : Int32} {h : mH} {Q : mV → mH → Prop} (w : (¬ a1 = 0 → (¬ a1 = 1 → Q (vI (-2)) h) ∧ (a1 = 1 → mC M6_isWithin [.inl a2, .inl 1, .inl 5] h (kI (fun x66 h65 => (x66 = 0 → Q (vI (-2)) h65) ∧ (¬ x66 = 0 → Q (vI (h65.1 0 r 0 8)) (pI h65 0 r 0 8 a2)))))) ∧ (a1 = 0 → mC M6_isWithin [.inl a2, .inl 0, .inl 8] h (kI (fun x68 h67 => (x68 = 0 → (¬ a1 = 1 → Q (vI (-2)) h67) ∧ (a1 = 1 → mC M6_isWithin [.inl a2, .inl 1, .inl 5] h67 (kI (fun x70 h69 => (x70 = 0 → Q (vI (-2)) h69) ∧ (¬ x70 = 0 → Q (vI (h69.1 0 r 0 8)) (pI h69 0 r 0 8 a2)))))) ∧ (¬ x68 = 0 → Q (vI (h67.1 0 r 0 7)) (pI h67 0 r 0 7 a2)))))) : mC M4_changeSetting [.inr (.inr (some (0, r, 0))), .inl a1, .inl a2] h Q := by
  show mE M4_changeSetting 0 [vR 0 r 0, vI a1, vI a2, vU] [] h Q
  refine mE.iload_n dX4_changeSetting_0 rfl ?_
  refine mE.if_ne (tgt := 26) dX4_changeSetting_1 (by decide) (fun c => ?_) (fun c => ?_)
  · have w := w.1 c
    refine mE.iload_n dX4_changeSetting_26 rfl ?_
    refine mE.iconst (v := 1) dX4_changeSetting_27 (by decide) ?_
    refine mE.icmp_ne (tgt := 52) dX4_changeSetting_28 (by decide) (fun c => ?_) (fun c => ?_)
    · have w := w.1 c
      refine mE.bipush (v := -2) dX4_changeSetting_52 (by decide) ?_
      exact mE.iret dX4_changeSetting_54 rfl rfl w
    · have w := w.2 c
      refine mE.iload_n dX4_changeSetting_31 rfl ?_
      refine mE.iconst (v := 1) dX4_changeSetting_32 (by decide) ?_
      refine mE.iconst (v := 5) dX4_changeSetting_33 (by decide) ?_
      refine mE.callN (as := [.inl a2, .inl 1, .inl 5]) (st := []) dX4_changeSetting_34 cf4_changeSetting_65 rfl rfl (Nat.le_of_ble_eq_true rfl) (fun _ => Nat.le_of_ble_eq_true rfl) w (kI_on (fun x66 h65 w => ?_))
      refine mE.if_eq (tgt := 52) dX4_changeSetting_37 (by decide) (fun c => ?_) (fun c => ?_)
      · have w := w.1 c
        refine mE.bipush (v := -2) dX4_changeSetting_52 (by decide) ?_
        exact mE.iret dX4_changeSetting_54 rfl rfl w
      · have w := w.2 c
        refine mE.aload_n dX4_changeSetting_40 rfl ?_
        refine mE.getf (w := .inl (h65.1 0 r 0 8)) dX4_changeSetting_41 f4_34 rfl ?_
        refine mE.istore_n (l2 := [vR 0 r 0, vI a1, vI a2, vI (h65.1 0 r 0 8)]) dX4_changeSetting_44 (by decide) rfl ?_
        refine mE.aload_n dX4_changeSetting_45 rfl ?_
        refine mE.iload_n dX4_changeSetting_46 rfl ?_
        refine mE.putf dX4_changeSetting_47 p4_34 (fun _ _ _ => rfl) rfl rfl ?_
        refine mE.iload_n dX4_changeSetting_50 rfl ?_
        exact mE.iret dX4_changeSetting_51 rfl rfl w
  · have w := w.2 c
    refine mE.iload_n dX4_changeSetting_4 rfl ?_
    refine mE.iconst (v := 0) dX4_changeSetting_5 (by decide) ?_
    refine mE.bipush (v := 8) dX4_changeSetting_6 (by decide) ?_
    refine mE.callN (as := [.inl a2, .inl 0, .inl 8]) (st := []) dX4_changeSetting_8 cf4_changeSetting_65 rfl rfl (Nat.le_of_ble_eq_true rfl) (fun _ => Nat.le_of_ble_eq_true rfl) w (kI_on (fun x68 h67 w => ?_))
    refine mE.if_eq (tgt := 26) dX4_changeSetting_11 (by decide) (fun c => ?_) (fun c => ?_)
    · have w := w.1 c
      refine mE.iload_n dX4_changeSetting_26 rfl ?_
      refine mE.iconst (v := 1) dX4_changeSetting_27 (by decide) ?_
      refine mE.icmp_ne (tgt := 52) dX4_changeSetting_28 (by decide) (fun c => ?_) (fun c => ?_)
      · have w := w.1 c
        refine mE.bipush (v := -2) dX4_changeSetting_52 (by decide) ?_
        exact mE.iret dX4_changeSetting_54 rfl rfl w
      · have w := w.2 c
        refine mE.iload_n dX4_changeSetting_31 rfl ?_
        refine mE.iconst (v := 1) dX4_changeSetting_32 (by decide) ?_
        refine mE.iconst (v := 5) dX4_changeSetting_33 (by decide) ?_
        refine mE.callN (as := [.inl a2, .inl 1, .inl 5]) (st := []) dX4_changeSetting_34 cf4_changeSetting_65 rfl rfl (Nat.le_of_ble_eq_true rfl) (fun _ => Nat.le_of_ble_eq_true rfl) w (kI_on (fun x70 h69 w => ?_))
        refine mE.if_eq (tgt := 52) dX4_changeSetting_37 (by decide) (fun c => ?_) (fun c => ?_)
        · have w := w.1 c
          refine mE.bipush (v := -2) dX4_changeSetting_52 (by decide) ?_
          exact mE.iret dX4_changeSetting_54 rfl rfl w
        · have w := w.2 c
          refine mE.aload_n dX4_changeSetting_40 rfl ?_
          refine mE.getf (w := .inl (h69.1 0 r 0 8)) dX4_changeSetting_41 f4_34 rfl ?_
          refine mE.istore_n (l2 := [vR 0 r 0, vI a1, vI a2, vI (h69.1 0 r 0 8)]) dX4_changeSetting_44 (by decide) rfl ?_
          refine mE.aload_n dX4_changeSetting_45 rfl ?_
          refine mE.iload_n dX4_changeSetting_46 rfl ?_
          refine mE.putf dX4_changeSetting_47 p4_34 (fun _ _ _ => rfl) rfl rfl ?_
          refine mE.iload_n dX4_changeSetting_50 rfl ?_
          exact mE.iret dX4_changeSetting_51 rfl rfl w
    · have w := w.2 c
      refine mE.aload_n dX4_changeSetting_14 rfl ?_
      refine mE.getf (w := .inl (h67.1 0 r 0 7)) dX4_changeSetting_15 f4_30 rfl ?_
      refine mE.istore_n (l2 := [vR 0 r 0, vI a1, vI a2, vI (h67.1 0 r 0 7)]) dX4_changeSetting_18 (by decide) rfl ?_
      refine mE.aload_n dX4_changeSetting_19 rfl ?_
      refine mE.iload_n dX4_changeSetting_20 rfl ?_
      refine mE.putf dX4_changeSetting_21 p4_30 (fun _ _ _ => rfl) rfl rfl ?_
      refine mE.iload_n dX4_changeSetting_24 rfl ?_
      exact mE.iret dX4_changeSetting_25 rfl rfl w
theorem w4_layLoop {r : Nat} {a1 : Int32} {a2 : Int32} {a3 : Int32} {a4 : Int32} {a5 : Int32} {h : mH} {Q : mV → mH → Prop} (w : mC M6_isWithin [.inl a1, .inl 0, .inl 1] h (kI (fun x72 h71 => (x72 = 0 → Q (vI (-2)) h71) ∧ (¬ x72 = 0 → mC M6_isWithin [.inl a3, .inl 1, .inl 3] h71 (kI (fun x74 h73 => (x74 = 0 → Q (vI (-2)) h73) ∧ (¬ x74 = 0 → mC M6_isWithin [.inl a2, .inl 0, .inl (40 - a3)] h73 (kI (fun x76 h75 => (x76 = 0 → Q (vI (-2)) h75) ∧ (¬ x76 = 0 → mC M6_areBounds [.inl a4, .inl a5] h75 (kI (fun x78 h77 => (¬ x78 = 0 → ((h77.1 0 r 0 5) < 6 → mC M4_loopNumbered [.inr (.inr (some (0, r, 0))), .inl (h77.1 0 r 0 5)] (pI h77 0 r 0 5 ((h77.1 0 r 0 5) + 1)) (kR6 (fun h79 => Q (vI (h77.1 0 r 0 5)) h79) (fun r80 c81 h79 => mC M2_lay [.inr (.inr (some (6, r80, c81))), .inl a1, .inl a2, .inl a3, .inl a4, .inl a5] h79 (kV (fun h82 => mC M4_markCarsOver [.inr (.inr (some (0, r, 0))), .inr (.inr (some (6, r80, c81))), .inl (h77.1 0 r 0 5)] h82 (kV (fun h83 => Q (vI (h77.1 0 r 0 5)) h83))))))) ∧ (¬ (h77.1 0 r 0 5) < 6 → Q (vI (-4)) h77)) ∧ (x78 = 0 → Q (vI (-2)) h77))))))))))))) : mC M4_layLoop [.inr (.inr (some (0, r, 0))), .inl a1, .inl a2, .inl a3, .inl a4, .inl a5] h Q := by
  show mE M4_layLoop 0 [vR 0 r 0, vI a1, vI a2, vI a3, vI a4, vI a5, vU, vU] [] h Q
  refine mE.iload_n dX4_layLoop_0 rfl ?_
  refine mE.iconst (v := 0) dX4_layLoop_1 (by decide) ?_
  refine mE.iconst (v := 1) dX4_layLoop_2 (by decide) ?_
  refine mE.callN (as := [.inl a1, .inl 0, .inl 1]) (st := []) dX4_layLoop_3 cf4_layLoop_65 rfl rfl (Nat.le_of_ble_eq_true rfl) (fun _ => Nat.le_of_ble_eq_true rfl) w (kI_on (fun x72 h71 w => ?_))
  refine mE.if_eq (tgt := 40) dX4_layLoop_6 (by decide) (fun c => ?_) (fun c => ?_)
  · have w := w.1 c
    refine mE.bipush (v := -2) dX4_layLoop_40 (by decide) ?_
    exact mE.iret dX4_layLoop_42 rfl rfl w
  · have w := w.2 c
    refine mE.iload_n dX4_layLoop_9 rfl ?_
    refine mE.iconst (v := 1) dX4_layLoop_10 (by decide) ?_
    refine mE.iconst (v := 3) dX4_layLoop_11 (by decide) ?_
    refine mE.callN (as := [.inl a3, .inl 1, .inl 3]) (st := []) dX4_layLoop_12 cf4_layLoop_65 rfl rfl (Nat.le_of_ble_eq_true rfl) (fun _ => Nat.le_of_ble_eq_true rfl) w (kI_on (fun x74 h73 w => ?_))
    refine mE.if_eq (tgt := 40) dX4_layLoop_15 (by decide) (fun c => ?_) (fun c => ?_)
    · have w := w.1 c
      refine mE.bipush (v := -2) dX4_layLoop_40 (by decide) ?_
      exact mE.iret dX4_layLoop_42 rfl rfl w
    · have w := w.2 c
      refine mE.iload_n dX4_layLoop_18 rfl ?_
      refine mE.iconst (v := 0) dX4_layLoop_19 (by decide) ?_
      refine mE.bipush (v := 40) dX4_layLoop_20 (by decide) ?_
      refine mE.iload_n dX4_layLoop_22 rfl ?_
      refine mE.isub dX4_layLoop_23 ?_
      refine mE.callN (as := [.inl a2, .inl 0, .inl (40 - a3)]) (st := []) dX4_layLoop_24 cf4_layLoop_65 rfl rfl (Nat.le_of_ble_eq_true rfl) (fun _ => Nat.le_of_ble_eq_true rfl) w (kI_on (fun x76 h75 w => ?_))
      refine mE.if_eq (tgt := 40) dX4_layLoop_27 (by decide) (fun c => ?_) (fun c => ?_)
      · have w := w.1 c
        refine mE.bipush (v := -2) dX4_layLoop_40 (by decide) ?_
        exact mE.iret dX4_layLoop_42 rfl rfl w
      · have w := w.2 c
        refine mE.iload dX4_layLoop_30 rfl ?_
        refine mE.iload dX4_layLoop_32 rfl ?_
        refine mE.callN (as := [.inl a4, .inl a5]) (st := []) dX4_layLoop_34 cf4_layLoop_69 rfl rfl (Nat.le_of_ble_eq_true rfl) (fun _ => Nat.le_of_ble_eq_true rfl) w (kI_on (fun x78 h77 w => ?_))
        refine mE.if_ne (tgt := 43) dX4_layLoop_37 (by decide) (fun c => ?_) (fun c => ?_)
        · have w := w.1 c
          refine mE.aload_n dX4_layLoop_43 rfl ?_
          refine mE.getf (w := .inl (h77.1 0 r 0 5)) dX4_layLoop_44 f4_47 rfl ?_
          refine mE.aload_n dX4_layLoop_47 rfl ?_
          refine mE.getf (w := .inr (.inr (some (2, r, 0)))) dX4_layLoop_48 f4_19 rfl ?_
          refine mE.alen (v := 6) dX4_layLoop_51 rfl (by decide) ?_
          refine mE.icmp_lt (tgt := 58) dX4_layLoop_52 (by decide) (fun c => ?_) (fun c => ?_)
          · have w := w.1 c
            refine mE.aload_n dX4_layLoop_58 rfl ?_
            refine mE.getf (w := .inl (h77.1 0 r 0 5)) dX4_layLoop_59 f4_47 rfl ?_
            refine mE.istore (l2 := [vR 0 r 0, vI a1, vI a2, vI a3, vI a4, vI a5, vI (h77.1 0 r 0 5), vU]) dX4_layLoop_62 (by decide) rfl ?_
            refine mE.aload_n dX4_layLoop_64 rfl ?_
            refine mE.dupR dX4_layLoop_65 ?_
            refine mE.getf (w := .inl (h77.1 0 r 0 5)) dX4_layLoop_66 f4_47 rfl ?_
            refine mE.iconst (v := 1) dX4_layLoop_69 (by decide) ?_
            refine mE.iadd dX4_layLoop_70 ?_
            refine mE.putf dX4_layLoop_71 p4_47 (fun _ _ _ => rfl) rfl rfl ?_
            refine mE.aload_n dX4_layLoop_74 rfl ?_
            refine mE.iload dX4_layLoop_75 rfl ?_
            refine mE.callV (as := [.inl (h77.1 0 r 0 5)]) (k := 0) (r := r) (i := 0) (st := []) dX4_layLoop_77 cf4_layLoop_58 rfl rfl (Nat.le_of_ble_eq_true rfl) (fun _ => Nat.le_of_ble_eq_true rfl) w (kR6_on (fun h79 w => ?_) (fun r80 c81 h79 w => ?_))
            · refine mE.astoreN (l2 := [vR 0 r 0, vI a1, vI a2, vI a3, vI a4, vI a5, vI (h77.1 0 r 0 5), vN]) dX4_layLoop_80 (by decide) rfl ?_
              refine mE.aloadN dX4_layLoop_82 rfl ?_
              refine mE.ifnullN (tgt := 107) dX4_layLoop_84 (by decide) ?_
              refine mE.iload dX4_layLoop_107 rfl ?_
              exact mE.iret dX4_layLoop_109 rfl rfl w
            · refine mE.astore (l2 := [vR 0 r 0, vI a1, vI a2, vI a3, vI a4, vI a5, vI (h77.1 0 r 0 5), vR 6 r80 c81]) dX4_layLoop_80 (by decide) rfl ?_
              refine mE.aload dX4_layLoop_82 rfl ?_
              refine mE.ifnullR dX4_layLoop_84 ?_
              refine mE.aload dX4_layLoop_87 rfl ?_
              refine mE.iload_n dX4_layLoop_89 rfl ?_
              refine mE.iload_n dX4_layLoop_90 rfl ?_
              refine mE.iload_n dX4_layLoop_91 rfl ?_
              refine mE.iload dX4_layLoop_92 rfl ?_
              refine mE.iload dX4_layLoop_94 rfl ?_
              refine mE.callV (as := [.inl a1, .inl a2, .inl a3, .inl a4, .inl a5]) (k := 6) (r := r80) (i := c81) (st := []) dX4_layLoop_96 cf4_layLoop_73 rfl rfl (Nat.le_of_ble_eq_true rfl) (fun _ => Nat.le_of_ble_eq_true rfl) w (kV_on (fun h82 w => ?_))
              refine mE.aload_n dX4_layLoop_99 rfl ?_
              refine mE.aload dX4_layLoop_100 rfl ?_
              refine mE.iload dX4_layLoop_102 rfl ?_
              refine mE.callV (as := [.inr (.inr (some (6, r80, c81))), .inl (h77.1 0 r 0 5)]) (k := 0) (r := r) (i := 0) (st := []) dX4_layLoop_104 cf4_layLoop_77 rfl rfl (Nat.le_of_ble_eq_true rfl) (fun _ => Nat.le_of_ble_eq_true rfl) w (kV_on (fun h83 w => ?_))
              refine mE.iload dX4_layLoop_107 rfl ?_
              exact mE.iret dX4_layLoop_109 rfl rfl w
          · have w := w.2 c
            refine mE.bipush (v := -4) dX4_layLoop_55 (by decide) ?_
            exact mE.iret dX4_layLoop_57 rfl rfl w
        · have w := w.2 c
          refine mE.bipush (v := -2) dX4_layLoop_40 (by decide) ?_
          exact mE.iret dX4_layLoop_42 rfl rfl w
theorem w4_markCarsOver {r : Nat} {r1 : Nat} {i1 : Nat} {a2 : Int32} {h : mH} {Q : mV → mH → Prop} (w : mE M4_markCarsOver 2 [vR 0 r 0, vR 6 r1 i1, vI a2, vI 0, vU] [] h Q) : mC M4_markCarsOver [.inr (.inr (some (0, r, 0))), .inr (.inr (some (6, r1, i1))), .inl a2] h Q := by
  show mE M4_markCarsOver 0 [vR 0 r 0, vR 6 r1 i1, vI a2, vU, vU] [] h Q
  refine mE.iconst (v := 0) dX4_markCarsOver_0 (by decide) ?_
  refine mE.istore_n (l2 := [vR 0 r 0, vR 6 r1 i1, vI a2, vI 0, vU]) dX4_markCarsOver_1 (by decide) rfl ?_
  exact w
theorem w4_markCarsOver_2 {r : Nat} {r1_ : Nat} {i1_ : Nat} {y2 : Int32} {y3 : Int32} {h : mH} {Q : mV → mH → Prop} (w : ((h.1 0 r 0 4) ≤ y3 → Q vU h) ∧ (¬ (h.1 0 r 0 4) ≤ y3 → mC M4_carNumbered [.inr (.inr (some (0, r, 0))), .inl y3] h (kR5 (fun h84 => mE M4_markCarsOver 2 [vR 0 r 0, vR 6 r1_ i1_, vI y2, vI (y3 + 1), vU] [] h84 Q) (fun r85 c86 h84 => mC M2_isUnder [.inr (.inr (some (6, r1_, i1_))), .inr (.inr (some (5, r85, c86)))] h84 (kI (fun x88 h87 => (x88 = 0 → mE M4_markCarsOver 2 [vR 0 r 0, vR 6 r1_ i1_, vI y2, vI (y3 + 1), vU] [] h87 Q) ∧ (¬ x88 = 0 → mE M4_markCarsOver 2 [vR 0 r 0, vR 6 r1_ i1_, vI y2, vI (y3 + 1), vU] [] (pI h87 5 r85 c86 10 ((h87.1 5 r85 c86 10) ||| (1 <<< (y2 &&& 31)))) Q))))))) : mE M4_markCarsOver 2 [vR 0 r 0, vR 6 r1_ i1_, vI y2, vI y3, vU] [] h Q := by
  refine mE.iload_n dX4_markCarsOver_2 rfl ?_
  refine mE.aload_n dX4_markCarsOver_3 rfl ?_
  refine mE.getf (w := .inl (h.1 0 r 0 4)) dX4_markCarsOver_4 f4_44 rfl ?_
  refine mE.icmp_ge (tgt := 50) dX4_markCarsOver_7 (by decide) (fun c => ?_) (fun c => ?_)
  · have w := w.1 c
    exact mE.vret dX4_markCarsOver_50 rfl w
  · have w := w.2 c
    refine mE.aload_n dX4_markCarsOver_10 rfl ?_
    refine mE.iload_n dX4_markCarsOver_11 rfl ?_
    refine mE.callV (as := [.inl y3]) (k := 0) (r := r) (i := 0) (st := []) dX4_markCarsOver_12 cf4_markCarsOver_50 rfl rfl (Nat.le_of_ble_eq_true rfl) (fun _ => Nat.le_of_ble_eq_true rfl) w (kR5_on (fun h84 w => ?_) (fun r85 c86 h84 w => ?_))
    · refine mE.astoreN (l2 := [vR 0 r 0, vR 6 r1_ i1_, vI y2, vI y3, vN]) dX4_markCarsOver_15 (by decide) rfl ?_
      refine mE.aloadN dX4_markCarsOver_17 rfl ?_
      refine mE.ifnullN (tgt := 44) dX4_markCarsOver_19 (by decide) ?_
      refine mE.iinc (v := y3 + 1) (l2 := [vR 0 r 0, vR 6 r1_ i1_, vI y2, vI (y3 + 1), vN]) dX4_markCarsOver_44 rfl rfl (by decide) rfl ?_
      refine mE.goto (tgt := 2) dX4_markCarsOver_47 (by decide) ?_
      exact mE.less (by exact ⟨Or.inr rfl, ⟨Or.inr rfl, ⟨Or.inr rfl, ⟨Or.inr rfl, ⟨Or.inl rfl, trivial⟩⟩⟩⟩⟩) w
    · refine mE.astore (l2 := [vR 0 r 0, vR 6 r1_ i1_, vI y2, vI y3, vR 5 r85 c86]) dX4_markCarsOver_15 (by decide) rfl ?_
      refine mE.aload dX4_markCarsOver_17 rfl ?_
      refine mE.ifnullR dX4_markCarsOver_19 ?_
      refine mE.aload_n dX4_markCarsOver_22 rfl ?_
      refine mE.aload dX4_markCarsOver_23 rfl ?_
      refine mE.callV (as := [.inr (.inr (some (5, r85, c86)))]) (k := 6) (r := r1_) (i := i1_) (st := []) dX4_markCarsOver_25 cf4_markCarsOver_81 rfl rfl (Nat.le_of_ble_eq_true rfl) (fun _ => Nat.le_of_ble_eq_true rfl) w (kI_on (fun x88 h87 w => ?_))
      refine mE.if_eq (tgt := 44) dX4_markCarsOver_28 (by decide) (fun c => ?_) (fun c => ?_)
      · have w := w.1 c
        refine mE.iinc (v := y3 + 1) (l2 := [vR 0 r 0, vR 6 r1_ i1_, vI y2, vI (y3 + 1), vR 5 r85 c86]) dX4_markCarsOver_44 rfl rfl (by decide) rfl ?_
        refine mE.goto (tgt := 2) dX4_markCarsOver_47 (by decide) ?_
        exact mE.less (by exact ⟨Or.inr rfl, ⟨Or.inr rfl, ⟨Or.inr rfl, ⟨Or.inr rfl, ⟨Or.inl rfl, trivial⟩⟩⟩⟩⟩) w
      · have w := w.2 c
        refine mE.aload dX4_markCarsOver_31 rfl ?_
        refine mE.dupR dX4_markCarsOver_33 ?_
        refine mE.getf (w := .inl (h87.1 5 r85 c86 10)) dX4_markCarsOver_34 f4_85 rfl ?_
        refine mE.iconst (v := 1) dX4_markCarsOver_37 (by decide) ?_
        refine mE.iload_n dX4_markCarsOver_38 rfl ?_
        refine mE.ishl dX4_markCarsOver_39 ?_
        refine mE.ior dX4_markCarsOver_40 ?_
        refine mE.putf dX4_markCarsOver_41 p4_85 (fun _ _ _ => rfl) rfl rfl ?_
        refine mE.iinc (v := y3 + 1) (l2 := [vR 0 r 0, vR 6 r1_ i1_, vI y2, vI (y3 + 1), vR 5 r85 c86]) dX4_markCarsOver_44 rfl rfl (by decide) rfl ?_
        refine mE.goto (tgt := 2) dX4_markCarsOver_47 (by decide) ?_
        exact mE.less (by exact ⟨Or.inr rfl, ⟨Or.inr rfl, ⟨Or.inr rfl, ⟨Or.inr rfl, ⟨Or.inl rfl, trivial⟩⟩⟩⟩⟩) w
theorem w4_changeBounds {r : Nat} {a1 : Int32} {a2 : Int32} {a3 : Int32} {h : mH} {Q : mV → mH → Prop} (w : mC M4_loopNumbered [.inr (.inr (some (0, r, 0))), .inl a1] h (kR6 (fun h89 => Q (vI (-1)) h89) (fun r90 c91 h89 => mC M6_areBounds [.inl a2, .inl a3] h89 (kI (fun x93 h92 => (¬ x93 = 0 → Q (vI (h92.1 6 r90 c91 3)) (pI (pI h92 6 r90 c91 3 a2) 6 r90 c91 4 a3)) ∧ (x93 = 0 → Q (vI (-2)) h92)))))) : mC M4_changeBounds [.inr (.inr (some (0, r, 0))), .inl a1, .inl a2, .inl a3] h Q := by
  show mE M4_changeBounds 0 [vR 0 r 0, vI a1, vI a2, vI a3, vU, vU] [] h Q
  refine mE.aload_n dX4_changeBounds_0 rfl ?_
  refine mE.iload_n dX4_changeBounds_1 rfl ?_
  refine mE.callV (as := [.inl a1]) (k := 0) (r := r) (i := 0) (st := []) dX4_changeBounds_2 cf4_changeBounds_58 rfl rfl (Nat.le_of_ble_eq_true rfl) (fun _ => Nat.le_of_ble_eq_true rfl) w (kR6_on (fun h89 w => ?_) (fun r90 c91 h89 w => ?_))
  · refine mE.astoreN (l2 := [vR 0 r 0, vI a1, vI a2, vI a3, vN, vU]) dX4_changeBounds_5 (by decide) rfl ?_
    refine mE.aloadN dX4_changeBounds_7 rfl ?_
    refine mE.ifnonnullN dX4_changeBounds_9 ?_
    refine mE.iconst (v := -1) dX4_changeBounds_12 (by decide) ?_
    exact mE.iret dX4_changeBounds_13 rfl rfl w
  · refine mE.astore (l2 := [vR 0 r 0, vI a1, vI a2, vI a3, vR 6 r90 c91, vU]) dX4_changeBounds_5 (by decide) rfl ?_
    refine mE.aload dX4_changeBounds_7 rfl ?_
    refine mE.ifnonnullR (tgt := 14) dX4_changeBounds_9 (by decide) ?_
    refine mE.iload_n dX4_changeBounds_14 rfl ?_
    refine mE.iload_n dX4_changeBounds_15 rfl ?_
    refine mE.callN (as := [.inl a2, .inl a3]) (st := []) dX4_changeBounds_16 cf4_changeBounds_69 rfl rfl (Nat.le_of_ble_eq_true rfl) (fun _ => Nat.le_of_ble_eq_true rfl) w (kI_on (fun x93 h92 w => ?_))
    refine mE.if_ne (tgt := 25) dX4_changeBounds_19 (by decide) (fun c => ?_) (fun c => ?_)
    · have w := w.1 c
      refine mE.aload dX4_changeBounds_25 rfl ?_
      refine mE.getf (w := .inl (h92.1 6 r90 c91 3)) dX4_changeBounds_27 f4_88 rfl ?_
      refine mE.istore (l2 := [vR 0 r 0, vI a1, vI a2, vI a3, vR 6 r90 c91, vI (h92.1 6 r90 c91 3)]) dX4_changeBounds_30 (by decide) rfl ?_
      refine mE.aload dX4_changeBounds_32 rfl ?_
      refine mE.iload_n dX4_changeBounds_34 rfl ?_
      refine mE.putf dX4_changeBounds_35 p4_88 (fun _ _ _ => rfl) rfl rfl ?_
      refine mE.aload dX4_changeBounds_38 rfl ?_
      refine mE.iload_n dX4_changeBounds_40 rfl ?_
      refine mE.putf dX4_changeBounds_41 p4_91 (fun _ _ _ => rfl) rfl rfl ?_
      refine mE.iload dX4_changeBounds_44 rfl ?_
      exact mE.iret dX4_changeBounds_46 rfl rfl w
    · have w := w.2 c
      refine mE.bipush (v := -2) dX4_changeBounds_22 (by decide) ?_
      exact mE.iret dX4_changeBounds_24 rfl rfl w
theorem w4_admitCar {r : Nat} {a1 : Int32} {a2 : Int32} {a3 : Int32} {a4 : Int32} {h : mH} {Q : mV → mH → Prop} (w : mC M6_isWithin [.inl a1, .inl 0, .inl 1] h (kI (fun x95 h94 => (x95 = 0 → Q (vI (-2)) h94) ∧ (¬ x95 = 0 → mC M6_isWithin [.inl a2, .inl 1, .inl 4] h94 (kI (fun x97 h96 => (x97 = 0 → Q (vI (-2)) h96) ∧ (¬ x97 = 0 → mC M6_isWithin [.inl a3, .inl 1, .inl 4] h96 (kI (fun x99 h98 => (x99 = 0 → Q (vI (-2)) h98) ∧ (¬ x99 = 0 → mC M6_isWithin [.inl a4, .inl 1, .inl 9] h98 (kI (fun x101 h100 => (¬ x101 = 0 → ((h100.1 0 r 0 4) < 40 → mC M4_takerOf [.inr (.inr (some (0, r, 0))), .inl a1, .inl 0] h100 (kI (fun x103 h102 => (x103 = (-6) → mC M4_carNumbered [.inr (.inr (some (0, r, 0))), .inl (h102.1 0 r 0 4)] (pI h102 0 r 0 4 ((h102.1 0 r 0 4) + 1)) (kR5 (fun h104 => Q (vI (h102.1 0 r 0 4)) h104) (fun r105 c106 h104 => mC M0_arrive [.inr (.inr (some (5, r105, c106))), .inl a1, .inl a2, .inl a3, .inl a4] h104 (kV (fun h107 => mC M4_take [.inr (.inr (some (0, r, 0))), .inl a1, .inl 0, .inl (h102.1 0 r 0 4)] h107 (kV (fun h108 => Q (vI (h102.1 0 r 0 4)) h108))))))) ∧ (¬ x103 = (-6) → Q (vI (-5)) h102)))) ∧ (¬ (h100.1 0 r 0 4) < 40 → Q (vI (-4)) h100)) ∧ (x101 = 0 → Q (vI (-2)) h100))))))))))))) : mC M4_admitCar [.inr (.inr (some (0, r, 0))), .inl a1, .inl a2, .inl a3, .inl a4] h Q := by
  show mE M4_admitCar 0 [vR 0 r 0, vI a1, vI a2, vI a3, vI a4, vU, vU] [] h Q
  refine mE.iload_n dX4_admitCar_0 rfl ?_
  refine mE.iconst (v := 0) dX4_admitCar_1 (by decide) ?_
  refine mE.iconst (v := 1) dX4_admitCar_2 (by decide) ?_
  refine mE.callN (as := [.inl a1, .inl 0, .inl 1]) (st := []) dX4_admitCar_3 cf4_admitCar_65 rfl rfl (Nat.le_of_ble_eq_true rfl) (fun _ => Nat.le_of_ble_eq_true rfl) w (kI_on (fun x95 h94 w => ?_))
  refine mE.if_eq (tgt := 38) dX4_admitCar_6 (by decide) (fun c => ?_) (fun c => ?_)
  · have w := w.1 c
    refine mE.bipush (v := -2) dX4_admitCar_38 (by decide) ?_
    exact mE.iret dX4_admitCar_40 rfl rfl w
  · have w := w.2 c
    refine mE.iload_n dX4_admitCar_9 rfl ?_
    refine mE.iconst (v := 1) dX4_admitCar_10 (by decide) ?_
    refine mE.iconst (v := 4) dX4_admitCar_11 (by decide) ?_
    refine mE.callN (as := [.inl a2, .inl 1, .inl 4]) (st := []) dX4_admitCar_12 cf4_admitCar_65 rfl rfl (Nat.le_of_ble_eq_true rfl) (fun _ => Nat.le_of_ble_eq_true rfl) w (kI_on (fun x97 h96 w => ?_))
    refine mE.if_eq (tgt := 38) dX4_admitCar_15 (by decide) (fun c => ?_) (fun c => ?_)
    · have w := w.1 c
      refine mE.bipush (v := -2) dX4_admitCar_38 (by decide) ?_
      exact mE.iret dX4_admitCar_40 rfl rfl w
    · have w := w.2 c
      refine mE.iload_n dX4_admitCar_18 rfl ?_
      refine mE.iconst (v := 1) dX4_admitCar_19 (by decide) ?_
      refine mE.iconst (v := 4) dX4_admitCar_20 (by decide) ?_
      refine mE.callN (as := [.inl a3, .inl 1, .inl 4]) (st := []) dX4_admitCar_21 cf4_admitCar_65 rfl rfl (Nat.le_of_ble_eq_true rfl) (fun _ => Nat.le_of_ble_eq_true rfl) w (kI_on (fun x99 h98 w => ?_))
      refine mE.if_eq (tgt := 38) dX4_admitCar_24 (by decide) (fun c => ?_) (fun c => ?_)
      · have w := w.1 c
        refine mE.bipush (v := -2) dX4_admitCar_38 (by decide) ?_
        exact mE.iret dX4_admitCar_40 rfl rfl w
      · have w := w.2 c
        refine mE.iload dX4_admitCar_27 rfl ?_
        refine mE.iconst (v := 1) dX4_admitCar_29 (by decide) ?_
        refine mE.bipush (v := 9) dX4_admitCar_30 (by decide) ?_
        refine mE.callN (as := [.inl a4, .inl 1, .inl 9]) (st := []) dX4_admitCar_32 cf4_admitCar_65 rfl rfl (Nat.le_of_ble_eq_true rfl) (fun _ => Nat.le_of_ble_eq_true rfl) w (kI_on (fun x101 h100 w => ?_))
        refine mE.if_ne (tgt := 41) dX4_admitCar_35 (by decide) (fun c => ?_) (fun c => ?_)
        · have w := w.1 c
          refine mE.aload_n dX4_admitCar_41 rfl ?_
          refine mE.getf (w := .inl (h100.1 0 r 0 4)) dX4_admitCar_42 f4_44 rfl ?_
          refine mE.aload_n dX4_admitCar_45 rfl ?_
          refine mE.getf (w := .inr (.inr (some (1, r, 0)))) dX4_admitCar_46 f4_11 rfl ?_
          refine mE.alen (v := 40) dX4_admitCar_49 rfl (by decide) ?_
          refine mE.icmp_lt (tgt := 56) dX4_admitCar_50 (by decide) (fun c => ?_) (fun c => ?_)
          · have w := w.1 c
            refine mE.aload_n dX4_admitCar_56 rfl ?_
            refine mE.iload_n dX4_admitCar_57 rfl ?_
            refine mE.iconst (v := 0) dX4_admitCar_58 (by decide) ?_
            refine mE.callV (as := [.inl a1, .inl 0]) (k := 0) (r := r) (i := 0) (st := []) dX4_admitCar_59 cf4_admitCar_94 rfl rfl (Nat.le_of_ble_eq_true rfl) (fun _ => Nat.le_of_ble_eq_true rfl) w (kI_on (fun x103 h102 w => ?_))
            refine mE.bipush (v := -6) dX4_admitCar_62 (by decide) ?_
            refine mE.icmp_eq (tgt := 70) dX4_admitCar_64 (by decide) (fun c => ?_) (fun c => ?_)
            · have w := w.1 c
              refine mE.aload_n dX4_admitCar_70 rfl ?_
              refine mE.getf (w := .inl (h102.1 0 r 0 4)) dX4_admitCar_71 f4_44 rfl ?_
              refine mE.istore (l2 := [vR 0 r 0, vI a1, vI a2, vI a3, vI a4, vI (h102.1 0 r 0 4), vU]) dX4_admitCar_74 (by decide) rfl ?_
              refine mE.aload_n dX4_admitCar_76 rfl ?_
              refine mE.dupR dX4_admitCar_77 ?_
              refine mE.getf (w := .inl (h102.1 0 r 0 4)) dX4_admitCar_78 f4_44 rfl ?_
              refine mE.iconst (v := 1) dX4_admitCar_81 (by decide) ?_
              refine mE.iadd dX4_admitCar_82 ?_
              refine mE.putf dX4_admitCar_83 p4_44 (fun _ _ _ => rfl) rfl rfl ?_
              refine mE.aload_n dX4_admitCar_86 rfl ?_
              refine mE.iload dX4_admitCar_87 rfl ?_
              refine mE.callV (as := [.inl (h102.1 0 r 0 4)]) (k := 0) (r := r) (i := 0) (st := []) dX4_admitCar_89 cf4_admitCar_50 rfl rfl (Nat.le_of_ble_eq_true rfl) (fun _ => Nat.le_of_ble_eq_true rfl) w (kR5_on (fun h104 w => ?_) (fun r105 c106 h104 w => ?_))
              · refine mE.astoreN (l2 := [vR 0 r 0, vI a1, vI a2, vI a3, vI a4, vI (h102.1 0 r 0 4), vN]) dX4_admitCar_92 (by decide) rfl ?_
                refine mE.aloadN dX4_admitCar_94 rfl ?_
                refine mE.ifnullN (tgt := 117) dX4_admitCar_96 (by decide) ?_
                refine mE.iload dX4_admitCar_117 rfl ?_
                exact mE.iret dX4_admitCar_119 rfl rfl w
              · refine mE.astore (l2 := [vR 0 r 0, vI a1, vI a2, vI a3, vI a4, vI (h102.1 0 r 0 4), vR 5 r105 c106]) dX4_admitCar_92 (by decide) rfl ?_
                refine mE.aload dX4_admitCar_94 rfl ?_
                refine mE.ifnullR dX4_admitCar_96 ?_
                refine mE.aload dX4_admitCar_99 rfl ?_
                refine mE.iload_n dX4_admitCar_101 rfl ?_
                refine mE.iload_n dX4_admitCar_102 rfl ?_
                refine mE.iload_n dX4_admitCar_103 rfl ?_
                refine mE.iload dX4_admitCar_104 rfl ?_
                refine mE.callV (as := [.inl a1, .inl a2, .inl a3, .inl a4]) (k := 5) (r := r105) (i := c106) (st := []) dX4_admitCar_106 cf4_admitCar_98 rfl rfl (Nat.le_of_ble_eq_true rfl) (fun _ => Nat.le_of_ble_eq_true rfl) w (kV_on (fun h107 w => ?_))
                refine mE.aload_n dX4_admitCar_109 rfl ?_
                refine mE.iload_n dX4_admitCar_110 rfl ?_
                refine mE.iconst (v := 0) dX4_admitCar_111 (by decide) ?_
                refine mE.iload dX4_admitCar_112 rfl ?_
                refine mE.callV (as := [.inl a1, .inl 0, .inl (h102.1 0 r 0 4)]) (k := 0) (r := r) (i := 0) (st := []) dX4_admitCar_114 cf4_admitCar_102 rfl rfl (Nat.le_of_ble_eq_true rfl) (fun _ => Nat.le_of_ble_eq_true rfl) w (kV_on (fun h108 w => ?_))
                refine mE.iload dX4_admitCar_117 rfl ?_
                exact mE.iret dX4_admitCar_119 rfl rfl w
            · have w := w.2 c
              refine mE.bipush (v := -5) dX4_admitCar_67 (by decide) ?_
              exact mE.iret dX4_admitCar_69 rfl rfl w
          · have w := w.2 c
            refine mE.bipush (v := -4) dX4_admitCar_53 (by decide) ?_
            exact mE.iret dX4_admitCar_55 rfl rfl w
        · have w := w.2 c
          refine mE.bipush (v := -2) dX4_admitCar_38 (by decide) ?_
          exact mE.iret dX4_admitCar_40 rfl rfl w
theorem w4_turnWish {r : Nat} {a1 : Int32} {h : mH} {Q : mV → mH → Prop} (w : mC M4_carNumbered [.inr (.inr (some (0, r, 0))), .inl a1] h (kR5 (fun h109 => Q (vI (-1)) h109) (fun r110 c111 h109 => ((h109.1 5 r110 c111 6) = 0 → (¬ (h109.1 5 r110 c111 7) = 0 → Q (vI 0) (pI h109 5 r110 c111 7 0)) ∧ ((h109.1 5 r110 c111 7) = 0 → Q (vI 1) (pI h109 5 r110 c111 7 1))) ∧ (¬ (h109.1 5 r110 c111 6) = 0 → Q (vI (-5)) h109)))) : mC M4_turnWish [.inr (.inr (some (0, r, 0))), .inl a1] h Q := by
  show mE M4_turnWish 0 [vR 0 r 0, vI a1, vU] [] h Q
  refine mE.aload_n dX4_turnWish_0 rfl ?_
  refine mE.iload_n dX4_turnWish_1 rfl ?_
  refine mE.callV (as := [.inl a1]) (k := 0) (r := r) (i := 0) (st := []) dX4_turnWish_2 cf4_turnWish_50 rfl rfl (Nat.le_of_ble_eq_true rfl) (fun _ => Nat.le_of_ble_eq_true rfl) w (kR5_on (fun h109 w => ?_) (fun r110 c111 h109 w => ?_))
  · refine mE.astore_nN (l2 := [vR 0 r 0, vI a1, vN]) dX4_turnWish_5 (by decide) rfl ?_
    refine mE.aload_nN dX4_turnWish_6 rfl ?_
    refine mE.ifnonnullN dX4_turnWish_7 ?_
    refine mE.iconst (v := -1) dX4_turnWish_10 (by decide) ?_
    exact mE.iret dX4_turnWish_11 rfl rfl w
  · refine mE.astore_n (l2 := [vR 0 r 0, vI a1, vR 5 r110 c111]) dX4_turnWish_5 (by decide) rfl ?_
    refine mE.aload_n dX4_turnWish_6 rfl ?_
    refine mE.ifnonnullR (tgt := 12) dX4_turnWish_7 (by decide) ?_
    refine mE.aload_n dX4_turnWish_12 rfl ?_
    refine mE.getf (w := .inl (h109.1 5 r110 c111 6)) dX4_turnWish_13 f4_106 rfl ?_
    refine mE.if_eq (tgt := 22) dX4_turnWish_16 (by decide) (fun c => ?_) (fun c => ?_)
    · have w := w.1 c
      refine mE.aload_n dX4_turnWish_22 rfl ?_
      refine mE.aload_n dX4_turnWish_23 rfl ?_
      refine mE.getf (w := .inl (h109.1 5 r110 c111 7)) dX4_turnWish_24 f4_110 rfl ?_
      refine mE.if_ne (tgt := 34) dX4_turnWish_27 (by decide) (fun c => ?_) (fun c => ?_)
      · have w := w.1 c
        refine mE.iconst (v := 0) dX4_turnWish_34 (by decide) ?_
        refine mE.putf dX4_turnWish_35 p4_110 (fun _ _ _ => rfl) rfl rfl ?_
        refine mE.aload_n dX4_turnWish_38 rfl ?_
        refine mE.getf (w := .inl 0) dX4_turnWish_39 f4_110 (svc (pI_at (h := h109) (k := 5) (r := r110) (i := c111) (s := 7) (x := 0))) ?_
        refine mE.if_eq (tgt := 49) dX4_turnWish_42 (by decide) (fun c => ?_) (fun c => absurd c (by decide))
        refine mE.iconst (v := 0) dX4_turnWish_49 (by decide) ?_
        exact mE.iret dX4_turnWish_50 rfl rfl w
      · have w := w.2 c
        refine mE.iconst (v := 1) dX4_turnWish_30 (by decide) ?_
        refine mE.goto (tgt := 35) dX4_turnWish_31 (by decide) ?_
        refine mE.putf dX4_turnWish_35 p4_110 (fun _ _ _ => rfl) rfl rfl ?_
        refine mE.aload_n dX4_turnWish_38 rfl ?_
        refine mE.getf (w := .inl 1) dX4_turnWish_39 f4_110 (svc (pI_at (h := h109) (k := 5) (r := r110) (i := c111) (s := 7) (x := 1))) ?_
        refine mE.if_eq (tgt := 49) dX4_turnWish_42 (by decide) (fun c => absurd c (by decide)) (fun c => ?_)
        refine mE.iconst (v := 1) dX4_turnWish_45 (by decide) ?_
        refine mE.goto (tgt := 50) dX4_turnWish_46 (by decide) ?_
        exact mE.iret dX4_turnWish_50 rfl rfl w
    · have w := w.2 c
      refine mE.bipush (v := -5) dX4_turnWish_19 (by decide) ?_
      exact mE.iret dX4_turnWish_21 rfl rfl w
theorem w4_changeSpeed {r : Nat} {a1 : Int32} {a2 : Int32} {h : mH} {Q : mV → mH → Prop} (w : mC M4_carNumbered [.inr (.inr (some (0, r, 0))), .inl a1] h (kR5 (fun h112 => Q (vI (-1)) h112) (fun r113 c114 h112 => mC M6_isWithin [.inl a2, .inl 0, .inl 4] h112 (kI (fun x116 h115 => (¬ x116 = 0 → ((h115.1 5 r113 c114 6) = 0 → Q (vI (h115.1 5 r113 c114 4)) (pI h115 5 r113 c114 4 a2)) ∧ (¬ (h115.1 5 r113 c114 6) = 0 → Q (vI (-5)) h115)) ∧ (x116 = 0 → Q (vI (-2)) h115)))))) : mC M4_changeSpeed [.inr (.inr (some (0, r, 0))), .inl a1, .inl a2] h Q := by
  show mE M4_changeSpeed 0 [vR 0 r 0, vI a1, vI a2, vU, vU] [] h Q
  refine mE.aload_n dX4_changeSpeed_0 rfl ?_
  refine mE.iload_n dX4_changeSpeed_1 rfl ?_
  refine mE.callV (as := [.inl a1]) (k := 0) (r := r) (i := 0) (st := []) dX4_changeSpeed_2 cf4_changeSpeed_50 rfl rfl (Nat.le_of_ble_eq_true rfl) (fun _ => Nat.le_of_ble_eq_true rfl) w (kR5_on (fun h112 w => ?_) (fun r113 c114 h112 w => ?_))
  · refine mE.astore_nN (l2 := [vR 0 r 0, vI a1, vI a2, vN, vU]) dX4_changeSpeed_5 (by decide) rfl ?_
    refine mE.aload_nN dX4_changeSpeed_6 rfl ?_
    refine mE.ifnonnullN dX4_changeSpeed_7 ?_
    refine mE.iconst (v := -1) dX4_changeSpeed_10 (by decide) ?_
    exact mE.iret dX4_changeSpeed_11 rfl rfl w
  · refine mE.astore_n (l2 := [vR 0 r 0, vI a1, vI a2, vR 5 r113 c114, vU]) dX4_changeSpeed_5 (by decide) rfl ?_
    refine mE.aload_n dX4_changeSpeed_6 rfl ?_
    refine mE.ifnonnullR (tgt := 12) dX4_changeSpeed_7 (by decide) ?_
    refine mE.iload_n dX4_changeSpeed_12 rfl ?_
    refine mE.iconst (v := 0) dX4_changeSpeed_13 (by decide) ?_
    refine mE.iconst (v := 4) dX4_changeSpeed_14 (by decide) ?_
    refine mE.callN (as := [.inl a2, .inl 0, .inl 4]) (st := []) dX4_changeSpeed_15 cf4_changeSpeed_65 rfl rfl (Nat.le_of_ble_eq_true rfl) (fun _ => Nat.le_of_ble_eq_true rfl) w (kI_on (fun x116 h115 w => ?_))
    refine mE.if_ne (tgt := 24) dX4_changeSpeed_18 (by decide) (fun c => ?_) (fun c => ?_)
    · have w := w.1 c
      refine mE.aload_n dX4_changeSpeed_24 rfl ?_
      refine mE.getf (w := .inl (h115.1 5 r113 c114 6)) dX4_changeSpeed_25 f4_106 rfl ?_
      refine mE.if_eq (tgt := 34) dX4_changeSpeed_28 (by decide) (fun c => ?_) (fun c => ?_)
      · have w := w.1 c
        refine mE.aload_n dX4_changeSpeed_34 rfl ?_
        refine mE.getf (w := .inl (h115.1 5 r113 c114 4)) dX4_changeSpeed_35 f4_113 rfl ?_
        refine mE.istore (l2 := [vR 0 r 0, vI a1, vI a2, vR 5 r113 c114, vI (h115.1 5 r113 c114 4)]) dX4_changeSpeed_38 (by decide) rfl ?_
        refine mE.aload_n dX4_changeSpeed_40 rfl ?_
        refine mE.iload_n dX4_changeSpeed_41 rfl ?_
        refine mE.putf dX4_changeSpeed_42 p4_113 (fun _ _ _ => rfl) rfl rfl ?_
        refine mE.iload dX4_changeSpeed_45 rfl ?_
        exact mE.iret dX4_changeSpeed_47 rfl rfl w
      · have w := w.2 c
        refine mE.bipush (v := -5) dX4_changeSpeed_31 (by decide) ?_
        exact mE.iret dX4_changeSpeed_33 rfl rfl w
    · have w := w.2 c
      refine mE.bipush (v := -2) dX4_changeSpeed_21 (by decide) ?_
      exact mE.iret dX4_changeSpeed_23 rfl rfl w
theorem w4_letPass {r : Nat} {a1 : Int32} {h : mH} {Q : mV → mH → Prop} (w : mC M6_isTicks [.inl a1] h (kI (fun x118 h117 => (¬ x118 = 0 → mE M4_letPass 12 [vR 0 r 0, vI a1, vI 0] [] h117 Q) ∧ (x118 = 0 → Q (vI (-2)) h117)))) : mC M4_letPass [.inr (.inr (some (0, r, 0))), .inl a1] h Q := by
  show mE M4_letPass 0 [vR 0 r 0, vI a1, vU] [] h Q
  refine mE.iload_n dX4_letPass_0 rfl ?_
  refine mE.callN (as := [.inl a1]) (st := []) dX4_letPass_1 cf4_letPass_116 rfl rfl (Nat.le_of_ble_eq_true rfl) (fun _ => Nat.le_of_ble_eq_true rfl) w (kI_on (fun x118 h117 w => ?_))
  refine mE.if_ne (tgt := 10) dX4_letPass_4 (by decide) (fun c => ?_) (fun c => ?_)
  · have w := w.1 c
    refine mE.iconst (v := 0) dX4_letPass_10 (by decide) ?_
    refine mE.istore_n (l2 := [vR 0 r 0, vI a1, vI 0]) dX4_letPass_11 (by decide) rfl ?_
    exact w
  · have w := w.2 c
    refine mE.bipush (v := -2) dX4_letPass_7 (by decide) ?_
    exact mE.iret dX4_letPass_9 rfl rfl w
theorem w4_letPass_12 {r : Nat} {y1 : Int32} {y2 : Int32} {h : mH} {Q : mV → mH → Prop} (w : (y1 ≤ y2 → Q (vI (h.1 0 r 0 6)) h) ∧ (¬ y1 ≤ y2 → mC M4_listener [.inr (.inr (some (0, r, 0)))] h (kI (fun x120 h119 => mC M4_passTick [.inr (.inr (some (0, r, 0))), .inl x120] h119 (kV (fun h121 => mE M4_letPass 12 [vR 0 r 0, vI y1, vI (y2 + 1)] [] h121 Q)))))) : mE M4_letPass 12 [vR 0 r 0, vI y1, vI y2] [] h Q := by
  refine mE.iload_n dX4_letPass_12 rfl ?_
  refine mE.iload_n dX4_letPass_13 rfl ?_
  refine mE.icmp_ge (tgt := 31) dX4_letPass_14 (by decide) (fun c => ?_) (fun c => ?_)
  · have w := w.1 c
    refine mE.aload_n dX4_letPass_31 rfl ?_
    refine mE.getf (w := .inl (h.1 0 r 0 6)) dX4_letPass_32 f4_41 rfl ?_
    exact mE.iret dX4_letPass_35 rfl rfl w
  · have w := w.2 c
    refine mE.aload_n dX4_letPass_17 rfl ?_
    refine mE.aload_n dX4_letPass_18 rfl ?_
    refine mE.callV (as := []) (k := 0) (r := r) (i := 0) (st := [vR 0 r 0]) dX4_letPass_19 cf4_letPass_120 rfl rfl (Nat.le_of_ble_eq_true rfl) (fun _ => Nat.le_of_ble_eq_true rfl) w (kI_on (fun x120 h119 w => ?_))
    refine mE.callV (as := [.inl x120]) (k := 0) (r := r) (i := 0) (st := []) dX4_letPass_22 cf4_letPass_124 rfl rfl (Nat.le_of_ble_eq_true rfl) (fun _ => Nat.le_of_ble_eq_true rfl) w (kV_on (fun h121 w => ?_))
    refine mE.iinc (v := y2 + 1) (l2 := [vR 0 r 0, vI y1, vI (y2 + 1)]) dX4_letPass_25 rfl rfl (by decide) rfl ?_
    refine mE.goto (tgt := 12) dX4_letPass_28 (by decide) ?_
    exact w
theorem w4_listener {r : Nat} {h : mH} {Q : mV → mH → Prop} (w : ((h.1 0 r 0 5) ≤ 0 → Q (vI (-6)) h) ∧ (¬ (h.1 0 r 0 5) ≤ 0 → ((h.1 0 r 0 8) ≤ 0 → Q (vI (-6)) h) ∧ (¬ (h.1 0 r 0 8) ≤ 0 → ¬ (h.1 0 r 0 8) = 0 ∧ (¬ (h.1 0 r 0 5) = 0 ∧ (Q (vI (((h.1 0 r 0 6) / (h.1 0 r 0 8)) - ((h.1 0 r 0 6) / (h.1 0 r 0 8)) / (h.1 0 r 0 5) * (h.1 0 r 0 5))) h))))) : mC M4_listener [.inr (.inr (some (0, r, 0)))] h Q := by
  show mE M4_listener 0 [vR 0 r 0] [] h Q
  refine mE.aload_n dX4_listener_0 rfl ?_
  refine mE.getf (w := .inl (h.1 0 r 0 5)) dX4_listener_1 f4_47 rfl ?_
  refine mE.if_le (tgt := 31) dX4_listener_4 (by decide) (fun c => ?_) (fun c => ?_)
  · have w := w.1 c
    refine mE.bipush (v := -6) dX4_listener_31 (by decide) ?_
    exact mE.iret dX4_listener_33 rfl rfl w
  · have w := w.2 c
    refine mE.aload_n dX4_listener_7 rfl ?_
    refine mE.getf (w := .inl (h.1 0 r 0 8)) dX4_listener_8 f4_34 rfl ?_
    refine mE.if_le (tgt := 31) dX4_listener_11 (by decide) (fun c => ?_) (fun c => ?_)
    · have w := w.1 c
      refine mE.bipush (v := -6) dX4_listener_31 (by decide) ?_
      exact mE.iret dX4_listener_33 rfl rfl w
    · have w := w.2 c
      refine mE.aload_n dX4_listener_14 rfl ?_
      refine mE.getf (w := .inl (h.1 0 r 0 6)) dX4_listener_15 f4_41 rfl ?_
      refine mE.aload_n dX4_listener_18 rfl ?_
      refine mE.getf (w := .inl (h.1 0 r 0 8)) dX4_listener_19 f4_34 rfl ?_
      refine mE.idiv dX4_listener_22 w.1 ?_
      have w := w.2
      refine mE.aload_n dX4_listener_23 rfl ?_
      refine mE.getf (w := .inl (h.1 0 r 0 5)) dX4_listener_24 f4_47 rfl ?_
      refine mE.irem dX4_listener_27 w.1 ?_
      have w := w.2
      refine mE.goto (tgt := 33) dX4_listener_28 (by decide) ?_
      exact mE.iret dX4_listener_33 rfl rfl w
theorem w4_passTick {r : Nat} {a1 : Int32} {h : mH} {Q : mV → mH → Prop} (w : mC M4_orderMovers [.inr (.inr (some (0, r, 0)))] h (kI (fun x123 h122 => mE M4_passTick 7 [vR 0 r 0, vI a1, vI x123, vI 0, vU] [] h122 Q))) : mC M4_passTick [.inr (.inr (some (0, r, 0))), .inl a1] h Q := by
  show mE M4_passTick 0 [vR 0 r 0, vI a1, vU, vU, vU] [] h Q
  refine mE.aload_n dX4_passTick_0 rfl ?_
  refine mE.callV (as := []) (k := 0) (r := r) (i := 0) (st := []) dX4_passTick_1 cf4_passTick_127 rfl rfl (Nat.le_of_ble_eq_true rfl) (fun _ => Nat.le_of_ble_eq_true rfl) w (kI_on (fun x123 h122 w => ?_))
  refine mE.istore_n (l2 := [vR 0 r 0, vI a1, vI x123, vU, vU]) dX4_passTick_4 (by decide) rfl ?_
  refine mE.iconst (v := 0) dX4_passTick_5 (by decide) ?_
  refine mE.istore_n (l2 := [vR 0 r 0, vI a1, vI x123, vI 0, vU]) dX4_passTick_6 (by decide) rfl ?_
  exact w
theorem w4_passTick_7 {r : Nat} {y1 : Int32} {y2 : Int32} {y3 : Int32} {h : mH} {Q : mV → mH → Prop} (w : (y2 ≤ y3 → mC M4_notePassings [.inr (.inr (some (0, r, 0)))] h (kV (fun h124 => mC M4_loopNumbered [.inr (.inr (some (0, r, 0))), .inl y1] h124 (kR6 (fun h125 => Q vU (pI h125 0 r 0 6 ((h125.1 0 r 0 6) + 1))) (fun r126 c127 h125 => mC M4_strengthOf [.inr (.inr (some (0, r, 0))), .inr (.inr (some (6, r126, c127)))] h125 (kI (fun x129 h128 => mC M2_hear [.inr (.inr (some (6, r126, c127))), .inl x129] h128 (kV (fun h130 => Q vU (pI h130 0 r 0 6 ((h130.1 0 r 0 6) + 1))))))))))) ∧ (¬ y2 ≤ y3 → (40 ≤ y3 → mC M4_notePassings [.inr (.inr (some (0, r, 0)))] h (kV (fun h131 => mC M4_loopNumbered [.inr (.inr (some (0, r, 0))), .inl y1] h131 (kR6 (fun h132 => Q vU (pI h132 0 r 0 6 ((h132.1 0 r 0 6) + 1))) (fun r133 c134 h132 => mC M4_strengthOf [.inr (.inr (some (0, r, 0))), .inr (.inr (some (6, r133, c134)))] h132 (kI (fun x136 h135 => mC M2_hear [.inr (.inr (some (6, r133, c134))), .inl x136] h135 (kV (fun h137 => Q vU (pI h137 0 r 0 6 ((h137.1 0 r 0 6) + 1))))))))))) ∧ (¬ 40 ≤ y3 → vp_in y3 40 ∧ (h.2 r (y3.toNatClampNeg) = none → mE M4_passTick 7 [vR 0 r 0, vI y1, vI y2, vI (y3 + 1), vU] [] h Q) ∧ (∀ r138 c139 : Nat, h.2 r (y3.toNatClampNeg) = some (r138, c139) → mC M4_moveCar [.inr (.inr (some (0, r, 0))), .inr (.inr (some (5, r138, c139)))] h (kV (fun h140 => mE M4_passTick 7 [vR 0 r 0, vI y1, vI y2, vI (y3 + 1), vU] [] h140 Q)))))) : mE M4_passTick 7 [vR 0 r 0, vI y1, vI y2, vI y3, vU] [] h Q := by
  refine mE.iload_n dX4_passTick_7 rfl ?_
  refine mE.iload_n dX4_passTick_8 rfl ?_
  refine mE.icmp_ge (tgt := 46) dX4_passTick_9 (by decide) (fun c => ?_) (fun c => ?_)
  · have w := w.1 c
    refine mE.aload_n dX4_passTick_46 rfl ?_
    refine mE.callV (as := []) (k := 0) (r := r) (i := 0) (st := []) dX4_passTick_47 cf4_passTick_133 rfl rfl (Nat.le_of_ble_eq_true rfl) (fun _ => Nat.le_of_ble_eq_true rfl) w (kV_on (fun h124 w => ?_))
    refine mE.aload_n dX4_passTick_50 rfl ?_
    refine mE.iload_n dX4_passTick_51 rfl ?_
    refine mE.callV (as := [.inl y1]) (k := 0) (r := r) (i := 0) (st := []) dX4_passTick_52 cf4_passTick_58 rfl rfl (Nat.le_of_ble_eq_true rfl) (fun _ => Nat.le_of_ble_eq_true rfl) w (kR6_on (fun h125 w => ?_) (fun r126 c127 h125 w => ?_))
    · refine mE.astore_nN (l2 := [vR 0 r 0, vI y1, vI y2, vN, vU]) dX4_passTick_55 (by decide) rfl ?_
      refine mE.aload_nN dX4_passTick_56 rfl ?_
      refine mE.ifnullN (tgt := 69) dX4_passTick_57 (by decide) ?_
      refine mE.aload_n dX4_passTick_69 rfl ?_
      refine mE.dupR dX4_passTick_70 ?_
      refine mE.getf (w := .inl (h125.1 0 r 0 6)) dX4_passTick_71 f4_41 rfl ?_
      refine mE.iconst (v := 1) dX4_passTick_74 (by decide) ?_
      refine mE.iadd dX4_passTick_75 ?_
      refine mE.putf dX4_passTick_76 p4_41 (fun _ _ _ => rfl) rfl rfl ?_
      exact mE.vret dX4_passTick_79 rfl w
    · refine mE.astore_n (l2 := [vR 0 r 0, vI y1, vI y2, vR 6 r126 c127, vU]) dX4_passTick_55 (by decide) rfl ?_
      refine mE.aload_n dX4_passTick_56 rfl ?_
      refine mE.ifnullR dX4_passTick_57 ?_
      refine mE.aload_n dX4_passTick_60 rfl ?_
      refine mE.aload_n dX4_passTick_61 rfl ?_
      refine mE.aload_n dX4_passTick_62 rfl ?_
      refine mE.callV (as := [.inr (.inr (some (6, r126, c127)))]) (k := 0) (r := r) (i := 0) (st := [vR 6 r126 c127]) dX4_passTick_63 cf4_passTick_136 rfl rfl (Nat.le_of_ble_eq_true rfl) (fun _ => Nat.le_of_ble_eq_true rfl) w (kI_on (fun x129 h128 w => ?_))
      refine mE.callV (as := [.inl x129]) (k := 6) (r := r126) (i := c127) (st := []) dX4_passTick_66 cf4_passTick_140 rfl rfl (Nat.le_of_ble_eq_true rfl) (fun _ => Nat.le_of_ble_eq_true rfl) w (kV_on (fun h130 w => ?_))
      refine mE.aload_n dX4_passTick_69 rfl ?_
      refine mE.dupR dX4_passTick_70 ?_
      refine mE.getf (w := .inl (h130.1 0 r 0 6)) dX4_passTick_71 f4_41 rfl ?_
      refine mE.iconst (v := 1) dX4_passTick_74 (by decide) ?_
      refine mE.iadd dX4_passTick_75 ?_
      refine mE.putf dX4_passTick_76 p4_41 (fun _ _ _ => rfl) rfl rfl ?_
      exact mE.vret dX4_passTick_79 rfl w
  · have w := w.2 c
    refine mE.iload_n dX4_passTick_12 rfl ?_
    refine mE.aload_n dX4_passTick_13 rfl ?_
    refine mE.getf (w := .inr (.inr (some (4, r, 0)))) dX4_passTick_14 f4_27 rfl ?_
    refine mE.alen (v := 40) dX4_passTick_17 rfl (by decide) ?_
    refine mE.icmp_ge (tgt := 46) dX4_passTick_18 (by decide) (fun c => ?_) (fun c => ?_)
    · have w := w.1 c
      refine mE.aload_n dX4_passTick_46 rfl ?_
      refine mE.callV (as := []) (k := 0) (r := r) (i := 0) (st := []) dX4_passTick_47 cf4_passTick_133 rfl rfl (Nat.le_of_ble_eq_true rfl) (fun _ => Nat.le_of_ble_eq_true rfl) w (kV_on (fun h131 w => ?_))
      refine mE.aload_n dX4_passTick_50 rfl ?_
      refine mE.iload_n dX4_passTick_51 rfl ?_
      refine mE.callV (as := [.inl y1]) (k := 0) (r := r) (i := 0) (st := []) dX4_passTick_52 cf4_passTick_58 rfl rfl (Nat.le_of_ble_eq_true rfl) (fun _ => Nat.le_of_ble_eq_true rfl) w (kR6_on (fun h132 w => ?_) (fun r133 c134 h132 w => ?_))
      · refine mE.astore_nN (l2 := [vR 0 r 0, vI y1, vI y2, vN, vU]) dX4_passTick_55 (by decide) rfl ?_
        refine mE.aload_nN dX4_passTick_56 rfl ?_
        refine mE.ifnullN (tgt := 69) dX4_passTick_57 (by decide) ?_
        refine mE.aload_n dX4_passTick_69 rfl ?_
        refine mE.dupR dX4_passTick_70 ?_
        refine mE.getf (w := .inl (h132.1 0 r 0 6)) dX4_passTick_71 f4_41 rfl ?_
        refine mE.iconst (v := 1) dX4_passTick_74 (by decide) ?_
        refine mE.iadd dX4_passTick_75 ?_
        refine mE.putf dX4_passTick_76 p4_41 (fun _ _ _ => rfl) rfl rfl ?_
        exact mE.vret dX4_passTick_79 rfl w
      · refine mE.astore_n (l2 := [vR 0 r 0, vI y1, vI y2, vR 6 r133 c134, vU]) dX4_passTick_55 (by decide) rfl ?_
        refine mE.aload_n dX4_passTick_56 rfl ?_
        refine mE.ifnullR dX4_passTick_57 ?_
        refine mE.aload_n dX4_passTick_60 rfl ?_
        refine mE.aload_n dX4_passTick_61 rfl ?_
        refine mE.aload_n dX4_passTick_62 rfl ?_
        refine mE.callV (as := [.inr (.inr (some (6, r133, c134)))]) (k := 0) (r := r) (i := 0) (st := [vR 6 r133 c134]) dX4_passTick_63 cf4_passTick_136 rfl rfl (Nat.le_of_ble_eq_true rfl) (fun _ => Nat.le_of_ble_eq_true rfl) w (kI_on (fun x136 h135 w => ?_))
        refine mE.callV (as := [.inl x136]) (k := 6) (r := r133) (i := c134) (st := []) dX4_passTick_66 cf4_passTick_140 rfl rfl (Nat.le_of_ble_eq_true rfl) (fun _ => Nat.le_of_ble_eq_true rfl) w (kV_on (fun h137 w => ?_))
        refine mE.aload_n dX4_passTick_69 rfl ?_
        refine mE.dupR dX4_passTick_70 ?_
        refine mE.getf (w := .inl (h137.1 0 r 0 6)) dX4_passTick_71 f4_41 rfl ?_
        refine mE.iconst (v := 1) dX4_passTick_74 (by decide) ?_
        refine mE.iadd dX4_passTick_75 ?_
        refine mE.putf dX4_passTick_76 p4_41 (fun _ _ _ => rfl) rfl rfl ?_
        exact mE.vret dX4_passTick_79 rfl w
    · have w := w.2 c
      refine mE.aload_n dX4_passTick_21 rfl ?_
      refine mE.getf (w := .inr (.inr (some (4, r, 0)))) dX4_passTick_22 f4_27 rfl ?_
      refine mE.iload_n dX4_passTick_25 rfl ?_
      rcases hm : h.2 r (y3.toNatClampNeg) with _ | ⟨r138, c139⟩
      · refine mE.aald (w := .inr (.inr none)) dX4_passTick_26 rfl rfl w.1 (sv_mvN hm) ?_
        have w := w.2.1 hm
        refine mE.astoreN (l2 := [vR 0 r 0, vI y1, vI y2, vI y3, vN]) dX4_passTick_27 (by decide) rfl ?_
        refine mE.aloadN dX4_passTick_29 rfl ?_
        refine mE.ifnullN (tgt := 40) dX4_passTick_31 (by decide) ?_
        refine mE.iinc (v := y3 + 1) (l2 := [vR 0 r 0, vI y1, vI y2, vI (y3 + 1), vN]) dX4_passTick_40 rfl rfl (by decide) rfl ?_
        refine mE.goto (tgt := 7) dX4_passTick_43 (by decide) ?_
        exact mE.less (by exact ⟨Or.inr rfl, ⟨Or.inr rfl, ⟨Or.inr rfl, ⟨Or.inr rfl, ⟨Or.inl rfl, trivial⟩⟩⟩⟩⟩) w
      · refine mE.aald (w := .inr (.inr (some (5, r138, c139)))) dX4_passTick_26 rfl rfl w.1 (sv_mvS hm) ?_
        have w := w.2.2 r138 c139 hm
        refine mE.astore (l2 := [vR 0 r 0, vI y1, vI y2, vI y3, vR 5 r138 c139]) dX4_passTick_27 (by decide) rfl ?_
        refine mE.aload dX4_passTick_29 rfl ?_
        refine mE.ifnullR dX4_passTick_31 ?_
        refine mE.aload_n dX4_passTick_34 rfl ?_
        refine mE.aload dX4_passTick_35 rfl ?_
        refine mE.callV (as := [.inr (.inr (some (5, r138, c139)))]) (k := 0) (r := r) (i := 0) (st := []) dX4_passTick_37 cf4_passTick_130 rfl rfl (Nat.le_of_ble_eq_true rfl) (fun _ => Nat.le_of_ble_eq_true rfl) w (kV_on (fun h140 w => ?_))
        refine mE.iinc (v := y3 + 1) (l2 := [vR 0 r 0, vI y1, vI y2, vI (y3 + 1), vR 5 r138 c139]) dX4_passTick_40 rfl rfl (by decide) rfl ?_
        refine mE.goto (tgt := 7) dX4_passTick_43 (by decide) ?_
        exact mE.less (by exact ⟨Or.inr rfl, ⟨Or.inr rfl, ⟨Or.inr rfl, ⟨Or.inr rfl, ⟨Or.inl rfl, trivial⟩⟩⟩⟩⟩) w
theorem w4_orderMovers {r : Nat} {h : mH} {Q : mV → mH → Prop} (w : mE M4_orderMovers 4 [vR 0 r 0, vI 0, vI 0, vU] [] h Q) : mC M4_orderMovers [.inr (.inr (some (0, r, 0)))] h Q := by
  show mE M4_orderMovers 0 [vR 0 r 0, vU, vU, vU] [] h Q
  refine mE.iconst (v := 0) dX4_orderMovers_0 (by decide) ?_
  refine mE.istore_n (l2 := [vR 0 r 0, vI 0, vU, vU]) dX4_orderMovers_1 (by decide) rfl ?_
  refine mE.iconst (v := 0) dX4_orderMovers_2 (by decide) ?_
  refine mE.istore_n (l2 := [vR 0 r 0, vI 0, vI 0, vU]) dX4_orderMovers_3 (by decide) rfl ?_
  exact w
theorem w4_orderMovers_4 {r : Nat} {y1 : Int32} {y2 : Int32} {h : mH} {Q : mV → mH → Prop} (w : ((h.1 0 r 0 4) ≤ y2 → Q (vI y1) h) ∧ (¬ (h.1 0 r 0 4) ≤ y2 → mC M4_carNumbered [.inr (.inr (some (0, r, 0))), .inl y2] h (kR5 (fun h141 => mE M4_orderMovers 4 [vR 0 r 0, vI y1, vI (y2 + 1), vU] [] h141 Q) (fun r142 c143 h141 => (¬ (h141.1 5 r142 c143 6) = 0 → mE M4_orderMovers 4 [vR 0 r 0, vI y1, vI (y2 + 1), vU] [] h141 Q) ∧ ((h141.1 5 r142 c143 6) = 0 → (40 ≤ y1 → mE M4_orderMovers 4 [vR 0 r 0, vI y1, vI (y2 + 1), vU] [] h141 Q) ∧ (¬ 40 ≤ y1 → mC M4_insertMover [.inr (.inr (some (0, r, 0))), .inr (.inr (some (5, r142, c143))), .inl y1] h141 (kV (fun h144 => mE M4_orderMovers 4 [vR 0 r 0, vI (y1 + 1), vI (y2 + 1), vU] [] h144 Q)))))))) : mE M4_orderMovers 4 [vR 0 r 0, vI y1, vI y2, vU] [] h Q := by
  refine mE.iload_n dX4_orderMovers_4 rfl ?_
  refine mE.aload_n dX4_orderMovers_5 rfl ?_
  refine mE.getf (w := .inl (h.1 0 r 0 4)) dX4_orderMovers_6 f4_44 rfl ?_
  refine mE.icmp_ge (tgt := 53) dX4_orderMovers_9 (by decide) (fun c => ?_) (fun c => ?_)
  · have w := w.1 c
    refine mE.iload_n dX4_orderMovers_53 rfl ?_
    exact mE.iret dX4_orderMovers_54 rfl rfl w
  · have w := w.2 c
    refine mE.aload_n dX4_orderMovers_12 rfl ?_
    refine mE.iload_n dX4_orderMovers_13 rfl ?_
    refine mE.callV (as := [.inl y2]) (k := 0) (r := r) (i := 0) (st := []) dX4_orderMovers_14 cf4_orderMovers_50 rfl rfl (Nat.le_of_ble_eq_true rfl) (fun _ => Nat.le_of_ble_eq_true rfl) w (kR5_on (fun h141 w => ?_) (fun r142 c143 h141 w => ?_))
    · refine mE.astore_nN (l2 := [vR 0 r 0, vI y1, vI y2, vN]) dX4_orderMovers_17 (by decide) rfl ?_
      refine mE.aload_nN dX4_orderMovers_18 rfl ?_
      refine mE.ifnullN (tgt := 47) dX4_orderMovers_19 (by decide) ?_
      refine mE.iinc (v := y2 + 1) (l2 := [vR 0 r 0, vI y1, vI (y2 + 1), vN]) dX4_orderMovers_47 rfl rfl (by decide) rfl ?_
      refine mE.goto (tgt := 4) dX4_orderMovers_50 (by decide) ?_
      exact mE.less (by exact ⟨Or.inr rfl, ⟨Or.inr rfl, ⟨Or.inr rfl, ⟨Or.inl rfl, trivial⟩⟩⟩⟩) w
    · refine mE.astore_n (l2 := [vR 0 r 0, vI y1, vI y2, vR 5 r142 c143]) dX4_orderMovers_17 (by decide) rfl ?_
      refine mE.aload_n dX4_orderMovers_18 rfl ?_
      refine mE.ifnullR dX4_orderMovers_19 ?_
      refine mE.aload_n dX4_orderMovers_22 rfl ?_
      refine mE.getf (w := .inl (h141.1 5 r142 c143 6)) dX4_orderMovers_23 f4_106 rfl ?_
      refine mE.if_ne (tgt := 47) dX4_orderMovers_26 (by decide) (fun c => ?_) (fun c => ?_)
      · have w := w.1 c
        refine mE.iinc (v := y2 + 1) (l2 := [vR 0 r 0, vI y1, vI (y2 + 1), vR 5 r142 c143]) dX4_orderMovers_47 rfl rfl (by decide) rfl ?_
        refine mE.goto (tgt := 4) dX4_orderMovers_50 (by decide) ?_
        exact mE.less (by exact ⟨Or.inr rfl, ⟨Or.inr rfl, ⟨Or.inr rfl, ⟨Or.inl rfl, trivial⟩⟩⟩⟩) w
      · have w := w.2 c
        refine mE.iload_n dX4_orderMovers_29 rfl ?_
        refine mE.aload_n dX4_orderMovers_30 rfl ?_
        refine mE.getf (w := .inr (.inr (some (4, r, 0)))) dX4_orderMovers_31 f4_27 rfl ?_
        refine mE.alen (v := 40) dX4_orderMovers_34 rfl (by decide) ?_
        refine mE.icmp_ge (tgt := 47) dX4_orderMovers_35 (by decide) (fun c => ?_) (fun c => ?_)
        · have w := w.1 c
          refine mE.iinc (v := y2 + 1) (l2 := [vR 0 r 0, vI y1, vI (y2 + 1), vR 5 r142 c143]) dX4_orderMovers_47 rfl rfl (by decide) rfl ?_
          refine mE.goto (tgt := 4) dX4_orderMovers_50 (by decide) ?_
          exact mE.less (by exact ⟨Or.inr rfl, ⟨Or.inr rfl, ⟨Or.inr rfl, ⟨Or.inl rfl, trivial⟩⟩⟩⟩) w
        · have w := w.2 c
          refine mE.aload_n dX4_orderMovers_38 rfl ?_
          refine mE.aload_n dX4_orderMovers_39 rfl ?_
          refine mE.iload_n dX4_orderMovers_40 rfl ?_
          refine mE.callV (as := [.inr (.inr (some (5, r142, c143))), .inl y1]) (k := 0) (r := r) (i := 0) (st := []) dX4_orderMovers_41 cf4_orderMovers_143 rfl rfl (Nat.le_of_ble_eq_true rfl) (fun _ => Nat.le_of_ble_eq_true rfl) w (kV_on (fun h144 w => ?_))
          refine mE.iinc (v := y1 + 1) (l2 := [vR 0 r 0, vI (y1 + 1), vI y2, vR 5 r142 c143]) dX4_orderMovers_44 rfl rfl (by decide) rfl ?_
          refine mE.iinc (v := y2 + 1) (l2 := [vR 0 r 0, vI (y1 + 1), vI (y2 + 1), vR 5 r142 c143]) dX4_orderMovers_47 rfl rfl (by decide) rfl ?_
          refine mE.goto (tgt := 4) dX4_orderMovers_50 (by decide) ?_
          exact mE.less (by exact ⟨Or.inr rfl, ⟨Or.inr rfl, ⟨Or.inr rfl, ⟨Or.inl rfl, trivial⟩⟩⟩⟩) w
theorem w4_insertMover {r : Nat} {r1 : Nat} {i1 : Nat} {a2 : Int32} {h : mH} {Q : mV → mH → Prop} (w : mE M4_insertMover 7 [vR 0 r 0, vR 5 r1 i1, vU, vI a2, vI (a2 - 1), vU] [] h Q) : mC M4_insertMover [.inr (.inr (some (0, r, 0))), .inr (.inr (some (5, r1, i1))), .inl a2] h Q := by
  show mE M4_insertMover 0 [vR 0 r 0, vR 5 r1 i1, vI a2, vU, vU, vU] [] h Q
  refine mE.iload_n dX4_insertMover_0 rfl ?_
  refine mE.istore_n (l2 := [vR 0 r 0, vR 5 r1 i1, vI a2, vI a2, vU, vU]) dX4_insertMover_1 (by decide) rfl ?_
  refine mE.iload_n dX4_insertMover_2 rfl ?_
  refine mE.iconst (v := 1) dX4_insertMover_3 (by decide) ?_
  refine mE.isub dX4_insertMover_4 ?_
  refine mE.istore (l2 := [vR 0 r 0, vR 5 r1 i1, vI a2, vI a2, vI (a2 - 1), vU]) dX4_insertMover_5 (by decide) rfl ?_
  exact mE.less (by exact ⟨Or.inr rfl, ⟨Or.inr rfl, ⟨Or.inl rfl, ⟨Or.inr rfl, ⟨Or.inr rfl, ⟨Or.inl rfl, trivial⟩⟩⟩⟩⟩⟩) w
theorem w4_insertMover_7 {r : Nat} {r1_ : Nat} {i1_ : Nat} {y3 : Int32} {y4 : Int32} {h : mH} {Q : mV → mH → Prop} (w : (y4 < 0 → (y3 < 0 → Q vU h) ∧ (¬ y3 < 0 → (40 ≤ y3 → Q vU h) ∧ (¬ 40 ≤ y3 → vp_in y3 40 ∧ (Q vU (pM h r y3.toNatClampNeg (some (r1_, i1_))))))) ∧ (¬ y4 < 0 → (40 ≤ (y4 + 1) → (y3 < 0 → Q vU h) ∧ (¬ y3 < 0 → (40 ≤ y3 → Q vU h) ∧ (¬ 40 ≤ y3 → vp_in y3 40 ∧ (Q vU (pM h r y3.toNatClampNeg (some (r1_, i1_))))))) ∧ (¬ 40 ≤ (y4 + 1) → vp_in y4 40 ∧ (h.2 r (y4.toNatClampNeg) = none → (y3 < 0 → Q vU h) ∧ (¬ y3 < 0 → (40 ≤ y3 → Q vU h) ∧ (¬ 40 ≤ y3 → vp_in y3 40 ∧ (Q vU (pM h r y3.toNatClampNeg (some (r1_, i1_))))))) ∧ (∀ r145 c146 : Nat, h.2 r (y4.toNatClampNeg) = some (r145, c146) → ((h.1 5 r145 c146 2) < (h.1 5 r1_ i1_ 2) → vp_in (y4 + 1) 40 ∧ (mE M4_insertMover 7 [vR 0 r 0, vR 5 r1_ i1_, vU, vI y4, vI (y4 + (-1)), vU] [] (pM h r (y4 + 1).toNatClampNeg (some (r145, c146))) Q)) ∧ (¬ (h.1 5 r145 c146 2) < (h.1 5 r1_ i1_ 2) → (y3 < 0 → Q vU h) ∧ (¬ y3 < 0 → (40 ≤ y3 → Q vU h) ∧ (¬ 40 ≤ y3 → vp_in y3 40 ∧ (Q vU (pM h r y3.toNatClampNeg (some (r1_, i1_))))))))))) : mE M4_insertMover 7 [vR 0 r 0, vR 5 r1_ i1_, vU, vI y3, vI y4, vU] [] h Q := by
  refine mE.iload dX4_insertMover_7 rfl ?_
  refine mE.if_lt (tgt := 73) dX4_insertMover_9 (by decide) (fun c => ?_) (fun c => ?_)
  · have w := w.1 c
    refine mE.iload_n dX4_insertMover_73 rfl ?_
    refine mE.if_lt (tgt := 93) dX4_insertMover_74 (by decide) (fun c => ?_) (fun c => ?_)
    · have w := w.1 c
      exact mE.vret dX4_insertMover_93 rfl w
    · have w := w.2 c
      refine mE.iload_n dX4_insertMover_77 rfl ?_
      refine mE.aload_n dX4_insertMover_78 rfl ?_
      refine mE.getf (w := .inr (.inr (some (4, r, 0)))) dX4_insertMover_79 f4_27 rfl ?_
      refine mE.alen (v := 40) dX4_insertMover_82 rfl (by decide) ?_
      refine mE.icmp_ge (tgt := 93) dX4_insertMover_83 (by decide) (fun c => ?_) (fun c => ?_)
      · have w := w.1 c
        exact mE.vret dX4_insertMover_93 rfl w
      · have w := w.2 c
        refine mE.aload_n dX4_insertMover_86 rfl ?_
        refine mE.getf (w := .inr (.inr (some (4, r, 0)))) dX4_insertMover_87 f4_27 rfl ?_
        refine mE.iload_n dX4_insertMover_90 rfl ?_
        refine mE.aload_n dX4_insertMover_91 rfl ?_
        refine mE.aast dX4_insertMover_92 w.1 ?_
        have w := w.2
        exact mE.vret dX4_insertMover_93 rfl w
  · have w := w.2 c
    refine mE.iload dX4_insertMover_12 rfl ?_
    refine mE.iconst (v := 1) dX4_insertMover_14 (by decide) ?_
    refine mE.iadd dX4_insertMover_15 ?_
    refine mE.aload_n dX4_insertMover_16 rfl ?_
    refine mE.getf (w := .inr (.inr (some (4, r, 0)))) dX4_insertMover_17 f4_27 rfl ?_
    refine mE.alen (v := 40) dX4_insertMover_20 rfl (by decide) ?_
    refine mE.icmp_ge (tgt := 73) dX4_insertMover_21 (by decide) (fun c => ?_) (fun c => ?_)
    · have w := w.1 c
      refine mE.iload_n dX4_insertMover_73 rfl ?_
      refine mE.if_lt (tgt := 93) dX4_insertMover_74 (by decide) (fun c => ?_) (fun c => ?_)
      · have w := w.1 c
        exact mE.vret dX4_insertMover_93 rfl w
      · have w := w.2 c
        refine mE.iload_n dX4_insertMover_77 rfl ?_
        refine mE.aload_n dX4_insertMover_78 rfl ?_
        refine mE.getf (w := .inr (.inr (some (4, r, 0)))) dX4_insertMover_79 f4_27 rfl ?_
        refine mE.alen (v := 40) dX4_insertMover_82 rfl (by decide) ?_
        refine mE.icmp_ge (tgt := 93) dX4_insertMover_83 (by decide) (fun c => ?_) (fun c => ?_)
        · have w := w.1 c
          exact mE.vret dX4_insertMover_93 rfl w
        · have w := w.2 c
          refine mE.aload_n dX4_insertMover_86 rfl ?_
          refine mE.getf (w := .inr (.inr (some (4, r, 0)))) dX4_insertMover_87 f4_27 rfl ?_
          refine mE.iload_n dX4_insertMover_90 rfl ?_
          refine mE.aload_n dX4_insertMover_91 rfl ?_
          refine mE.aast dX4_insertMover_92 w.1 ?_
          have w := w.2
          exact mE.vret dX4_insertMover_93 rfl w
    · have w := w.2 c
      refine mE.aload_n dX4_insertMover_24 rfl ?_
      refine mE.getf (w := .inr (.inr (some (4, r, 0)))) dX4_insertMover_25 f4_27 rfl ?_
      refine mE.iload dX4_insertMover_28 rfl ?_
      rcases hm : h.2 r (y4.toNatClampNeg) with _ | ⟨r145, c146⟩
      · refine mE.aald (w := .inr (.inr none)) dX4_insertMover_30 rfl rfl w.1 (sv_mvN hm) ?_
        have w := w.2.1 hm
        refine mE.astoreN (l2 := [vR 0 r 0, vR 5 r1_ i1_, vU, vI y3, vI y4, vN]) dX4_insertMover_31 (by decide) rfl ?_
        refine mE.aloadN dX4_insertMover_33 rfl ?_
        refine mE.ifnullN (tgt := 73) dX4_insertMover_35 (by decide) ?_
        refine mE.iload_n dX4_insertMover_73 rfl ?_
        refine mE.if_lt (tgt := 93) dX4_insertMover_74 (by decide) (fun c => ?_) (fun c => ?_)
        · have w := w.1 c
          exact mE.vret dX4_insertMover_93 rfl w
        · have w := w.2 c
          refine mE.iload_n dX4_insertMover_77 rfl ?_
          refine mE.aload_n dX4_insertMover_78 rfl ?_
          refine mE.getf (w := .inr (.inr (some (4, r, 0)))) dX4_insertMover_79 f4_27 rfl ?_
          refine mE.alen (v := 40) dX4_insertMover_82 rfl (by decide) ?_
          refine mE.icmp_ge (tgt := 93) dX4_insertMover_83 (by decide) (fun c => ?_) (fun c => ?_)
          · have w := w.1 c
            exact mE.vret dX4_insertMover_93 rfl w
          · have w := w.2 c
            refine mE.aload_n dX4_insertMover_86 rfl ?_
            refine mE.getf (w := .inr (.inr (some (4, r, 0)))) dX4_insertMover_87 f4_27 rfl ?_
            refine mE.iload_n dX4_insertMover_90 rfl ?_
            refine mE.aload_n dX4_insertMover_91 rfl ?_
            refine mE.aast dX4_insertMover_92 w.1 ?_
            have w := w.2
            exact mE.vret dX4_insertMover_93 rfl w
      · refine mE.aald (w := .inr (.inr (some (5, r145, c146)))) dX4_insertMover_30 rfl rfl w.1 (sv_mvS hm) ?_
        have w := w.2.2 r145 c146 hm
        refine mE.astore (l2 := [vR 0 r 0, vR 5 r1_ i1_, vU, vI y3, vI y4, vR 5 r145 c146]) dX4_insertMover_31 (by decide) rfl ?_
        refine mE.aload dX4_insertMover_33 rfl ?_
        refine mE.ifnullR dX4_insertMover_35 ?_
        refine mE.aload dX4_insertMover_38 rfl ?_
        refine mE.getf (w := .inl (h.1 5 r145 c146 2)) dX4_insertMover_40 f4_147 rfl ?_
        refine mE.aload_n dX4_insertMover_43 rfl ?_
        refine mE.getf (w := .inl (h.1 5 r1_ i1_ 2)) dX4_insertMover_44 f4_147 rfl ?_
        refine mE.icmp_lt (tgt := 53) dX4_insertMover_47 (by decide) (fun c => ?_) (fun c => ?_)
        · have w := w.1 c
          refine mE.aload_n dX4_insertMover_53 rfl ?_
          refine mE.getf (w := .inr (.inr (some (4, r, 0)))) dX4_insertMover_54 f4_27 rfl ?_
          refine mE.iload dX4_insertMover_57 rfl ?_
          refine mE.iconst (v := 1) dX4_insertMover_59 (by decide) ?_
          refine mE.iadd dX4_insertMover_60 ?_
          refine mE.aload dX4_insertMover_61 rfl ?_
          refine mE.aast dX4_insertMover_63 w.1 ?_
          have w := w.2
          refine mE.iload dX4_insertMover_64 rfl ?_
          refine mE.istore_n (l2 := [vR 0 r 0, vR 5 r1_ i1_, vU, vI y4, vI y4, vR 5 r145 c146]) dX4_insertMover_66 (by decide) rfl ?_
          refine mE.iinc (v := y4 + (-1)) (l2 := [vR 0 r 0, vR 5 r1_ i1_, vU, vI y4, vI (y4 + (-1)), vR 5 r145 c146]) dX4_insertMover_67 rfl rfl (by decide) rfl ?_
          refine mE.goto (tgt := 7) dX4_insertMover_70 (by decide) ?_
          exact mE.less (by exact ⟨Or.inr rfl, ⟨Or.inr rfl, ⟨Or.inl rfl, ⟨Or.inr rfl, ⟨Or.inr rfl, ⟨Or.inl rfl, trivial⟩⟩⟩⟩⟩⟩) w
        · have w := w.2 c
          refine mE.goto (tgt := 73) dX4_insertMover_50 (by decide) ?_
          refine mE.iload_n dX4_insertMover_73 rfl ?_
          refine mE.if_lt (tgt := 93) dX4_insertMover_74 (by decide) (fun c => ?_) (fun c => ?_)
          · have w := w.1 c
            exact mE.vret dX4_insertMover_93 rfl w
          · have w := w.2 c
            refine mE.iload_n dX4_insertMover_77 rfl ?_
            refine mE.aload_n dX4_insertMover_78 rfl ?_
            refine mE.getf (w := .inr (.inr (some (4, r, 0)))) dX4_insertMover_79 f4_27 rfl ?_
            refine mE.alen (v := 40) dX4_insertMover_82 rfl (by decide) ?_
            refine mE.icmp_ge (tgt := 93) dX4_insertMover_83 (by decide) (fun c => ?_) (fun c => ?_)
            · have w := w.1 c
              exact mE.vret dX4_insertMover_93 rfl w
            · have w := w.2 c
              refine mE.aload_n dX4_insertMover_86 rfl ?_
              refine mE.getf (w := .inr (.inr (some (4, r, 0)))) dX4_insertMover_87 f4_27 rfl ?_
              refine mE.iload_n dX4_insertMover_90 rfl ?_
              refine mE.aload_n dX4_insertMover_91 rfl ?_
              refine mE.aast dX4_insertMover_92 w.1 ?_
              have w := w.2
              exact mE.vret dX4_insertMover_93 rfl w
theorem w4_moveCar {r : Nat} {r1 : Nat} {i1 : Nat} {h : mH} {Q : mV → mH → Prop} (w : ((h.1 5 r1 i1 7) = 0 → mE M4_moveCar 23 [vR 0 r 0, vR 5 r1 i1, vI 0] [] h Q) ∧ (¬ (h.1 5 r1 i1 7) = 0 → mC M4_isFreeBeside [.inr (.inr (some (0, r, 0))), .inr (.inr (some (5, r1, i1)))] h (kI (fun x148 h147 => (x148 = 0 → mE M4_moveCar 23 [vR 0 r 0, vR 5 r1 i1, vI 0] [] h147 Q) ∧ (¬ x148 = 0 → mC M4_changeLane [.inr (.inr (some (0, r, 0))), .inr (.inr (some (5, r1, i1)))] h147 (kV (fun h149 => Q vU h149))))))) : mC M4_moveCar [.inr (.inr (some (0, r, 0))), .inr (.inr (some (5, r1, i1)))] h Q := by
  show mE M4_moveCar 0 [vR 0 r 0, vR 5 r1 i1, vU] [] h Q
  refine mE.aload_n dX4_moveCar_0 rfl ?_
  refine mE.getf (w := .inl (h.1 5 r1 i1 7)) dX4_moveCar_1 f4_110 rfl ?_
  refine mE.if_eq (tgt := 21) dX4_moveCar_4 (by decide) (fun c => ?_) (fun c => ?_)
  · have w := w.1 c
    refine mE.iconst (v := 0) dX4_moveCar_21 (by decide) ?_
    refine mE.istore_n (l2 := [vR 0 r 0, vR 5 r1 i1, vI 0]) dX4_moveCar_22 (by decide) rfl ?_
    exact w
  · have w := w.2 c
    refine mE.aload_n dX4_moveCar_7 rfl ?_
    refine mE.aload_n dX4_moveCar_8 rfl ?_
    refine mE.callV (as := [.inr (.inr (some (5, r1, i1)))]) (k := 0) (r := r) (i := 0) (st := []) dX4_moveCar_9 cf4_moveCar_150 rfl rfl (Nat.le_of_ble_eq_true rfl) (fun _ => Nat.le_of_ble_eq_true rfl) w (kI_on (fun x148 h147 w => ?_))
    refine mE.if_eq (tgt := 21) dX4_moveCar_12 (by decide) (fun c => ?_) (fun c => ?_)
    · have w := w.1 c
      refine mE.iconst (v := 0) dX4_moveCar_21 (by decide) ?_
      refine mE.istore_n (l2 := [vR 0 r 0, vR 5 r1 i1, vI 0]) dX4_moveCar_22 (by decide) rfl ?_
      exact w
    · have w := w.2 c
      refine mE.aload_n dX4_moveCar_15 rfl ?_
      refine mE.aload_n dX4_moveCar_16 rfl ?_
      refine mE.callV (as := [.inr (.inr (some (5, r1, i1)))]) (k := 0) (r := r) (i := 0) (st := []) dX4_moveCar_17 cf4_moveCar_153 rfl rfl (Nat.le_of_ble_eq_true rfl) (fun _ => Nat.le_of_ble_eq_true rfl) w (kV_on (fun h149 w => ?_))
      exact mE.vret dX4_moveCar_20 rfl w
theorem w4_moveCar_23 {r : Nat} {r1_ : Nat} {i1_ : Nat} {y2 : Int32} {h : mH} {Q : mV → mH → Prop} (w : ((h.1 5 r1_ i1_ 4) ≤ y2 → ((h.1 5 r1_ i1_ 4) ≤ y2 → Q vU h) ∧ (¬ (h.1 5 r1_ i1_ 4) ≤ y2 → (¬ (h.1 5 r1_ i1_ 6) = 0 → Q vU h) ∧ ((h.1 5 r1_ i1_ 6) = 0 → Q vU (pI h 5 r1_ i1_ 9 ((h.1 5 r1_ i1_ 9) + 1))))) ∧ (¬ (h.1 5 r1_ i1_ 4) ≤ y2 → (¬ (h.1 5 r1_ i1_ 6) = 0 → ((h.1 5 r1_ i1_ 4) ≤ y2 → Q vU h) ∧ (¬ (h.1 5 r1_ i1_ 4) ≤ y2 → (¬ (h.1 5 r1_ i1_ 6) = 0 → Q vU h) ∧ ((h.1 5 r1_ i1_ 6) = 0 → Q vU (pI h 5 r1_ i1_ 9 ((h.1 5 r1_ i1_ 9) + 1))))) ∧ ((h.1 5 r1_ i1_ 6) = 0 → mC M4_takerOf [.inr (.inr (some (0, r, 0))), .inl (h.1 5 r1_ i1_ 1), .inl ((h.1 5 r1_ i1_ 2) + 1)] h (kI (fun x151 h150 => (¬ x151 = (-6) → ((h150.1 5 r1_ i1_ 4) ≤ y2 → Q vU h150) ∧ (¬ (h150.1 5 r1_ i1_ 4) ≤ y2 → (¬ (h150.1 5 r1_ i1_ 6) = 0 → Q vU h150) ∧ ((h150.1 5 r1_ i1_ 6) = 0 → Q vU (pI h150 5 r1_ i1_ 9 ((h150.1 5 r1_ i1_ 9) + 1))))) ∧ (x151 = (-6) → mC M4_take [.inr (.inr (some (0, r, 0))), .inl (h150.1 5 r1_ i1_ 1), .inl ((h150.1 5 r1_ i1_ 2) + 1), .inl (nI i1_)] (pI h150 5 r1_ i1_ 2 ((h150.1 5 r1_ i1_ 2) + 1)) (kV (fun h152 => mC M0_last [.inr (.inr (some (5, r1_, i1_)))] h152 (kI (fun x154 h153 => mC M4_take [.inr (.inr (some (0, r, 0))), .inl (h152.1 5 r1_ i1_ 1), .inl (x154 - 1), .inl (-6)] h153 (kV (fun h155 => mC M0_last [.inr (.inr (some (5, r1_, i1_)))] h155 (kI (fun x157 h156 => (x157 ≤ 39 → mE M4_moveCar 23 [vR 0 r 0, vR 5 r1_ i1_, vI (y2 + 1)] [] (pI h156 5 r1_ i1_ 6 0) Q) ∧ (¬ x157 ≤ 39 → mE M4_moveCar 23 [vR 0 r 0, vR 5 r1_ i1_, vI (y2 + 1)] [] (pI h156 5 r1_ i1_ 6 1) Q))))))))))))))) : mE M4_moveCar 23 [vR 0 r 0, vR 5 r1_ i1_, vI y2] [] h Q := by
  refine mE.iload_n dX4_moveCar_23 rfl ?_
  refine mE.aload_n dX4_moveCar_24 rfl ?_
  refine mE.getf (w := .inl (h.1 5 r1_ i1_ 4)) dX4_moveCar_25 f4_113 rfl ?_
  refine mE.icmp_ge (tgt := 123) dX4_moveCar_28 (by decide) (fun c => ?_) (fun c => ?_)
  · have w := w.1 c
    refine mE.iload_n dX4_moveCar_123 rfl ?_
    refine mE.aload_n dX4_moveCar_124 rfl ?_
    refine mE.getf (w := .inl (h.1 5 r1_ i1_ 4)) dX4_moveCar_125 f4_113 rfl ?_
    refine mE.icmp_ge (tgt := 148) dX4_moveCar_128 (by decide) (fun c => ?_) (fun c => ?_)
    · have w := w.1 c
      exact mE.vret dX4_moveCar_148 rfl w
    · have w := w.2 c
      refine mE.aload_n dX4_moveCar_131 rfl ?_
      refine mE.getf (w := .inl (h.1 5 r1_ i1_ 6)) dX4_moveCar_132 f4_106 rfl ?_
      refine mE.if_ne (tgt := 148) dX4_moveCar_135 (by decide) (fun c => ?_) (fun c => ?_)
      · have w := w.1 c
        exact mE.vret dX4_moveCar_148 rfl w
      · have w := w.2 c
        refine mE.aload_n dX4_moveCar_138 rfl ?_
        refine mE.dupR dX4_moveCar_139 ?_
        refine mE.getf (w := .inl (h.1 5 r1_ i1_ 9)) dX4_moveCar_140 f4_165 rfl ?_
        refine mE.iconst (v := 1) dX4_moveCar_143 (by decide) ?_
        refine mE.iadd dX4_moveCar_144 ?_
        refine mE.putf dX4_moveCar_145 p4_165 (fun _ _ _ => rfl) rfl rfl ?_
        exact mE.vret dX4_moveCar_148 rfl w
  · have w := w.2 c
    refine mE.aload_n dX4_moveCar_31 rfl ?_
    refine mE.getf (w := .inl (h.1 5 r1_ i1_ 6)) dX4_moveCar_32 f4_106 rfl ?_
    refine mE.if_ne (tgt := 123) dX4_moveCar_35 (by decide) (fun c => ?_) (fun c => ?_)
    · have w := w.1 c
      refine mE.iload_n dX4_moveCar_123 rfl ?_
      refine mE.aload_n dX4_moveCar_124 rfl ?_
      refine mE.getf (w := .inl (h.1 5 r1_ i1_ 4)) dX4_moveCar_125 f4_113 rfl ?_
      refine mE.icmp_ge (tgt := 148) dX4_moveCar_128 (by decide) (fun c => ?_) (fun c => ?_)
      · have w := w.1 c
        exact mE.vret dX4_moveCar_148 rfl w
      · have w := w.2 c
        refine mE.aload_n dX4_moveCar_131 rfl ?_
        refine mE.getf (w := .inl (h.1 5 r1_ i1_ 6)) dX4_moveCar_132 f4_106 rfl ?_
        refine mE.if_ne (tgt := 148) dX4_moveCar_135 (by decide) (fun c => ?_) (fun c => ?_)
        · have w := w.1 c
          exact mE.vret dX4_moveCar_148 rfl w
        · have w := w.2 c
          refine mE.aload_n dX4_moveCar_138 rfl ?_
          refine mE.dupR dX4_moveCar_139 ?_
          refine mE.getf (w := .inl (h.1 5 r1_ i1_ 9)) dX4_moveCar_140 f4_165 rfl ?_
          refine mE.iconst (v := 1) dX4_moveCar_143 (by decide) ?_
          refine mE.iadd dX4_moveCar_144 ?_
          refine mE.putf dX4_moveCar_145 p4_165 (fun _ _ _ => rfl) rfl rfl ?_
          exact mE.vret dX4_moveCar_148 rfl w
    · have w := w.2 c
      refine mE.aload_n dX4_moveCar_38 rfl ?_
      refine mE.aload_n dX4_moveCar_39 rfl ?_
      refine mE.getf (w := .inl (h.1 5 r1_ i1_ 1)) dX4_moveCar_40 f4_156 rfl ?_
      refine mE.aload_n dX4_moveCar_43 rfl ?_
      refine mE.getf (w := .inl (h.1 5 r1_ i1_ 2)) dX4_moveCar_44 f4_147 rfl ?_
      refine mE.iconst (v := 1) dX4_moveCar_47 (by decide) ?_
      refine mE.iadd dX4_moveCar_48 ?_
      refine mE.callV (as := [.inl (h.1 5 r1_ i1_ 1), .inl ((h.1 5 r1_ i1_ 2) + 1)]) (k := 0) (r := r) (i := 0) (st := []) dX4_moveCar_49 cf4_moveCar_94 rfl rfl (Nat.le_of_ble_eq_true rfl) (fun _ => Nat.le_of_ble_eq_true rfl) w (kI_on (fun x151 h150 w => ?_))
      refine mE.bipush (v := -6) dX4_moveCar_52 (by decide) ?_
      refine mE.icmp_ne (tgt := 123) dX4_moveCar_54 (by decide) (fun c => ?_) (fun c => ?_)
      · have w := w.1 c
        refine mE.iload_n dX4_moveCar_123 rfl ?_
        refine mE.aload_n dX4_moveCar_124 rfl ?_
        refine mE.getf (w := .inl (h150.1 5 r1_ i1_ 4)) dX4_moveCar_125 f4_113 rfl ?_
        refine mE.icmp_ge (tgt := 148) dX4_moveCar_128 (by decide) (fun c => ?_) (fun c => ?_)
        · have w := w.1 c
          exact mE.vret dX4_moveCar_148 rfl w
        · have w := w.2 c
          refine mE.aload_n dX4_moveCar_131 rfl ?_
          refine mE.getf (w := .inl (h150.1 5 r1_ i1_ 6)) dX4_moveCar_132 f4_106 rfl ?_
          refine mE.if_ne (tgt := 148) dX4_moveCar_135 (by decide) (fun c => ?_) (fun c => ?_)
          · have w := w.1 c
            exact mE.vret dX4_moveCar_148 rfl w
          · have w := w.2 c
            refine mE.aload_n dX4_moveCar_138 rfl ?_
            refine mE.dupR dX4_moveCar_139 ?_
            refine mE.getf (w := .inl (h150.1 5 r1_ i1_ 9)) dX4_moveCar_140 f4_165 rfl ?_
            refine mE.iconst (v := 1) dX4_moveCar_143 (by decide) ?_
            refine mE.iadd dX4_moveCar_144 ?_
            refine mE.putf dX4_moveCar_145 p4_165 (fun _ _ _ => rfl) rfl rfl ?_
            exact mE.vret dX4_moveCar_148 rfl w
      · have w := w.2 c
        refine mE.aload_n dX4_moveCar_57 rfl ?_
        refine mE.dupR dX4_moveCar_58 ?_
        refine mE.getf (w := .inl (h150.1 5 r1_ i1_ 2)) dX4_moveCar_59 f4_147 rfl ?_
        refine mE.iconst (v := 1) dX4_moveCar_62 (by decide) ?_
        refine mE.iadd dX4_moveCar_63 ?_
        refine mE.putf dX4_moveCar_64 p4_147 (fun _ _ _ => rfl) rfl rfl ?_
        refine mE.aload_n dX4_moveCar_67 rfl ?_
        refine mE.aload_n dX4_moveCar_68 rfl ?_
        refine mE.getf (w := .inl (h150.1 5 r1_ i1_ 1)) dX4_moveCar_69 f4_156 rfl ?_
        refine mE.aload_n dX4_moveCar_72 rfl ?_
        refine mE.getf (w := .inl ((h150.1 5 r1_ i1_ 2) + 1)) dX4_moveCar_73 f4_147 (svc (pI_at (h := h150) (k := 5) (r := r1_) (i := i1_) (s := 2) (x := ((h150.1 5 r1_ i1_ 2) + 1)))) ?_
        refine mE.aload_n dX4_moveCar_76 rfl ?_
        refine mE.getf (w := .inl (nI i1_)) dX4_moveCar_77 f4_159 rfl ?_
        refine mE.callV (as := [.inl (h150.1 5 r1_ i1_ 1), .inl ((h150.1 5 r1_ i1_ 2) + 1), .inl (nI i1_)]) (k := 0) (r := r) (i := 0) (st := []) dX4_moveCar_80 cf4_moveCar_102 rfl rfl (Nat.le_of_ble_eq_true rfl) (fun _ => Nat.le_of_ble_eq_true rfl) w (kV_on (fun h152 w => ?_))
        refine mE.aload_n dX4_moveCar_83 rfl ?_
        refine mE.aload_n dX4_moveCar_84 rfl ?_
        refine mE.getf (w := .inl (h152.1 5 r1_ i1_ 1)) dX4_moveCar_85 f4_156 rfl ?_
        refine mE.aload_n dX4_moveCar_88 rfl ?_
        refine mE.callV (as := []) (k := 5) (r := r1_) (i := i1_) (st := [vI (h152.1 5 r1_ i1_ 1), vR 0 r 0]) dX4_moveCar_89 cf4_moveCar_162 rfl rfl (Nat.le_of_ble_eq_true rfl) (fun _ => Nat.le_of_ble_eq_true rfl) w (kI_on (fun x154 h153 w => ?_))
        refine mE.iconst (v := 1) dX4_moveCar_92 (by decide) ?_
        refine mE.isub dX4_moveCar_93 ?_
        refine mE.bipush (v := -6) dX4_moveCar_94 (by decide) ?_
        refine mE.callV (as := [.inl (h152.1 5 r1_ i1_ 1), .inl (x154 - 1), .inl (-6)]) (k := 0) (r := r) (i := 0) (st := []) dX4_moveCar_96 cf4_moveCar_102 rfl rfl (Nat.le_of_ble_eq_true rfl) (fun _ => Nat.le_of_ble_eq_true rfl) w (kV_on (fun h155 w => ?_))
        refine mE.aload_n dX4_moveCar_99 rfl ?_
        refine mE.aload_n dX4_moveCar_100 rfl ?_
        refine mE.callV (as := []) (k := 5) (r := r1_) (i := i1_) (st := [vR 5 r1_ i1_]) dX4_moveCar_101 cf4_moveCar_162 rfl rfl (Nat.le_of_ble_eq_true rfl) (fun _ => Nat.le_of_ble_eq_true rfl) w (kI_on (fun x157 h156 w => ?_))
        refine mE.bipush (v := 39) dX4_moveCar_104 (by decide) ?_
        refine mE.icmp_le (tgt := 113) dX4_moveCar_106 (by decide) (fun c => ?_) (fun c => ?_)
        · have w := w.1 c
          refine mE.iconst (v := 0) dX4_moveCar_113 (by decide) ?_
          refine mE.putf dX4_moveCar_114 p4_106 (fun _ _ _ => rfl) rfl rfl ?_
          refine mE.iinc (v := y2 + 1) (l2 := [vR 0 r 0, vR 5 r1_ i1_, vI (y2 + 1)]) dX4_moveCar_117 rfl rfl (by decide) rfl ?_
          refine mE.goto (tgt := 23) dX4_moveCar_120 (by decide) ?_
          exact w
        · have w := w.2 c
          refine mE.iconst (v := 1) dX4_moveCar_109 (by decide) ?_
          refine mE.goto (tgt := 114) dX4_moveCar_110 (by decide) ?_
          refine mE.putf dX4_moveCar_114 p4_106 (fun _ _ _ => rfl) rfl rfl ?_
          refine mE.iinc (v := y2 + 1) (l2 := [vR 0 r 0, vR 5 r1_ i1_, vI (y2 + 1)]) dX4_moveCar_117 rfl rfl (by decide) rfl ?_
          refine mE.goto (tgt := 23) dX4_moveCar_120 (by decide) ?_
          exact w
theorem w4_isFreeBeside {r : Nat} {r1 : Nat} {i1 : Nat} {h : mH} {Q : mV → mH → Prop} (w : mC M0_last [.inr (.inr (some (5, r1, i1)))] h (kI (fun x159 h158 => mE M4_isFreeBeside 5 [vR 0 r 0, vR 5 r1 i1, vI x159] [] h158 Q))) : mC M4_isFreeBeside [.inr (.inr (some (0, r, 0))), .inr (.inr (some (5, r1, i1)))] h Q := by
  show mE M4_isFreeBeside 0 [vR 0 r 0, vR 5 r1 i1, vU] [] h Q
  refine mE.aload_n dX4_isFreeBeside_0 rfl ?_
  refine mE.callV (as := []) (k := 5) (r := r1) (i := i1) (st := []) dX4_isFreeBeside_1 cf4_isFreeBeside_162 rfl rfl (Nat.le_of_ble_eq_true rfl) (fun _ => Nat.le_of_ble_eq_true rfl) w (kI_on (fun x159 h158 w => ?_))
  refine mE.istore_n (l2 := [vR 0 r 0, vR 5 r1 i1, vI x159]) dX4_isFreeBeside_4 (by decide) rfl ?_
  exact w
theorem w4_isFreeBeside_5 {r : Nat} {r1_ : Nat} {i1_ : Nat} {y2 : Int32} {h : mH} {Q : mV → mH → Prop} (w : ((h.1 5 r1_ i1_ 2) < y2 → Q (vI 1) h) ∧ (¬ (h.1 5 r1_ i1_ 2) < y2 → mC M4_takerOf [.inr (.inr (some (0, r, 0))), .inl (1 - (h.1 5 r1_ i1_ 1)), .inl y2] h (kI (fun x161 h160 => (x161 = (-6) → mE M4_isFreeBeside 5 [vR 0 r 0, vR 5 r1_ i1_, vI (y2 + 1)] [] h160 Q) ∧ (¬ x161 = (-6) → Q (vI 0) h160))))) : mE M4_isFreeBeside 5 [vR 0 r 0, vR 5 r1_ i1_, vI y2] [] h Q := by
  refine mE.iload_n dX4_isFreeBeside_5 rfl ?_
  refine mE.aload_n dX4_isFreeBeside_6 rfl ?_
  refine mE.getf (w := .inl (h.1 5 r1_ i1_ 2)) dX4_isFreeBeside_7 f4_147 rfl ?_
  refine mE.icmp_gt (tgt := 37) dX4_isFreeBeside_10 (by decide) (fun c => ?_) (fun c => ?_)
  · have w := w.1 c
    refine mE.iconst (v := 1) dX4_isFreeBeside_37 (by decide) ?_
    exact mE.iret dX4_isFreeBeside_38 rfl rfl w
  · have w := w.2 c
    refine mE.aload_n dX4_isFreeBeside_13 rfl ?_
    refine mE.iconst (v := 1) dX4_isFreeBeside_14 (by decide) ?_
    refine mE.aload_n dX4_isFreeBeside_15 rfl ?_
    refine mE.getf (w := .inl (h.1 5 r1_ i1_ 1)) dX4_isFreeBeside_16 f4_156 rfl ?_
    refine mE.isub dX4_isFreeBeside_19 ?_
    refine mE.iload_n dX4_isFreeBeside_20 rfl ?_
    refine mE.callV (as := [.inl (1 - (h.1 5 r1_ i1_ 1)), .inl y2]) (k := 0) (r := r) (i := 0) (st := []) dX4_isFreeBeside_21 cf4_isFreeBeside_94 rfl rfl (Nat.le_of_ble_eq_true rfl) (fun _ => Nat.le_of_ble_eq_true rfl) w (kI_on (fun x161 h160 w => ?_))
    refine mE.bipush (v := -6) dX4_isFreeBeside_24 (by decide) ?_
    refine mE.icmp_eq (tgt := 31) dX4_isFreeBeside_26 (by decide) (fun c => ?_) (fun c => ?_)
    · have w := w.1 c
      refine mE.iinc (v := y2 + 1) (l2 := [vR 0 r 0, vR 5 r1_ i1_, vI (y2 + 1)]) dX4_isFreeBeside_31 rfl rfl (by decide) rfl ?_
      refine mE.goto (tgt := 5) dX4_isFreeBeside_34 (by decide) ?_
      exact w
    · have w := w.2 c
      refine mE.iconst (v := 0) dX4_isFreeBeside_29 (by decide) ?_
      exact mE.iret dX4_isFreeBeside_30 rfl rfl w
theorem w4_changeLane {r : Nat} {r1 : Nat} {i1 : Nat} {h : mH} {Q : mV → mH → Prop} (w : mC M0_last [.inr (.inr (some (5, r1, i1)))] h (kI (fun x163 h162 => mE M4_changeLane 5 [vR 0 r 0, vR 5 r1 i1, vI x163] [] h162 Q))) : mC M4_changeLane [.inr (.inr (some (0, r, 0))), .inr (.inr (some (5, r1, i1)))] h Q := by
  show mE M4_changeLane 0 [vR 0 r 0, vR 5 r1 i1, vU] [] h Q
  refine mE.aload_n dX4_changeLane_0 rfl ?_
  refine mE.callV (as := []) (k := 5) (r := r1) (i := i1) (st := []) dX4_changeLane_1 cf4_changeLane_162 rfl rfl (Nat.le_of_ble_eq_true rfl) (fun _ => Nat.le_of_ble_eq_true rfl) w (kI_on (fun x163 h162 w => ?_))
  refine mE.istore_n (l2 := [vR 0 r 0, vR 5 r1 i1, vI x163]) dX4_changeLane_4 (by decide) rfl ?_
  exact w
theorem w4_changeLane_5 {r : Nat} {r1_ : Nat} {i1_ : Nat} {y2 : Int32} {h : mH} {Q : mV → mH → Prop} (w : ((h.1 5 r1_ i1_ 2) < y2 → Q vU (pI (pI (pI h 5 r1_ i1_ 1 (1 - (h.1 5 r1_ i1_ 1))) 5 r1_ i1_ 7 0) 5 r1_ i1_ 8 ((h.1 5 r1_ i1_ 8) + 1))) ∧ (¬ (h.1 5 r1_ i1_ 2) < y2 → mC M4_take [.inr (.inr (some (0, r, 0))), .inl (h.1 5 r1_ i1_ 1), .inl y2, .inl (-6)] h (kV (fun h164 => mC M4_take [.inr (.inr (some (0, r, 0))), .inl (1 - (h164.1 5 r1_ i1_ 1)), .inl y2, .inl (nI i1_)] h164 (kV (fun h165 => mE M4_changeLane 5 [vR 0 r 0, vR 5 r1_ i1_, vI (y2 + 1)] [] h165 Q)))))) : mE M4_changeLane 5 [vR 0 r 0, vR 5 r1_ i1_, vI y2] [] h Q := by
  refine mE.iload_n dX4_changeLane_5 rfl ?_
  refine mE.aload_n dX4_changeLane_6 rfl ?_
  refine mE.getf (w := .inl (h.1 5 r1_ i1_ 2)) dX4_changeLane_7 f4_147 rfl ?_
  refine mE.icmp_gt (tgt := 45) dX4_changeLane_10 (by decide) (fun c => ?_) (fun c => ?_)
  · have w := w.1 c
    refine mE.aload_n dX4_changeLane_45 rfl ?_
    refine mE.iconst (v := 1) dX4_changeLane_46 (by decide) ?_
    refine mE.aload_n dX4_changeLane_47 rfl ?_
    refine mE.getf (w := .inl (h.1 5 r1_ i1_ 1)) dX4_changeLane_48 f4_156 rfl ?_
    refine mE.isub dX4_changeLane_51 ?_
    refine mE.putf dX4_changeLane_52 p4_156 (fun _ _ _ => rfl) rfl rfl ?_
    refine mE.aload_n dX4_changeLane_55 rfl ?_
    refine mE.iconst (v := 0) dX4_changeLane_56 (by decide) ?_
    refine mE.putf dX4_changeLane_57 p4_110 (fun _ _ _ => rfl) rfl rfl ?_
    refine mE.aload_n dX4_changeLane_60 rfl ?_
    refine mE.dupR dX4_changeLane_61 ?_
    refine mE.getf (w := .inl (h.1 5 r1_ i1_ 8)) dX4_changeLane_62 f4_168 rfl ?_
    refine mE.iconst (v := 1) dX4_changeLane_65 (by decide) ?_
    refine mE.iadd dX4_changeLane_66 ?_
    refine mE.putf dX4_changeLane_67 p4_168 (fun _ _ _ => rfl) rfl rfl ?_
    exact mE.vret dX4_changeLane_70 rfl w
  · have w := w.2 c
    refine mE.aload_n dX4_changeLane_13 rfl ?_
    refine mE.aload_n dX4_changeLane_14 rfl ?_
    refine mE.getf (w := .inl (h.1 5 r1_ i1_ 1)) dX4_changeLane_15 f4_156 rfl ?_
    refine mE.iload_n dX4_changeLane_18 rfl ?_
    refine mE.bipush (v := -6) dX4_changeLane_19 (by decide) ?_
    refine mE.callV (as := [.inl (h.1 5 r1_ i1_ 1), .inl y2, .inl (-6)]) (k := 0) (r := r) (i := 0) (st := []) dX4_changeLane_21 cf4_changeLane_102 rfl rfl (Nat.le_of_ble_eq_true rfl) (fun _ => Nat.le_of_ble_eq_true rfl) w (kV_on (fun h164 w => ?_))
    refine mE.aload_n dX4_changeLane_24 rfl ?_
    refine mE.iconst (v := 1) dX4_changeLane_25 (by decide) ?_
    refine mE.aload_n dX4_changeLane_26 rfl ?_
    refine mE.getf (w := .inl (h164.1 5 r1_ i1_ 1)) dX4_changeLane_27 f4_156 rfl ?_
    refine mE.isub dX4_changeLane_30 ?_
    refine mE.iload_n dX4_changeLane_31 rfl ?_
    refine mE.aload_n dX4_changeLane_32 rfl ?_
    refine mE.getf (w := .inl (nI i1_)) dX4_changeLane_33 f4_159 rfl ?_
    refine mE.callV (as := [.inl (1 - (h164.1 5 r1_ i1_ 1)), .inl y2, .inl (nI i1_)]) (k := 0) (r := r) (i := 0) (st := []) dX4_changeLane_36 cf4_changeLane_102 rfl rfl (Nat.le_of_ble_eq_true rfl) (fun _ => Nat.le_of_ble_eq_true rfl) w (kV_on (fun h165 w => ?_))
    refine mE.iinc (v := y2 + 1) (l2 := [vR 0 r 0, vR 5 r1_ i1_, vI (y2 + 1)]) dX4_changeLane_39 rfl rfl (by decide) rfl ?_
    refine mE.goto (tgt := 5) dX4_changeLane_42 (by decide) ?_
    exact w
theorem w4_notePassings {r : Nat} {h : mH} {Q : mV → mH → Prop} (w : mE M4_notePassings 2 [vR 0 r 0, vI 0, vU, vU] [] h Q) : mC M4_notePassings [.inr (.inr (some (0, r, 0)))] h Q := by
  show mE M4_notePassings 0 [vR 0 r 0, vU, vU, vU] [] h Q
  refine mE.iconst (v := 0) dX4_notePassings_0 (by decide) ?_
  refine mE.istore_n (l2 := [vR 0 r 0, vI 0, vU, vU]) dX4_notePassings_1 (by decide) rfl ?_
  exact w
theorem w4_notePassings_2 {r : Nat} {y1 : Int32} {h : mH} {Q : mV → mH → Prop} (w : ((h.1 0 r 0 4) ≤ y1 → Q vU h) ∧ (¬ (h.1 0 r 0 4) ≤ y1 → mC M4_carNumbered [.inr (.inr (some (0, r, 0))), .inl y1] h (kR5 (fun h166 => mE M4_notePassings 2 [vR 0 r 0, vI (y1 + 1), vU, vU] [] h166 Q) (fun r167 c168 h166 => ((h166.1 5 r167 c168 6) = 0 → mC M4_loopsUnder [.inr (.inr (some (0, r, 0))), .inr (.inr (some (5, r167, c168)))] h166 (kI (fun x170 h169 => mC M4_countPassings [.inr (.inr (some (0, r, 0))), .inl (x170 &&& ((h169.1 5 r167 c168 10) ^^^ (-1)))] h169 (kV (fun h171 => mE M4_notePassings 2 [vR 0 r 0, vI (y1 + 1), vU, vU] [] (pI h171 5 r167 c168 10 x170) Q))))) ∧ (¬ (h166.1 5 r167 c168 6) = 0 → ((h166.1 5 r167 c168 10) = 0 → mE M4_notePassings 2 [vR 0 r 0, vI (y1 + 1), vU, vU] [] h166 Q) ∧ (¬ (h166.1 5 r167 c168 10) = 0 → mC M4_loopsUnder [.inr (.inr (some (0, r, 0))), .inr (.inr (some (5, r167, c168)))] h166 (kI (fun x173 h172 => mC M4_countPassings [.inr (.inr (some (0, r, 0))), .inl (x173 &&& ((h172.1 5 r167 c168 10) ^^^ (-1)))] h172 (kV (fun h174 => mE M4_notePassings 2 [vR 0 r 0, vI (y1 + 1), vU, vU] [] (pI h174 5 r167 c168 10 x173) Q)))))))))) : mE M4_notePassings 2 [vR 0 r 0, vI y1, vU, vU] [] h Q := by
  refine mE.iload_n dX4_notePassings_2 rfl ?_
  refine mE.aload_n dX4_notePassings_3 rfl ?_
  refine mE.getf (w := .inl (h.1 0 r 0 4)) dX4_notePassings_4 f4_44 rfl ?_
  refine mE.icmp_ge (tgt := 63) dX4_notePassings_7 (by decide) (fun c => ?_) (fun c => ?_)
  · have w := w.1 c
    exact mE.vret dX4_notePassings_63 rfl w
  · have w := w.2 c
    refine mE.aload_n dX4_notePassings_10 rfl ?_
    refine mE.iload_n dX4_notePassings_11 rfl ?_
    refine mE.callV (as := [.inl y1]) (k := 0) (r := r) (i := 0) (st := []) dX4_notePassings_12 cf4_notePassings_50 rfl rfl (Nat.le_of_ble_eq_true rfl) (fun _ => Nat.le_of_ble_eq_true rfl) w (kR5_on (fun h166 w => ?_) (fun r167 c168 h166 w => ?_))
    · refine mE.astore_nN (l2 := [vR 0 r 0, vI y1, vN, vU]) dX4_notePassings_15 (by decide) rfl ?_
      refine mE.aload_nN dX4_notePassings_16 rfl ?_
      refine mE.ifnullN (tgt := 57) dX4_notePassings_17 (by decide) ?_
      refine mE.iinc (v := y1 + 1) (l2 := [vR 0 r 0, vI (y1 + 1), vN, vU]) dX4_notePassings_57 rfl rfl (by decide) rfl ?_
      refine mE.goto (tgt := 2) dX4_notePassings_60 (by decide) ?_
      exact mE.less (by exact ⟨Or.inr rfl, ⟨Or.inr rfl, ⟨Or.inl rfl, ⟨Or.inl rfl, trivial⟩⟩⟩⟩) w
    · refine mE.astore_n (l2 := [vR 0 r 0, vI y1, vR 5 r167 c168, vU]) dX4_notePassings_15 (by decide) rfl ?_
      refine mE.aload_n dX4_notePassings_16 rfl ?_
      refine mE.ifnullR dX4_notePassings_17 ?_
      refine mE.aload_n dX4_notePassings_20 rfl ?_
      refine mE.getf (w := .inl (h166.1 5 r167 c168 6)) dX4_notePassings_21 f4_106 rfl ?_
      refine mE.if_eq (tgt := 34) dX4_notePassings_24 (by decide) (fun c => ?_) (fun c => ?_)
      · have w := w.1 c
        refine mE.aload_n dX4_notePassings_34 rfl ?_
        refine mE.aload_n dX4_notePassings_35 rfl ?_
        refine mE.callV (as := [.inr (.inr (some (5, r167, c168)))]) (k := 0) (r := r) (i := 0) (st := []) dX4_notePassings_36 cf4_notePassings_171 rfl rfl (Nat.le_of_ble_eq_true rfl) (fun _ => Nat.le_of_ble_eq_true rfl) w (kI_on (fun x170 h169 w => ?_))
        refine mE.istore_n (l2 := [vR 0 r 0, vI y1, vR 5 r167 c168, vI x170]) dX4_notePassings_39 (by decide) rfl ?_
        refine mE.aload_n dX4_notePassings_40 rfl ?_
        refine mE.iload_n dX4_notePassings_41 rfl ?_
        refine mE.aload_n dX4_notePassings_42 rfl ?_
        refine mE.getf (w := .inl (h169.1 5 r167 c168 10)) dX4_notePassings_43 f4_85 rfl ?_
        refine mE.iconst (v := -1) dX4_notePassings_46 (by decide) ?_
        refine mE.ixor dX4_notePassings_47 ?_
        refine mE.iand dX4_notePassings_48 ?_
        refine mE.callV (as := [.inl (x170 &&& ((h169.1 5 r167 c168 10) ^^^ (-1)))]) (k := 0) (r := r) (i := 0) (st := []) dX4_notePassings_49 cf4_notePassings_175 rfl rfl (Nat.le_of_ble_eq_true rfl) (fun _ => Nat.le_of_ble_eq_true rfl) w (kV_on (fun h171 w => ?_))
        refine mE.aload_n dX4_notePassings_52 rfl ?_
        refine mE.iload_n dX4_notePassings_53 rfl ?_
        refine mE.putf dX4_notePassings_54 p4_85 (fun _ _ _ => rfl) rfl rfl ?_
        refine mE.iinc (v := y1 + 1) (l2 := [vR 0 r 0, vI (y1 + 1), vR 5 r167 c168, vI x170]) dX4_notePassings_57 rfl rfl (by decide) rfl ?_
        refine mE.goto (tgt := 2) dX4_notePassings_60 (by decide) ?_
        exact mE.less (by exact ⟨Or.inr rfl, ⟨Or.inr rfl, ⟨Or.inl rfl, ⟨Or.inl rfl, trivial⟩⟩⟩⟩) w
      · have w := w.2 c
        refine mE.aload_n dX4_notePassings_27 rfl ?_
        refine mE.getf (w := .inl (h166.1 5 r167 c168 10)) dX4_notePassings_28 f4_85 rfl ?_
        refine mE.if_eq (tgt := 57) dX4_notePassings_31 (by decide) (fun c => ?_) (fun c => ?_)
        · have w := w.1 c
          refine mE.iinc (v := y1 + 1) (l2 := [vR 0 r 0, vI (y1 + 1), vR 5 r167 c168, vU]) dX4_notePassings_57 rfl rfl (by decide) rfl ?_
          refine mE.goto (tgt := 2) dX4_notePassings_60 (by decide) ?_
          exact mE.less (by exact ⟨Or.inr rfl, ⟨Or.inr rfl, ⟨Or.inl rfl, ⟨Or.inl rfl, trivial⟩⟩⟩⟩) w
        · have w := w.2 c
          refine mE.aload_n dX4_notePassings_34 rfl ?_
          refine mE.aload_n dX4_notePassings_35 rfl ?_
          refine mE.callV (as := [.inr (.inr (some (5, r167, c168)))]) (k := 0) (r := r) (i := 0) (st := []) dX4_notePassings_36 cf4_notePassings_171 rfl rfl (Nat.le_of_ble_eq_true rfl) (fun _ => Nat.le_of_ble_eq_true rfl) w (kI_on (fun x173 h172 w => ?_))
          refine mE.istore_n (l2 := [vR 0 r 0, vI y1, vR 5 r167 c168, vI x173]) dX4_notePassings_39 (by decide) rfl ?_
          refine mE.aload_n dX4_notePassings_40 rfl ?_
          refine mE.iload_n dX4_notePassings_41 rfl ?_
          refine mE.aload_n dX4_notePassings_42 rfl ?_
          refine mE.getf (w := .inl (h172.1 5 r167 c168 10)) dX4_notePassings_43 f4_85 rfl ?_
          refine mE.iconst (v := -1) dX4_notePassings_46 (by decide) ?_
          refine mE.ixor dX4_notePassings_47 ?_
          refine mE.iand dX4_notePassings_48 ?_
          refine mE.callV (as := [.inl (x173 &&& ((h172.1 5 r167 c168 10) ^^^ (-1)))]) (k := 0) (r := r) (i := 0) (st := []) dX4_notePassings_49 cf4_notePassings_175 rfl rfl (Nat.le_of_ble_eq_true rfl) (fun _ => Nat.le_of_ble_eq_true rfl) w (kV_on (fun h174 w => ?_))
          refine mE.aload_n dX4_notePassings_52 rfl ?_
          refine mE.iload_n dX4_notePassings_53 rfl ?_
          refine mE.putf dX4_notePassings_54 p4_85 (fun _ _ _ => rfl) rfl rfl ?_
          refine mE.iinc (v := y1 + 1) (l2 := [vR 0 r 0, vI (y1 + 1), vR 5 r167 c168, vI x173]) dX4_notePassings_57 rfl rfl (by decide) rfl ?_
          refine mE.goto (tgt := 2) dX4_notePassings_60 (by decide) ?_
          exact mE.less (by exact ⟨Or.inr rfl, ⟨Or.inr rfl, ⟨Or.inl rfl, ⟨Or.inl rfl, trivial⟩⟩⟩⟩) w
theorem w4_countPassings {r : Nat} {a1 : Int32} {h : mH} {Q : mV → mH → Prop} (w : mE M4_countPassings 2 [vR 0 r 0, vI a1, vI 0, vU] [] h Q) : mC M4_countPassings [.inr (.inr (some (0, r, 0))), .inl a1] h Q := by
  show mE M4_countPassings 0 [vR 0 r 0, vI a1, vU, vU] [] h Q
  refine mE.iconst (v := 0) dX4_countPassings_0 (by decide) ?_
  refine mE.istore_n (l2 := [vR 0 r 0, vI a1, vI 0, vU]) dX4_countPassings_1 (by decide) rfl ?_
  exact w
theorem w4_countPassings_2 {r : Nat} {y1 : Int32} {y2 : Int32} {h : mH} {Q : mV → mH → Prop} (w : ((h.1 0 r 0 5) ≤ y2 → Q vU h) ∧ (¬ (h.1 0 r 0 5) ≤ y2 → mC M4_loopNumbered [.inr (.inr (some (0, r, 0))), .inl y2] h (kR6 (fun h175 => mE M4_countPassings 2 [vR 0 r 0, vI y1, vI (y2 + 1), vU] [] h175 Q) (fun r176 c177 h175 => (¬ ((y1 >>> (y2 &&& 31)) &&& 1) = 1 → mE M4_countPassings 2 [vR 0 r 0, vI y1, vI (y2 + 1), vU] [] h175 Q) ∧ (((y1 >>> (y2 &&& 31)) &&& 1) = 1 → mE M4_countPassings 2 [vR 0 r 0, vI y1, vI (y2 + 1), vU] [] (pI h175 6 r176 c177 7 ((h175.1 6 r176 c177 7) + 1)) Q))))) : mE M4_countPassings 2 [vR 0 r 0, vI y1, vI y2, vU] [] h Q := by
  refine mE.iload_n dX4_countPassings_2 rfl ?_
  refine mE.aload_n dX4_countPassings_3 rfl ?_
  refine mE.getf (w := .inl (h.1 0 r 0 5)) dX4_countPassings_4 f4_47 rfl ?_
  refine mE.icmp_ge (tgt := 45) dX4_countPassings_7 (by decide) (fun c => ?_) (fun c => ?_)
  · have w := w.1 c
    exact mE.vret dX4_countPassings_45 rfl w
  · have w := w.2 c
    refine mE.aload_n dX4_countPassings_10 rfl ?_
    refine mE.iload_n dX4_countPassings_11 rfl ?_
    refine mE.callV (as := [.inl y2]) (k := 0) (r := r) (i := 0) (st := []) dX4_countPassings_12 cf4_countPassings_58 rfl rfl (Nat.le_of_ble_eq_true rfl) (fun _ => Nat.le_of_ble_eq_true rfl) w (kR6_on (fun h175 w => ?_) (fun r176 c177 h175 w => ?_))
    · refine mE.astore_nN (l2 := [vR 0 r 0, vI y1, vI y2, vN]) dX4_countPassings_15 (by decide) rfl ?_
      refine mE.aload_nN dX4_countPassings_16 rfl ?_
      refine mE.ifnullN (tgt := 39) dX4_countPassings_17 (by decide) ?_
      refine mE.iinc (v := y2 + 1) (l2 := [vR 0 r 0, vI y1, vI (y2 + 1), vN]) dX4_countPassings_39 rfl rfl (by decide) rfl ?_
      refine mE.goto (tgt := 2) dX4_countPassings_42 (by decide) ?_
      exact mE.less (by exact ⟨Or.inr rfl, ⟨Or.inr rfl, ⟨Or.inr rfl, ⟨Or.inl rfl, trivial⟩⟩⟩⟩) w
    · refine mE.astore_n (l2 := [vR 0 r 0, vI y1, vI y2, vR 6 r176 c177]) dX4_countPassings_15 (by decide) rfl ?_
      refine mE.aload_n dX4_countPassings_16 rfl ?_
      refine mE.ifnullR dX4_countPassings_17 ?_
      refine mE.iload_n dX4_countPassings_20 rfl ?_
      refine mE.iload_n dX4_countPassings_21 rfl ?_
      refine mE.ishr dX4_countPassings_22 ?_
      refine mE.iconst (v := 1) dX4_countPassings_23 (by decide) ?_
      refine mE.iand dX4_countPassings_24 ?_
      refine mE.iconst (v := 1) dX4_countPassings_25 (by decide) ?_
      refine mE.icmp_ne (tgt := 39) dX4_countPassings_26 (by decide) (fun c => ?_) (fun c => ?_)
      · have w := w.1 c
        refine mE.iinc (v := y2 + 1) (l2 := [vR 0 r 0, vI y1, vI (y2 + 1), vR 6 r176 c177]) dX4_countPassings_39 rfl rfl (by decide) rfl ?_
        refine mE.goto (tgt := 2) dX4_countPassings_42 (by decide) ?_
        exact mE.less (by exact ⟨Or.inr rfl, ⟨Or.inr rfl, ⟨Or.inr rfl, ⟨Or.inl rfl, trivial⟩⟩⟩⟩) w
      · have w := w.2 c
        refine mE.aload_n dX4_countPassings_29 rfl ?_
        refine mE.dupR dX4_countPassings_30 ?_
        refine mE.getf (w := .inl (h175.1 6 r176 c177 7)) dX4_countPassings_31 f4_178 rfl ?_
        refine mE.iconst (v := 1) dX4_countPassings_34 (by decide) ?_
        refine mE.iadd dX4_countPassings_35 ?_
        refine mE.putf dX4_countPassings_36 p4_178 (fun _ _ _ => rfl) rfl rfl ?_
        refine mE.iinc (v := y2 + 1) (l2 := [vR 0 r 0, vI y1, vI (y2 + 1), vR 6 r176 c177]) dX4_countPassings_39 rfl rfl (by decide) rfl ?_
        refine mE.goto (tgt := 2) dX4_countPassings_42 (by decide) ?_
        exact mE.less (by exact ⟨Or.inr rfl, ⟨Or.inr rfl, ⟨Or.inr rfl, ⟨Or.inl rfl, trivial⟩⟩⟩⟩) w
theorem w4_loopsUnder {r : Nat} {r1 : Nat} {i1 : Nat} {h : mH} {Q : mV → mH → Prop} (w : mE M4_loopsUnder 4 [vR 0 r 0, vR 5 r1 i1, vI 0, vI 0, vU] [] h Q) : mC M4_loopsUnder [.inr (.inr (some (0, r, 0))), .inr (.inr (some (5, r1, i1)))] h Q := by
  show mE M4_loopsUnder 0 [vR 0 r 0, vR 5 r1 i1, vU, vU, vU] [] h Q
  refine mE.iconst (v := 0) dX4_loopsUnder_0 (by decide) ?_
  refine mE.istore_n (l2 := [vR 0 r 0, vR 5 r1 i1, vI 0, vU, vU]) dX4_loopsUnder_1 (by decide) rfl ?_
  refine mE.iconst (v := 0) dX4_loopsUnder_2 (by decide) ?_
  refine mE.istore_n (l2 := [vR 0 r 0, vR 5 r1 i1, vI 0, vI 0, vU]) dX4_loopsUnder_3 (by decide) rfl ?_
  exact w
theorem w4_loopsUnder_4 {r : Nat} {r1_ : Nat} {i1_ : Nat} {y2 : Int32} {y3 : Int32} {h : mH} {Q : mV → mH → Prop} (w : ((h.1 0 r 0 5) ≤ y3 → Q (vI y2) h) ∧ (¬ (h.1 0 r 0 5) ≤ y3 → mC M4_loopNumbered [.inr (.inr (some (0, r, 0))), .inl y3] h (kR6 (fun h178 => mE M4_loopsUnder 4 [vR 0 r 0, vR 5 r1_ i1_, vI y2, vI (y3 + 1), vU] [] h178 Q) (fun r179 c180 h178 => mC M2_isUnder [.inr (.inr (some (6, r179, c180))), .inr (.inr (some (5, r1_, i1_)))] h178 (kI (fun x182 h181 => (x182 = 0 → mE M4_loopsUnder 4 [vR 0 r 0, vR 5 r1_ i1_, vI y2, vI (y3 + 1), vU] [] h181 Q) ∧ (¬ x182 = 0 → mE M4_loopsUnder 4 [vR 0 r 0, vR 5 r1_ i1_, vI (y2 ||| (1 <<< (y3 &&& 31))), vI (y3 + 1), vU] [] h181 Q))))))) : mE M4_loopsUnder 4 [vR 0 r 0, vR 5 r1_ i1_, vI y2, vI y3, vU] [] h Q := by
  refine mE.iload_n dX4_loopsUnder_4 rfl ?_
  refine mE.aload_n dX4_loopsUnder_5 rfl ?_
  refine mE.getf (w := .inl (h.1 0 r 0 5)) dX4_loopsUnder_6 f4_47 rfl ?_
  refine mE.icmp_ge (tgt := 45) dX4_loopsUnder_9 (by decide) (fun c => ?_) (fun c => ?_)
  · have w := w.1 c
    refine mE.iload_n dX4_loopsUnder_45 rfl ?_
    exact mE.iret dX4_loopsUnder_46 rfl rfl w
  · have w := w.2 c
    refine mE.aload_n dX4_loopsUnder_12 rfl ?_
    refine mE.iload_n dX4_loopsUnder_13 rfl ?_
    refine mE.callV (as := [.inl y3]) (k := 0) (r := r) (i := 0) (st := []) dX4_loopsUnder_14 cf4_loopsUnder_58 rfl rfl (Nat.le_of_ble_eq_true rfl) (fun _ => Nat.le_of_ble_eq_true rfl) w (kR6_on (fun h178 w => ?_) (fun r179 c180 h178 w => ?_))
    · refine mE.astoreN (l2 := [vR 0 r 0, vR 5 r1_ i1_, vI y2, vI y3, vN]) dX4_loopsUnder_17 (by decide) rfl ?_
      refine mE.aloadN dX4_loopsUnder_19 rfl ?_
      refine mE.ifnullN (tgt := 39) dX4_loopsUnder_21 (by decide) ?_
      refine mE.iinc (v := y3 + 1) (l2 := [vR 0 r 0, vR 5 r1_ i1_, vI y2, vI (y3 + 1), vN]) dX4_loopsUnder_39 rfl rfl (by decide) rfl ?_
      refine mE.goto (tgt := 4) dX4_loopsUnder_42 (by decide) ?_
      exact mE.less (by exact ⟨Or.inr rfl, ⟨Or.inr rfl, ⟨Or.inr rfl, ⟨Or.inr rfl, ⟨Or.inl rfl, trivial⟩⟩⟩⟩⟩) w
    · refine mE.astore (l2 := [vR 0 r 0, vR 5 r1_ i1_, vI y2, vI y3, vR 6 r179 c180]) dX4_loopsUnder_17 (by decide) rfl ?_
      refine mE.aload dX4_loopsUnder_19 rfl ?_
      refine mE.ifnullR dX4_loopsUnder_21 ?_
      refine mE.aload dX4_loopsUnder_24 rfl ?_
      refine mE.aload_n dX4_loopsUnder_26 rfl ?_
      refine mE.callV (as := [.inr (.inr (some (5, r1_, i1_)))]) (k := 6) (r := r179) (i := c180) (st := []) dX4_loopsUnder_27 cf4_loopsUnder_81 rfl rfl (Nat.le_of_ble_eq_true rfl) (fun _ => Nat.le_of_ble_eq_true rfl) w (kI_on (fun x182 h181 w => ?_))
      refine mE.if_eq (tgt := 39) dX4_loopsUnder_30 (by decide) (fun c => ?_) (fun c => ?_)
      · have w := w.1 c
        refine mE.iinc (v := y3 + 1) (l2 := [vR 0 r 0, vR 5 r1_ i1_, vI y2, vI (y3 + 1), vR 6 r179 c180]) dX4_loopsUnder_39 rfl rfl (by decide) rfl ?_
        refine mE.goto (tgt := 4) dX4_loopsUnder_42 (by decide) ?_
        exact mE.less (by exact ⟨Or.inr rfl, ⟨Or.inr rfl, ⟨Or.inr rfl, ⟨Or.inr rfl, ⟨Or.inl rfl, trivial⟩⟩⟩⟩⟩) w
      · have w := w.2 c
        refine mE.iload_n dX4_loopsUnder_33 rfl ?_
        refine mE.iconst (v := 1) dX4_loopsUnder_34 (by decide) ?_
        refine mE.iload_n dX4_loopsUnder_35 rfl ?_
        refine mE.ishl dX4_loopsUnder_36 ?_
        refine mE.ior dX4_loopsUnder_37 ?_
        refine mE.istore_n (l2 := [vR 0 r 0, vR 5 r1_ i1_, vI (y2 ||| (1 <<< (y3 &&& 31))), vI y3, vR 6 r179 c180]) dX4_loopsUnder_38 (by decide) rfl ?_
        refine mE.iinc (v := y3 + 1) (l2 := [vR 0 r 0, vR 5 r1_ i1_, vI (y2 ||| (1 <<< (y3 &&& 31))), vI (y3 + 1), vR 6 r179 c180]) dX4_loopsUnder_39 rfl rfl (by decide) rfl ?_
        refine mE.goto (tgt := 4) dX4_loopsUnder_42 (by decide) ?_
        exact mE.less (by exact ⟨Or.inr rfl, ⟨Or.inr rfl, ⟨Or.inr rfl, ⟨Or.inr rfl, ⟨Or.inl rfl, trivial⟩⟩⟩⟩⟩) w
theorem w4_strengthOf {r : Nat} {r1 : Nat} {i1 : Nat} {h : mH} {Q : mV → mH → Prop} (w : mC M4_metalIn [.inr (.inr (some (0, r, 0))), .inl (h.1 6 r1 i1 0), .inr (.inr (some (6, r1, i1)))] h (kI (fun x184 h183 => mC M4_metalIn [.inr (.inr (some (0, r, 0))), .inl (1 - (h183.1 6 r1 i1 0)), .inr (.inr (some (6, r1, i1)))] h183 (kI (fun x186 h185 => Q (vI ((4 * x184) + ((h183.1 0 r 0 7) * x186))) h185))))) : mC M4_strengthOf [.inr (.inr (some (0, r, 0))), .inr (.inr (some (6, r1, i1)))] h Q := by
  show mE M4_strengthOf 0 [vR 0 r 0, vR 6 r1 i1] [] h Q
  refine mE.iconst (v := 4) dX4_strengthOf_0 (by decide) ?_
  refine mE.aload_n dX4_strengthOf_1 rfl ?_
  refine mE.aload_n dX4_strengthOf_2 rfl ?_
  refine mE.getf (w := .inl (h.1 6 r1 i1 0)) dX4_strengthOf_3 f4_181 rfl ?_
  refine mE.aload_n dX4_strengthOf_6 rfl ?_
  refine mE.callV (as := [.inl (h.1 6 r1 i1 0), .inr (.inr (some (6, r1, i1)))]) (k := 0) (r := r) (i := 0) (st := [vI 4]) dX4_strengthOf_7 cf4_strengthOf_182 rfl rfl (Nat.le_of_ble_eq_true rfl) (fun _ => Nat.le_of_ble_eq_true rfl) w (kI_on (fun x184 h183 w => ?_))
  refine mE.imul dX4_strengthOf_10 ?_
  refine mE.aload_n dX4_strengthOf_11 rfl ?_
  refine mE.getf (w := .inl (h183.1 0 r 0 7)) dX4_strengthOf_12 f4_30 rfl ?_
  refine mE.aload_n dX4_strengthOf_15 rfl ?_
  refine mE.iconst (v := 1) dX4_strengthOf_16 (by decide) ?_
  refine mE.aload_n dX4_strengthOf_17 rfl ?_
  refine mE.getf (w := .inl (h183.1 6 r1 i1 0)) dX4_strengthOf_18 f4_181 rfl ?_
  refine mE.isub dX4_strengthOf_21 ?_
  refine mE.aload_n dX4_strengthOf_22 rfl ?_
  refine mE.callV (as := [.inl (1 - (h183.1 6 r1 i1 0)), .inr (.inr (some (6, r1, i1)))]) (k := 0) (r := r) (i := 0) (st := [vI (h183.1 0 r 0 7), vI (4 * x184)]) dX4_strengthOf_23 cf4_strengthOf_182 rfl rfl (Nat.le_of_ble_eq_true rfl) (fun _ => Nat.le_of_ble_eq_true rfl) w (kI_on (fun x186 h185 w => ?_))
  refine mE.imul dX4_strengthOf_26 ?_
  refine mE.iadd dX4_strengthOf_27 ?_
  exact mE.iret dX4_strengthOf_28 rfl rfl w
theorem w4_metalIn {r : Nat} {a1 : Int32} {r2 : Nat} {i2 : Nat} {h : mH} {Q : mV → mH → Prop} (w : mE M4_metalIn 5 [vR 0 r 0, vI a1, vR 6 r2 i2, vI 0, vI 0, vU] [] h Q) : mC M4_metalIn [.inr (.inr (some (0, r, 0))), .inl a1, .inr (.inr (some (6, r2, i2)))] h Q := by
  show mE M4_metalIn 0 [vR 0 r 0, vI a1, vR 6 r2 i2, vU, vU, vU] [] h Q
  refine mE.iconst (v := 0) dX4_metalIn_0 (by decide) ?_
  refine mE.istore_n (l2 := [vR 0 r 0, vI a1, vR 6 r2 i2, vI 0, vU, vU]) dX4_metalIn_1 (by decide) rfl ?_
  refine mE.iconst (v := 0) dX4_metalIn_2 (by decide) ?_
  refine mE.istore (l2 := [vR 0 r 0, vI a1, vR 6 r2 i2, vI 0, vI 0, vU]) dX4_metalIn_3 (by decide) rfl ?_
  exact w
theorem w4_metalIn_5 {r : Nat} {y1 : Int32} {r2_ : Nat} {i2_ : Nat} {y3 : Int32} {y4 : Int32} {h : mH} {Q : mV → mH → Prop} (w : ((h.1 6 r2_ i2_ 2) ≤ y4 → Q (vI y3) h) ∧ (¬ (h.1 6 r2_ i2_ 2) ≤ y4 → mC M4_takerOf [.inr (.inr (some (0, r, 0))), .inl y1, .inl ((h.1 6 r2_ i2_ 1) + y4)] h (kI (fun x188 h187 => mC M4_carNumbered [.inr (.inr (some (0, r, 0))), .inl x188] h187 (kR5 (fun h189 => mE M4_metalIn 5 [vR 0 r 0, vI y1, vR 6 r2_ i2_, vI y3, vI (y4 + 1), vU] [] h189 Q) (fun r190 c191 h189 => mE M4_metalIn 5 [vR 0 r 0, vI y1, vR 6 r2_ i2_, vI (y3 + (h189.1 5 r190 c191 5)), vI (y4 + 1), vU] [] h189 Q)))))) : mE M4_metalIn 5 [vR 0 r 0, vI y1, vR 6 r2_ i2_, vI y3, vI y4, vU] [] h Q := by
  refine mE.iload dX4_metalIn_5 rfl ?_
  refine mE.aload_n dX4_metalIn_7 rfl ?_
  refine mE.getf (w := .inl (h.1 6 r2_ i2_ 2)) dX4_metalIn_8 f4_186 rfl ?_
  refine mE.icmp_ge (tgt := 51) dX4_metalIn_11 (by decide) (fun c => ?_) (fun c => ?_)
  · have w := w.1 c
    refine mE.iload_n dX4_metalIn_51 rfl ?_
    exact mE.iret dX4_metalIn_52 rfl rfl w
  · have w := w.2 c
    refine mE.aload_n dX4_metalIn_14 rfl ?_
    refine mE.aload_n dX4_metalIn_15 rfl ?_
    refine mE.iload_n dX4_metalIn_16 rfl ?_
    refine mE.aload_n dX4_metalIn_17 rfl ?_
    refine mE.getf (w := .inl (h.1 6 r2_ i2_ 1)) dX4_metalIn_18 f4_189 rfl ?_
    refine mE.iload dX4_metalIn_21 rfl ?_
    refine mE.iadd dX4_metalIn_23 ?_
    refine mE.callV (as := [.inl y1, .inl ((h.1 6 r2_ i2_ 1) + y4)]) (k := 0) (r := r) (i := 0) (st := [vR 0 r 0]) dX4_metalIn_24 cf4_metalIn_94 rfl rfl (Nat.le_of_ble_eq_true rfl) (fun _ => Nat.le_of_ble_eq_true rfl) w (kI_on (fun x188 h187 w => ?_))
    refine mE.callV (as := [.inl x188]) (k := 0) (r := r) (i := 0) (st := []) dX4_metalIn_27 cf4_metalIn_50 rfl rfl (Nat.le_of_ble_eq_true rfl) (fun _ => Nat.le_of_ble_eq_true rfl) w (kR5_on (fun h189 w => ?_) (fun r190 c191 h189 w => ?_))
    · refine mE.astoreN (l2 := [vR 0 r 0, vI y1, vR 6 r2_ i2_, vI y3, vI y4, vN]) dX4_metalIn_30 (by decide) rfl ?_
      refine mE.aloadN dX4_metalIn_32 rfl ?_
      refine mE.ifnullN (tgt := 45) dX4_metalIn_34 (by decide) ?_
      refine mE.iinc (v := y4 + 1) (l2 := [vR 0 r 0, vI y1, vR 6 r2_ i2_, vI y3, vI (y4 + 1), vN]) dX4_metalIn_45 rfl rfl (by decide) rfl ?_
      refine mE.goto (tgt := 5) dX4_metalIn_48 (by decide) ?_
      exact mE.less (by exact ⟨Or.inr rfl, ⟨Or.inr rfl, ⟨Or.inr rfl, ⟨Or.inr rfl, ⟨Or.inr rfl, ⟨Or.inl rfl, trivial⟩⟩⟩⟩⟩⟩) w
    · refine mE.astore (l2 := [vR 0 r 0, vI y1, vR 6 r2_ i2_, vI y3, vI y4, vR 5 r190 c191]) dX4_metalIn_30 (by decide) rfl ?_
      refine mE.aload dX4_metalIn_32 rfl ?_
      refine mE.ifnullR dX4_metalIn_34 ?_
      refine mE.iload_n dX4_metalIn_37 rfl ?_
      refine mE.aload dX4_metalIn_38 rfl ?_
      refine mE.getf (w := .inl (h189.1 5 r190 c191 5)) dX4_metalIn_40 f4_192 rfl ?_
      refine mE.iadd dX4_metalIn_43 ?_
      refine mE.istore_n (l2 := [vR 0 r 0, vI y1, vR 6 r2_ i2_, vI (y3 + (h189.1 5 r190 c191 5)), vI y4, vR 5 r190 c191]) dX4_metalIn_44 (by decide) rfl ?_
      refine mE.iinc (v := y4 + 1) (l2 := [vR 0 r 0, vI y1, vR 6 r2_ i2_, vI (y3 + (h189.1 5 r190 c191 5)), vI (y4 + 1), vR 5 r190 c191]) dX4_metalIn_45 rfl rfl (by decide) rfl ?_
      refine mE.goto (tgt := 5) dX4_metalIn_48 (by decide) ?_
      exact mE.less (by exact ⟨Or.inr rfl, ⟨Or.inr rfl, ⟨Or.inr rfl, ⟨Or.inr rfl, ⟨Or.inr rfl, ⟨Or.inl rfl, trivial⟩⟩⟩⟩⟩⟩) w
theorem w4_takerOf {r : Nat} {a1 : Int32} {a2 : Int32} {h : mH} {Q : mV → mH → Prop} (w : (a2 < 0 → Q (vI (-6)) h) ∧ (¬ a2 < 0 → (40 ≤ a2 → Q (vI (-6)) h) ∧ (¬ 40 ≤ a2 → (((a1 * 40) + a2) < 0 → Q (vI (-6)) h) ∧ (¬ ((a1 * 40) + a2) < 0 → (80 ≤ ((a1 * 40) + a2) → Q (vI (-6)) h) ∧ (¬ 80 ≤ ((a1 * 40) + a2) → vp_in ((a1 * 40) + a2) 80 ∧ (Q (vI (h.1 3 r 0 (((a1 * 40) + a2).toNatClampNeg))) h)))))) : mC M4_takerOf [.inr (.inr (some (0, r, 0))), .inl a1, .inl a2] h Q := by
  show mE M4_takerOf 0 [vR 0 r 0, vI a1, vI a2, vU] [] h Q
  refine mE.iload_n dX4_takerOf_0 rfl ?_
  refine mE.bipush (v := 40) dX4_takerOf_1 (by decide) ?_
  refine mE.imul dX4_takerOf_3 ?_
  refine mE.iload_n dX4_takerOf_4 rfl ?_
  refine mE.iadd dX4_takerOf_5 ?_
  refine mE.istore_n (l2 := [vR 0 r 0, vI a1, vI a2, vI ((a1 * 40) + a2)]) dX4_takerOf_6 (by decide) rfl ?_
  refine mE.iload_n dX4_takerOf_7 rfl ?_
  refine mE.if_lt (tgt := 39) dX4_takerOf_8 (by decide) (fun c => ?_) (fun c => ?_)
  · have w := w.1 c
    refine mE.bipush (v := -6) dX4_takerOf_39 (by decide) ?_
    exact mE.iret dX4_takerOf_41 rfl rfl w
  · have w := w.2 c
    refine mE.iload_n dX4_takerOf_11 rfl ?_
    refine mE.bipush (v := 40) dX4_takerOf_12 (by decide) ?_
    refine mE.icmp_ge (tgt := 39) dX4_takerOf_14 (by decide) (fun c => ?_) (fun c => ?_)
    · have w := w.1 c
      refine mE.bipush (v := -6) dX4_takerOf_39 (by decide) ?_
      exact mE.iret dX4_takerOf_41 rfl rfl w
    · have w := w.2 c
      refine mE.iload_n dX4_takerOf_17 rfl ?_
      refine mE.if_lt (tgt := 39) dX4_takerOf_18 (by decide) (fun c => ?_) (fun c => ?_)
      · have w := w.1 c
        refine mE.bipush (v := -6) dX4_takerOf_39 (by decide) ?_
        exact mE.iret dX4_takerOf_41 rfl rfl w
      · have w := w.2 c
        refine mE.iload_n dX4_takerOf_21 rfl ?_
        refine mE.aload_n dX4_takerOf_22 rfl ?_
        refine mE.getf (w := .inr (.inr (some (3, r, 0)))) dX4_takerOf_23 f4_23 rfl ?_
        refine mE.alen (v := 80) dX4_takerOf_26 rfl (by decide) ?_
        refine mE.icmp_ge (tgt := 39) dX4_takerOf_27 (by decide) (fun c => ?_) (fun c => ?_)
        · have w := w.1 c
          refine mE.bipush (v := -6) dX4_takerOf_39 (by decide) ?_
          exact mE.iret dX4_takerOf_41 rfl rfl w
        · have w := w.2 c
          refine mE.aload_n dX4_takerOf_30 rfl ?_
          refine mE.getf (w := .inr (.inr (some (3, r, 0)))) dX4_takerOf_31 f4_23 rfl ?_
          refine mE.iload_n dX4_takerOf_34 rfl ?_
          refine mE.iald (x := h.1 3 r 0 (((a1 * 40) + a2).toNatClampNeg)) dX4_takerOf_35 rfl rfl w.1 rfl ?_
          have w := w.2
          refine mE.goto (tgt := 41) dX4_takerOf_36 (by decide) ?_
          exact mE.iret dX4_takerOf_41 rfl rfl w
theorem w4_take {r : Nat} {a1 : Int32} {a2 : Int32} {a3 : Int32} {h : mH} {Q : mV → mH → Prop} (w : (a2 < 0 → Q vU h) ∧ (¬ a2 < 0 → (40 ≤ a2 → Q vU h) ∧ (¬ 40 ≤ a2 → (((a1 * 40) + a2) < 0 → Q vU h) ∧ (¬ ((a1 * 40) + a2) < 0 → (80 ≤ ((a1 * 40) + a2) → Q vU h) ∧ (¬ 80 ≤ ((a1 * 40) + a2) → vp_in ((a1 * 40) + a2) 80 ∧ (Q vU (pI h 3 r 0 (((a1 * 40) + a2).toNatClampNeg) a3))))))) : mC M4_take [.inr (.inr (some (0, r, 0))), .inl a1, .inl a2, .inl a3] h Q := by
  show mE M4_take 0 [vR 0 r 0, vI a1, vI a2, vI a3, vU] [] h Q
  refine mE.iload_n dX4_take_0 rfl ?_
  refine mE.bipush (v := 40) dX4_take_1 (by decide) ?_
  refine mE.imul dX4_take_3 ?_
  refine mE.iload_n dX4_take_4 rfl ?_
  refine mE.iadd dX4_take_5 ?_
  refine mE.istore (l2 := [vR 0 r 0, vI a1, vI a2, vI a3, vI ((a1 * 40) + a2)]) dX4_take_6 (by decide) rfl ?_
  refine mE.iload_n dX4_take_8 rfl ?_
  refine mE.if_lt (tgt := 41) dX4_take_9 (by decide) (fun c => ?_) (fun c => ?_)
  · have w := w.1 c
    exact mE.vret dX4_take_41 rfl w
  · have w := w.2 c
    refine mE.iload_n dX4_take_12 rfl ?_
    refine mE.bipush (v := 40) dX4_take_13 (by decide) ?_
    refine mE.icmp_ge (tgt := 41) dX4_take_15 (by decide) (fun c => ?_) (fun c => ?_)
    · have w := w.1 c
      exact mE.vret dX4_take_41 rfl w
    · have w := w.2 c
      refine mE.iload dX4_take_18 rfl ?_
      refine mE.if_lt (tgt := 41) dX4_take_20 (by decide) (fun c => ?_) (fun c => ?_)
      · have w := w.1 c
        exact mE.vret dX4_take_41 rfl w
      · have w := w.2 c
        refine mE.iload dX4_take_23 rfl ?_
        refine mE.aload_n dX4_take_25 rfl ?_
        refine mE.getf (w := .inr (.inr (some (3, r, 0)))) dX4_take_26 f4_23 rfl ?_
        refine mE.alen (v := 80) dX4_take_29 rfl (by decide) ?_
        refine mE.icmp_ge (tgt := 41) dX4_take_30 (by decide) (fun c => ?_) (fun c => ?_)
        · have w := w.1 c
          exact mE.vret dX4_take_41 rfl w
        · have w := w.2 c
          refine mE.aload_n dX4_take_33 rfl ?_
          refine mE.getf (w := .inr (.inr (some (3, r, 0)))) dX4_take_34 f4_23 rfl ?_
          refine mE.iload dX4_take_37 rfl ?_
          refine mE.iload_n dX4_take_39 rfl ?_
          refine mE.iast dX4_take_40 rfl rfl (fun _ _ _ _ => rfl) w.1 ?_
          have w := w.2
          exact mE.vret dX4_take_41 rfl w
theorem w4_carsGone {r : Nat} {h : mH} {Q : mV → mH → Prop} (w : mE M4_carsGone 4 [vR 0 r 0, vI 0, vI 0, vU] [] h Q) : mC M4_carsGone [.inr (.inr (some (0, r, 0)))] h Q := by
  show mE M4_carsGone 0 [vR 0 r 0, vU, vU, vU] [] h Q
  refine mE.iconst (v := 0) dX4_carsGone_0 (by decide) ?_
  refine mE.istore_n (l2 := [vR 0 r 0, vI 0, vU, vU]) dX4_carsGone_1 (by decide) rfl ?_
  refine mE.iconst (v := 0) dX4_carsGone_2 (by decide) ?_
  refine mE.istore_n (l2 := [vR 0 r 0, vI 0, vI 0, vU]) dX4_carsGone_3 (by decide) rfl ?_
  exact w
theorem w4_carsGone_4 {r : Nat} {y1 : Int32} {y2 : Int32} {h : mH} {Q : mV → mH → Prop} (w : ((h.1 0 r 0 4) ≤ y2 → Q (vI y1) h) ∧ (¬ (h.1 0 r 0 4) ≤ y2 → mC M4_carNumbered [.inr (.inr (some (0, r, 0))), .inl y2] h (kR5 (fun h192 => mE M4_carsGone 4 [vR 0 r 0, vI y1, vI (y2 + 1), vU] [] h192 Q) (fun r193 c194 h192 => ((h192.1 5 r193 c194 6) = 0 → mE M4_carsGone 4 [vR 0 r 0, vI y1, vI (y2 + 1), vU] [] h192 Q) ∧ (¬ (h192.1 5 r193 c194 6) = 0 → mE M4_carsGone 4 [vR 0 r 0, vI (y1 + 1), vI (y2 + 1), vU] [] h192 Q))))) : mE M4_carsGone 4 [vR 0 r 0, vI y1, vI y2, vU] [] h Q := by
  refine mE.iload_n dX4_carsGone_4 rfl ?_
  refine mE.aload_n dX4_carsGone_5 rfl ?_
  refine mE.getf (w := .inl (h.1 0 r 0 4)) dX4_carsGone_6 f4_44 rfl ?_
  refine mE.icmp_ge (tgt := 38) dX4_carsGone_9 (by decide) (fun c => ?_) (fun c => ?_)
  · have w := w.1 c
    refine mE.iload_n dX4_carsGone_38 rfl ?_
    exact mE.iret dX4_carsGone_39 rfl rfl w
  · have w := w.2 c
    refine mE.aload_n dX4_carsGone_12 rfl ?_
    refine mE.iload_n dX4_carsGone_13 rfl ?_
    refine mE.callV (as := [.inl y2]) (k := 0) (r := r) (i := 0) (st := []) dX4_carsGone_14 cf4_carsGone_50 rfl rfl (Nat.le_of_ble_eq_true rfl) (fun _ => Nat.le_of_ble_eq_true rfl) w (kR5_on (fun h192 w => ?_) (fun r193 c194 h192 w => ?_))
    · refine mE.astore_nN (l2 := [vR 0 r 0, vI y1, vI y2, vN]) dX4_carsGone_17 (by decide) rfl ?_
      refine mE.aload_nN dX4_carsGone_18 rfl ?_
      refine mE.ifnullN (tgt := 32) dX4_carsGone_19 (by decide) ?_
      refine mE.iinc (v := y2 + 1) (l2 := [vR 0 r 0, vI y1, vI (y2 + 1), vN]) dX4_carsGone_32 rfl rfl (by decide) rfl ?_
      refine mE.goto (tgt := 4) dX4_carsGone_35 (by decide) ?_
      exact mE.less (by exact ⟨Or.inr rfl, ⟨Or.inr rfl, ⟨Or.inr rfl, ⟨Or.inl rfl, trivial⟩⟩⟩⟩) w
    · refine mE.astore_n (l2 := [vR 0 r 0, vI y1, vI y2, vR 5 r193 c194]) dX4_carsGone_17 (by decide) rfl ?_
      refine mE.aload_n dX4_carsGone_18 rfl ?_
      refine mE.ifnullR dX4_carsGone_19 ?_
      refine mE.aload_n dX4_carsGone_22 rfl ?_
      refine mE.getf (w := .inl (h192.1 5 r193 c194 6)) dX4_carsGone_23 f4_106 rfl ?_
      refine mE.if_eq (tgt := 32) dX4_carsGone_26 (by decide) (fun c => ?_) (fun c => ?_)
      · have w := w.1 c
        refine mE.iinc (v := y2 + 1) (l2 := [vR 0 r 0, vI y1, vI (y2 + 1), vR 5 r193 c194]) dX4_carsGone_32 rfl rfl (by decide) rfl ?_
        refine mE.goto (tgt := 4) dX4_carsGone_35 (by decide) ?_
        exact mE.less (by exact ⟨Or.inr rfl, ⟨Or.inr rfl, ⟨Or.inr rfl, ⟨Or.inl rfl, trivial⟩⟩⟩⟩) w
      · have w := w.2 c
        refine mE.iinc (v := y1 + 1) (l2 := [vR 0 r 0, vI (y1 + 1), vI y2, vR 5 r193 c194]) dX4_carsGone_29 rfl rfl (by decide) rfl ?_
        refine mE.iinc (v := y2 + 1) (l2 := [vR 0 r 0, vI (y1 + 1), vI (y2 + 1), vR 5 r193 c194]) dX4_carsGone_32 rfl rfl (by decide) rfl ?_
        refine mE.goto (tgt := 4) dX4_carsGone_35 (by decide) ?_
        exact mE.less (by exact ⟨Or.inr rfl, ⟨Or.inr rfl, ⟨Or.inr rfl, ⟨Or.inl rfl, trivial⟩⟩⟩⟩) w
theorem w4_sumOfLoops {r : Nat} {a1 : Int32} {h : mH} {Q : mV → mH → Prop} (w : mE M4_sumOfLoops 4 [vR 0 r 0, vI a1, vI 0, vI 0, vU] [] h Q) : mC M4_sumOfLoops [.inr (.inr (some (0, r, 0))), .inl a1] h Q := by
  show mE M4_sumOfLoops 0 [vR 0 r 0, vI a1, vU, vU, vU] [] h Q
  refine mE.iconst (v := 0) dX4_sumOfLoops_0 (by decide) ?_
  refine mE.istore_n (l2 := [vR 0 r 0, vI a1, vI 0, vU, vU]) dX4_sumOfLoops_1 (by decide) rfl ?_
  refine mE.iconst (v := 0) dX4_sumOfLoops_2 (by decide) ?_
  refine mE.istore_n (l2 := [vR 0 r 0, vI a1, vI 0, vI 0, vU]) dX4_sumOfLoops_3 (by decide) rfl ?_
  exact w
theorem w4_sumOfLoops_4 {r : Nat} {y1 : Int32} {y2 : Int32} {y3 : Int32} {h : mH} {Q : mV → mH → Prop} (w : ((h.1 0 r 0 5) ≤ y3 → Q (vI y2) h) ∧ (¬ (h.1 0 r 0 5) ≤ y3 → mC M4_loopNumbered [.inr (.inr (some (0, r, 0))), .inl y3] h (kR6 (fun h195 => mE M4_sumOfLoops 4 [vR 0 r 0, vI y1, vI (y2 + 0), vI (y3 + 1), vU] [] h195 Q) (fun r196 c197 h195 => mC M2_about [.inr (.inr (some (6, r196, c197))), .inl y1] h195 (kI (fun x199 h198 => mE M4_sumOfLoops 4 [vR 0 r 0, vI y1, vI (y2 + x199), vI (y3 + 1), vU] [] h198 Q)))))) : mE M4_sumOfLoops 4 [vR 0 r 0, vI y1, vI y2, vI y3, vU] [] h Q := by
  refine mE.iload_n dX4_sumOfLoops_4 rfl ?_
  refine mE.aload_n dX4_sumOfLoops_5 rfl ?_
  refine mE.getf (w := .inl (h.1 0 r 0 5)) dX4_sumOfLoops_6 f4_47 rfl ?_
  refine mE.icmp_ge (tgt := 43) dX4_sumOfLoops_9 (by decide) (fun c => ?_) (fun c => ?_)
  · have w := w.1 c
    refine mE.iload_n dX4_sumOfLoops_43 rfl ?_
    exact mE.iret dX4_sumOfLoops_44 rfl rfl w
  · have w := w.2 c
    refine mE.aload_n dX4_sumOfLoops_12 rfl ?_
    refine mE.iload_n dX4_sumOfLoops_13 rfl ?_
    refine mE.callV (as := [.inl y3]) (k := 0) (r := r) (i := 0) (st := []) dX4_sumOfLoops_14 cf4_sumOfLoops_58 rfl rfl (Nat.le_of_ble_eq_true rfl) (fun _ => Nat.le_of_ble_eq_true rfl) w (kR6_on (fun h195 w => ?_) (fun r196 c197 h195 w => ?_))
    · refine mE.astoreN (l2 := [vR 0 r 0, vI y1, vI y2, vI y3, vN]) dX4_sumOfLoops_17 (by decide) rfl ?_
      refine mE.iload_n dX4_sumOfLoops_19 rfl ?_
      refine mE.aloadN dX4_sumOfLoops_20 rfl ?_
      refine mE.ifnonnullN dX4_sumOfLoops_22 ?_
      refine mE.iconst (v := 0) dX4_sumOfLoops_25 (by decide) ?_
      refine mE.goto (tgt := 35) dX4_sumOfLoops_26 (by decide) ?_
      refine mE.iadd dX4_sumOfLoops_35 ?_
      refine mE.istore_n (l2 := [vR 0 r 0, vI y1, vI (y2 + 0), vI y3, vN]) dX4_sumOfLoops_36 (by decide) rfl ?_
      refine mE.iinc (v := y3 + 1) (l2 := [vR 0 r 0, vI y1, vI (y2 + 0), vI (y3 + 1), vN]) dX4_sumOfLoops_37 rfl rfl (by decide) rfl ?_
      refine mE.goto (tgt := 4) dX4_sumOfLoops_40 (by decide) ?_
      exact mE.less (by exact ⟨Or.inr rfl, ⟨Or.inr rfl, ⟨Or.inr rfl, ⟨Or.inr rfl, ⟨Or.inl rfl, trivial⟩⟩⟩⟩⟩) w
    · refine mE.astore (l2 := [vR 0 r 0, vI y1, vI y2, vI y3, vR 6 r196 c197]) dX4_sumOfLoops_17 (by decide) rfl ?_
      refine mE.iload_n dX4_sumOfLoops_19 rfl ?_
      refine mE.aload dX4_sumOfLoops_20 rfl ?_
      refine mE.ifnonnullR (tgt := 29) dX4_sumOfLoops_22 (by decide) ?_
      refine mE.aload dX4_sumOfLoops_29 rfl ?_
      refine mE.iload_n dX4_sumOfLoops_31 rfl ?_
      refine mE.callV (as := [.inl y1]) (k := 6) (r := r196) (i := c197) (st := [vI y2]) dX4_sumOfLoops_32 cf4_sumOfLoops_195 rfl rfl (Nat.le_of_ble_eq_true rfl) (fun _ => Nat.le_of_ble_eq_true rfl) w (kI_on (fun x199 h198 w => ?_))
      refine mE.iadd dX4_sumOfLoops_35 ?_
      refine mE.istore_n (l2 := [vR 0 r 0, vI y1, vI (y2 + x199), vI y3, vR 6 r196 c197]) dX4_sumOfLoops_36 (by decide) rfl ?_
      refine mE.iinc (v := y3 + 1) (l2 := [vR 0 r 0, vI y1, vI (y2 + x199), vI (y3 + 1), vR 6 r196 c197]) dX4_sumOfLoops_37 rfl rfl (by decide) rfl ?_
      refine mE.goto (tgt := 4) dX4_sumOfLoops_40 (by decide) ?_
      exact mE.less (by exact ⟨Or.inr rfl, ⟨Or.inr rfl, ⟨Or.inr rfl, ⟨Or.inr rfl, ⟨Or.inl rfl, trivial⟩⟩⟩⟩⟩) w
theorem w4_allAmounts {r : Nat} {h : mH} {Q : mV → mH → Prop} (w : mE M4_allAmounts 4 [vR 0 r 0, vI 0, vI 0, vU] [] h Q) : mC M4_allAmounts [.inr (.inr (some (0, r, 0)))] h Q := by
  show mE M4_allAmounts 0 [vR 0 r 0, vU, vU, vU] [] h Q
  refine mE.iconst (v := 0) dX4_allAmounts_0 (by decide) ?_
  refine mE.istore_n (l2 := [vR 0 r 0, vI 0, vU, vU]) dX4_allAmounts_1 (by decide) rfl ?_
  refine mE.iconst (v := 0) dX4_allAmounts_2 (by decide) ?_
  refine mE.istore_n (l2 := [vR 0 r 0, vI 0, vI 0, vU]) dX4_allAmounts_3 (by decide) rfl ?_
  exact w
theorem w4_allAmounts_4 {r : Nat} {y1 : Int32} {y2 : Int32} {h : mH} {Q : mV → mH → Prop} (w : ((h.1 0 r 0 5) ≤ y2 → Q (vI y1) h) ∧ (¬ (h.1 0 r 0 5) ≤ y2 → mC M4_loopNumbered [.inr (.inr (some (0, r, 0))), .inl y2] h (kR6 (fun h200 => mE M4_allAmounts 4 [vR 0 r 0, vI (y1 + 0), vI (y2 + 1), vU] [] h200 Q) (fun r201 c202 h200 => mC M2_falselyCounted [.inr (.inr (some (6, r201, c202)))] h200 (kI (fun x204 h203 => mE M4_allAmounts 4 [vR 0 r 0, vI (y1 + (if 0 ≤ x204 then x204 else 0 - x204)), vI (y2 + 1), vU] [] h203 Q)))))) : mE M4_allAmounts 4 [vR 0 r 0, vI y1, vI y2, vU] [] h Q := by
  refine mE.iload_n dX4_allAmounts_4 rfl ?_
  refine mE.aload_n dX4_allAmounts_5 rfl ?_
  refine mE.getf (w := .inl (h.1 0 r 0 5)) dX4_allAmounts_6 f4_47 rfl ?_
  refine mE.icmp_ge (tgt := 42) dX4_allAmounts_9 (by decide) (fun c => ?_) (fun c => ?_)
  · have w := w.1 c
    refine mE.iload_n dX4_allAmounts_42 rfl ?_
    exact mE.iret dX4_allAmounts_43 rfl rfl w
  · have w := w.2 c
    refine mE.aload_n dX4_allAmounts_12 rfl ?_
    refine mE.iload_n dX4_allAmounts_13 rfl ?_
    refine mE.callV (as := [.inl y2]) (k := 0) (r := r) (i := 0) (st := []) dX4_allAmounts_14 cf4_allAmounts_58 rfl rfl (Nat.le_of_ble_eq_true rfl) (fun _ => Nat.le_of_ble_eq_true rfl) w (kR6_on (fun h200 w => ?_) (fun r201 c202 h200 w => ?_))
    · refine mE.astore_nN (l2 := [vR 0 r 0, vI y1, vI y2, vN]) dX4_allAmounts_17 (by decide) rfl ?_
      refine mE.iload_n dX4_allAmounts_18 rfl ?_
      refine mE.aload_nN dX4_allAmounts_19 rfl ?_
      refine mE.ifnonnullN dX4_allAmounts_20 ?_
      refine mE.iconst (v := 0) dX4_allAmounts_23 (by decide) ?_
      refine mE.goto (tgt := 34) dX4_allAmounts_24 (by decide) ?_
      refine mE.iadd dX4_allAmounts_34 ?_
      refine mE.istore_n (l2 := [vR 0 r 0, vI (y1 + 0), vI y2, vN]) dX4_allAmounts_35 (by decide) rfl ?_
      refine mE.iinc (v := y2 + 1) (l2 := [vR 0 r 0, vI (y1 + 0), vI (y2 + 1), vN]) dX4_allAmounts_36 rfl rfl (by decide) rfl ?_
      refine mE.goto (tgt := 4) dX4_allAmounts_39 (by decide) ?_
      exact mE.less (by exact ⟨Or.inr rfl, ⟨Or.inr rfl, ⟨Or.inr rfl, ⟨Or.inl rfl, trivial⟩⟩⟩⟩) w
    · refine mE.astore_n (l2 := [vR 0 r 0, vI y1, vI y2, vR 6 r201 c202]) dX4_allAmounts_17 (by decide) rfl ?_
      refine mE.iload_n dX4_allAmounts_18 rfl ?_
      refine mE.aload_n dX4_allAmounts_19 rfl ?_
      refine mE.ifnonnullR (tgt := 27) dX4_allAmounts_20 (by decide) ?_
      refine mE.aload_n dX4_allAmounts_27 rfl ?_
      refine mE.callV (as := []) (k := 6) (r := r201) (i := c202) (st := [vI y1]) dX4_allAmounts_28 cf4_allAmounts_199 rfl rfl (Nat.le_of_ble_eq_true rfl) (fun _ => Nat.le_of_ble_eq_true rfl) w (kI_on (fun x204 h203 w => ?_))
      refine mE.mabs dX4_allAmounts_31 ml4_202 mj_abs.1 mj_abs.2.1 mj_abs.2.2 ⟨by decide, by decide⟩ (fun _ => Nat.le_of_ble_eq_true rfl) ?_
      refine mE.iadd dX4_allAmounts_34 ?_
      refine mE.istore_n (l2 := [vR 0 r 0, vI (y1 + (if 0 ≤ x204 then x204 else 0 - x204)), vI y2, vR 6 r201 c202]) dX4_allAmounts_35 (by decide) rfl ?_
      refine mE.iinc (v := y2 + 1) (l2 := [vR 0 r 0, vI (y1 + (if 0 ≤ x204 then x204 else 0 - x204)), vI (y2 + 1), vR 6 r201 c202]) dX4_allAmounts_36 rfl rfl (by decide) rfl ?_
      refine mE.goto (tgt := 4) dX4_allAmounts_39 (by decide) ?_
      exact mE.less (by exact ⟨Or.inr rfl, ⟨Or.inr rfl, ⟨Or.inr rfl, ⟨Or.inl rfl, trivial⟩⟩⟩⟩) w
theorem w5_keep {a1 : Int32} {r2 : Nat} {h : mH} {Q : mV → mH → Prop} (w : mC M5_isSlot [.inr (.inr (some (13, 0, 0))), .inl a1] h (kI (fun x206 h205 => (¬ x206 = 0 → vp_in a1 2 ∧ (mC M4_become [.inr (.inr (some (0, 9 + a1.toNatClampNeg, 0))), .inr (.inr (some (0, r2, 0)))] h205 (kV (fun h207 => vp_in a1 2 ∧ (Q (vI (h207.1 0 r2 0 6)) (pI h207 15 0 0 a1.toNatClampNeg 1)))))) ∧ (x206 = 0 → Q (vI (-2)) h205)))) : mC M5_keep [.inr (.inr (some (13, 0, 0))), .inl a1, .inr (.inr (some (0, r2, 0)))] h Q := by
  show mE M5_keep 0 [vR 13 0 0, vI a1, vR 0 r2 0, vU] [] h Q
  refine mE.aload_n dX5_keep_0 rfl ?_
  refine mE.iload_n dX5_keep_1 rfl ?_
  refine mE.callV (as := [.inl a1]) (k := 13) (r := 0) (i := 0) (st := []) dX5_keep_2 cf5_keep_22 rfl rfl (Nat.le_of_ble_eq_true rfl) (fun _ => Nat.le_of_ble_eq_true rfl) w (kI_on (fun x206 h205 w => ?_))
  refine mE.if_ne (tgt := 11) dX5_keep_5 (by decide) (fun c => ?_) (fun c => ?_)
  · have w := w.1 c
    refine mE.aload_n dX5_keep_11 rfl ?_
    refine mE.getf (w := .inr (.inr (some (14, 0, 0)))) dX5_keep_12 f5_11 rfl ?_
    refine mE.iload_n dX5_keep_15 rfl ?_
    refine mE.aald (w := .inr (.inr (some (0, 9 + a1.toNatClampNeg, 0)))) dX5_keep_16 rfl rfl w.1 rfl ?_
    have w := w.2
    refine mE.astore_n (l2 := [vR 13 0 0, vI a1, vR 0 r2 0, vR 0 (9 + a1.toNatClampNeg) 0]) dX5_keep_17 (by decide) rfl ?_
    refine mE.aload_n dX5_keep_18 rfl ?_
    refine mE.ifnullR dX5_keep_19 ?_
    refine mE.aload_n dX5_keep_22 rfl ?_
    refine mE.aload_n dX5_keep_23 rfl ?_
    refine mE.callV (as := [.inr (.inr (some (0, r2, 0)))]) (k := 0) (r := 9 + a1.toNatClampNeg) (i := 0) (st := []) dX5_keep_24 cf5_keep_26 rfl rfl (Nat.le_of_ble_eq_true rfl) (fun _ => Nat.le_of_ble_eq_true rfl) w (kV_on (fun h207 w => ?_))
    refine mE.aload_n dX5_keep_27 rfl ?_
    refine mE.getf (w := .inr (.inr (some (15, 0, 0)))) dX5_keep_28 f5_17 rfl ?_
    refine mE.iload_n dX5_keep_31 rfl ?_
    refine mE.iconst (v := 1) dX5_keep_32 (by decide) ?_
    refine mE.zast dX5_keep_33 rfl rfl (fun _ _ _ _ => rfl) w.1 rfl ?_
    have w := w.2
    refine mE.aload_n dX5_keep_34 rfl ?_
    refine mE.getf (w := .inl (h207.1 0 r2 0 6)) dX5_keep_35 f5_30 rfl ?_
    exact mE.iret dX5_keep_38 rfl rfl w
  · have w := w.2 c
    refine mE.bipush (v := -2) dX5_keep_8 (by decide) ?_
    exact mE.iret dX5_keep_10 rfl rfl w
theorem w5_giveBack {a1 : Int32} {r2 : Nat} {h : mH} {Q : mV → mH → Prop} (w : mC M5_isSlot [.inr (.inr (some (13, 0, 0))), .inl a1] h (kI (fun x209 h208 => (¬ x209 = 0 → vp_in a1 2 ∧ (vp_in a1 2 ∧ (((h208.1 15 0 0 a1.toNatClampNeg) = 0 → Q (vI (-5)) h208) ∧ (¬ (h208.1 15 0 0 a1.toNatClampNeg) = 0 → mC M4_become [.inr (.inr (some (0, r2, 0))), .inr (.inr (some (0, 9 + a1.toNatClampNeg, 0)))] h208 (kV (fun h210 => Q (vI (h210.1 0 r2 0 6)) h210)))))) ∧ (x209 = 0 → Q (vI (-2)) h208)))) : mC M5_giveBack [.inr (.inr (some (13, 0, 0))), .inl a1, .inr (.inr (some (0, r2, 0)))] h Q := by
  show mE M5_giveBack 0 [vR 13 0 0, vI a1, vR 0 r2 0, vU] [] h Q
  refine mE.aload_n dX5_giveBack_0 rfl ?_
  refine mE.iload_n dX5_giveBack_1 rfl ?_
  refine mE.callV (as := [.inl a1]) (k := 13) (r := 0) (i := 0) (st := []) dX5_giveBack_2 cf5_giveBack_22 rfl rfl (Nat.le_of_ble_eq_true rfl) (fun _ => Nat.le_of_ble_eq_true rfl) w (kI_on (fun x209 h208 w => ?_))
  refine mE.if_ne (tgt := 11) dX5_giveBack_5 (by decide) (fun c => ?_) (fun c => ?_)
  · have w := w.1 c
    refine mE.aload_n dX5_giveBack_11 rfl ?_
    refine mE.getf (w := .inr (.inr (some (14, 0, 0)))) dX5_giveBack_12 f5_11 rfl ?_
    refine mE.iload_n dX5_giveBack_15 rfl ?_
    refine mE.aald (w := .inr (.inr (some (0, 9 + a1.toNatClampNeg, 0)))) dX5_giveBack_16 rfl rfl w.1 rfl ?_
    have w := w.2
    refine mE.astore_n (l2 := [vR 13 0 0, vI a1, vR 0 r2 0, vR 0 (9 + a1.toNatClampNeg) 0]) dX5_giveBack_17 (by decide) rfl ?_
    refine mE.aload_n dX5_giveBack_18 rfl ?_
    refine mE.getf (w := .inr (.inr (some (15, 0, 0)))) dX5_giveBack_19 f5_17 rfl ?_
    refine mE.iload_n dX5_giveBack_22 rfl ?_
    refine mE.zald (x := h208.1 15 0 0 a1.toNatClampNeg) dX5_giveBack_23 rfl rfl w.1 rfl ?_
    have w := w.2
    refine mE.if_eq (tgt := 31) dX5_giveBack_24 (by decide) (fun c => ?_) (fun c => ?_)
    · have w := w.1 c
      refine mE.bipush (v := -5) dX5_giveBack_31 (by decide) ?_
      exact mE.iret dX5_giveBack_33 rfl rfl w
    · have w := w.2 c
      refine mE.aload_n dX5_giveBack_27 rfl ?_
      refine mE.ifnonnullR (tgt := 34) dX5_giveBack_28 (by decide) ?_
      refine mE.aload_n dX5_giveBack_34 rfl ?_
      refine mE.aload_n dX5_giveBack_35 rfl ?_
      refine mE.callV (as := [.inr (.inr (some (0, 9 + a1.toNatClampNeg, 0)))]) (k := 0) (r := r2) (i := 0) (st := []) dX5_giveBack_36 cf5_giveBack_26 rfl rfl (Nat.le_of_ble_eq_true rfl) (fun _ => Nat.le_of_ble_eq_true rfl) w (kV_on (fun h210 w => ?_))
      refine mE.aload_n dX5_giveBack_39 rfl ?_
      refine mE.getf (w := .inl (h210.1 0 r2 0 6)) dX5_giveBack_40 f5_30 rfl ?_
      exact mE.iret dX5_giveBack_43 rfl rfl w
  · have w := w.2 c
    refine mE.bipush (v := -2) dX5_giveBack_8 (by decide) ?_
    exact mE.iret dX5_giveBack_10 rfl rfl w
theorem w5_isSlot {a1 : Int32} {h : mH} {Q : mV → mH → Prop} (w : (a1 < 0 → Q (vI 0) h) ∧ (¬ a1 < 0 → (2 ≤ a1 → Q (vI 0) h) ∧ (¬ 2 ≤ a1 → (2 ≤ a1 → Q (vI 0) h) ∧ (¬ 2 ≤ a1 → Q (vI 1) h)))) : mC M5_isSlot [.inr (.inr (some (13, 0, 0))), .inl a1] h Q := by
  show mE M5_isSlot 0 [vR 13 0 0, vI a1] [] h Q
  refine mE.iload_n dX5_isSlot_0 rfl ?_
  refine mE.if_lt (tgt := 26) dX5_isSlot_1 (by decide) (fun c => ?_) (fun c => ?_)
  · have w := w.1 c
    refine mE.iconst (v := 0) dX5_isSlot_26 (by decide) ?_
    exact mE.iret dX5_isSlot_27 rfl rfl w
  · have w := w.2 c
    refine mE.iload_n dX5_isSlot_4 rfl ?_
    refine mE.aload_n dX5_isSlot_5 rfl ?_
    refine mE.getf (w := .inr (.inr (some (14, 0, 0)))) dX5_isSlot_6 f5_11 rfl ?_
    refine mE.alen (v := 2) dX5_isSlot_9 rfl (by decide) ?_
    refine mE.icmp_ge (tgt := 26) dX5_isSlot_10 (by decide) (fun c => ?_) (fun c => ?_)
    · have w := w.1 c
      refine mE.iconst (v := 0) dX5_isSlot_26 (by decide) ?_
      exact mE.iret dX5_isSlot_27 rfl rfl w
    · have w := w.2 c
      refine mE.iload_n dX5_isSlot_13 rfl ?_
      refine mE.aload_n dX5_isSlot_14 rfl ?_
      refine mE.getf (w := .inr (.inr (some (15, 0, 0)))) dX5_isSlot_15 f5_17 rfl ?_
      refine mE.alen (v := 2) dX5_isSlot_18 rfl (by decide) ?_
      refine mE.icmp_ge (tgt := 26) dX5_isSlot_19 (by decide) (fun c => ?_) (fun c => ?_)
      · have w := w.1 c
        refine mE.iconst (v := 0) dX5_isSlot_26 (by decide) ?_
        exact mE.iret dX5_isSlot_27 rfl rfl w
      · have w := w.2 c
        refine mE.iconst (v := 1) dX5_isSlot_22 (by decide) ?_
        refine mE.goto (tgt := 27) dX5_isSlot_23 (by decide) ?_
        exact mE.iret dX5_isSlot_27 rfl rfl w
theorem w6_set {a1 : Int32} {a2 : Int32} {h : mH} {Q : mV → mH → Prop} (w : mC M1_note [.inr (.inr (some (11, 0, 0))), .inr (.inr (some (0, 0, 0)))] h (kV (fun h211 => mC M4_changeSetting [.inr (.inr (some (0, 0, 0))), .inl a1, .inl a2] h211 (kI (fun x213 h212 => mC M6_recorded [.inr (.inr (some (7, 0, 0))), .inl x213] h212 (kI (fun x215 h214 => Q (vI x215) h214))))))) : mC M6_set [.inr (.inr (some (7, 0, 0))), .inl a1, .inl a2] h Q := by
  show mE M6_set 0 [vR 7 0 0, vI a1, vI a2] [] h Q
  refine mE.aload_n dX6_set_0 rfl ?_
  refine mE.getf (w := .inr (.inr (some (11, 0, 0)))) dX6_set_1 f6_40 rfl ?_
  refine mE.aload_n dX6_set_4 rfl ?_
  refine mE.getf (w := .inr (.inr (some (0, 0, 0)))) dX6_set_5 f6_12 rfl ?_
  refine mE.callV (as := [.inr (.inr (some (0, 0, 0)))]) (k := 11) (r := 0) (i := 0) (st := []) dX6_set_8 cf6_set_51 rfl rfl (Nat.le_of_ble_eq_true rfl) (fun _ => Nat.le_of_ble_eq_true rfl) w (kV_on (fun h211 w => ?_))
  refine mE.aload_n dX6_set_11 rfl ?_
  refine mE.aload_n dX6_set_12 rfl ?_
  refine mE.getf (w := .inr (.inr (some (0, 0, 0)))) dX6_set_13 f6_12 rfl ?_
  refine mE.iload_n dX6_set_16 rfl ?_
  refine mE.iload_n dX6_set_17 rfl ?_
  refine mE.callV (as := [.inl a1, .inl a2]) (k := 0) (r := 0) (i := 0) (st := [vR 7 0 0]) dX6_set_18 cf6_set_55 rfl rfl (Nat.le_of_ble_eq_true rfl) (fun _ => Nat.le_of_ble_eq_true rfl) w (kI_on (fun x213 h212 w => ?_))
  refine mE.callV (as := [.inl x213]) (k := 7) (r := 0) (i := 0) (st := []) dX6_set_21 cf6_set_59 rfl rfl (Nat.le_of_ble_eq_true rfl) (fun _ => Nat.le_of_ble_eq_true rfl) w (kI_on (fun x215 h214 w => ?_))
  exact mE.iret dX6_set_24 rfl rfl w
theorem w6_loop {a1 : Int32} {a2 : Int32} {a3 : Int32} {a4 : Int32} {a5 : Int32} {h : mH} {Q : mV → mH → Prop} (w : mC M1_note [.inr (.inr (some (11, 0, 0))), .inr (.inr (some (0, 0, 0)))] h (kV (fun h216 => mC M4_layLoop [.inr (.inr (some (0, 0, 0))), .inl a1, .inl a2, .inl a3, .inl a4, .inl a5] h216 (kI (fun x218 h217 => mC M6_recorded [.inr (.inr (some (7, 0, 0))), .inl x218] h217 (kI (fun x220 h219 => Q (vI x220) h219))))))) : mC M6_loop [.inr (.inr (some (7, 0, 0))), .inl a1, .inl a2, .inl a3, .inl a4, .inl a5] h Q := by
  show mE M6_loop 0 [vR 7 0 0, vI a1, vI a2, vI a3, vI a4, vI a5] [] h Q
  refine mE.aload_n dX6_loop_0 rfl ?_
  refine mE.getf (w := .inr (.inr (some (11, 0, 0)))) dX6_loop_1 f6_40 rfl ?_
  refine mE.aload_n dX6_loop_4 rfl ?_
  refine mE.getf (w := .inr (.inr (some (0, 0, 0)))) dX6_loop_5 f6_12 rfl ?_
  refine mE.callV (as := [.inr (.inr (some (0, 0, 0)))]) (k := 11) (r := 0) (i := 0) (st := []) dX6_loop_8 cf6_loop_51 rfl rfl (Nat.le_of_ble_eq_true rfl) (fun _ => Nat.le_of_ble_eq_true rfl) w (kV_on (fun h216 w => ?_))
  refine mE.aload_n dX6_loop_11 rfl ?_
  refine mE.aload_n dX6_loop_12 rfl ?_
  refine mE.getf (w := .inr (.inr (some (0, 0, 0)))) dX6_loop_13 f6_12 rfl ?_
  refine mE.iload_n dX6_loop_16 rfl ?_
  refine mE.iload_n dX6_loop_17 rfl ?_
  refine mE.iload_n dX6_loop_18 rfl ?_
  refine mE.iload dX6_loop_19 rfl ?_
  refine mE.iload dX6_loop_21 rfl ?_
  refine mE.callV (as := [.inl a1, .inl a2, .inl a3, .inl a4, .inl a5]) (k := 0) (r := 0) (i := 0) (st := [vR 7 0 0]) dX6_loop_23 cf6_loop_63 rfl rfl (Nat.le_of_ble_eq_true rfl) (fun _ => Nat.le_of_ble_eq_true rfl) w (kI_on (fun x218 h217 w => ?_))
  refine mE.callV (as := [.inl x218]) (k := 7) (r := 0) (i := 0) (st := []) dX6_loop_26 cf6_loop_59 rfl rfl (Nat.le_of_ble_eq_true rfl) (fun _ => Nat.le_of_ble_eq_true rfl) w (kI_on (fun x220 h219 w => ?_))
  exact mE.iret dX6_loop_29 rfl rfl w
theorem w6_bounds {a1 : Int32} {a2 : Int32} {a3 : Int32} {h : mH} {Q : mV → mH → Prop} (w : mC M1_note [.inr (.inr (some (11, 0, 0))), .inr (.inr (some (0, 0, 0)))] h (kV (fun h221 => mC M4_changeBounds [.inr (.inr (some (0, 0, 0))), .inl a1, .inl a2, .inl a3] h221 (kI (fun x223 h222 => mC M6_recorded [.inr (.inr (some (7, 0, 0))), .inl x223] h222 (kI (fun x225 h224 => Q (vI x225) h224))))))) : mC M6_bounds [.inr (.inr (some (7, 0, 0))), .inl a1, .inl a2, .inl a3] h Q := by
  show mE M6_bounds 0 [vR 7 0 0, vI a1, vI a2, vI a3] [] h Q
  refine mE.aload_n dX6_bounds_0 rfl ?_
  refine mE.getf (w := .inr (.inr (some (11, 0, 0)))) dX6_bounds_1 f6_40 rfl ?_
  refine mE.aload_n dX6_bounds_4 rfl ?_
  refine mE.getf (w := .inr (.inr (some (0, 0, 0)))) dX6_bounds_5 f6_12 rfl ?_
  refine mE.callV (as := [.inr (.inr (some (0, 0, 0)))]) (k := 11) (r := 0) (i := 0) (st := []) dX6_bounds_8 cf6_bounds_51 rfl rfl (Nat.le_of_ble_eq_true rfl) (fun _ => Nat.le_of_ble_eq_true rfl) w (kV_on (fun h221 w => ?_))
  refine mE.aload_n dX6_bounds_11 rfl ?_
  refine mE.aload_n dX6_bounds_12 rfl ?_
  refine mE.getf (w := .inr (.inr (some (0, 0, 0)))) dX6_bounds_13 f6_12 rfl ?_
  refine mE.iload_n dX6_bounds_16 rfl ?_
  refine mE.iload_n dX6_bounds_17 rfl ?_
  refine mE.iload_n dX6_bounds_18 rfl ?_
  refine mE.callV (as := [.inl a1, .inl a2, .inl a3]) (k := 0) (r := 0) (i := 0) (st := [vR 7 0 0]) dX6_bounds_19 cf6_bounds_67 rfl rfl (Nat.le_of_ble_eq_true rfl) (fun _ => Nat.le_of_ble_eq_true rfl) w (kI_on (fun x223 h222 w => ?_))
  refine mE.callV (as := [.inl x223]) (k := 7) (r := 0) (i := 0) (st := []) dX6_bounds_22 cf6_bounds_59 rfl rfl (Nat.le_of_ble_eq_true rfl) (fun _ => Nat.le_of_ble_eq_true rfl) w (kI_on (fun x225 h224 w => ?_))
  exact mE.iret dX6_bounds_25 rfl rfl w
theorem w6_come {a1 : Int32} {a2 : Int32} {a3 : Int32} {a4 : Int32} {h : mH} {Q : mV → mH → Prop} (w : mC M1_note [.inr (.inr (some (11, 0, 0))), .inr (.inr (some (0, 0, 0)))] h (kV (fun h226 => mC M4_admitCar [.inr (.inr (some (0, 0, 0))), .inl a1, .inl a2, .inl a3, .inl a4] h226 (kI (fun x228 h227 => mC M6_recorded [.inr (.inr (some (7, 0, 0))), .inl x228] h227 (kI (fun x230 h229 => Q (vI x230) h229))))))) : mC M6_come [.inr (.inr (some (7, 0, 0))), .inl a1, .inl a2, .inl a3, .inl a4] h Q := by
  show mE M6_come 0 [vR 7 0 0, vI a1, vI a2, vI a3, vI a4] [] h Q
  refine mE.aload_n dX6_come_0 rfl ?_
  refine mE.getf (w := .inr (.inr (some (11, 0, 0)))) dX6_come_1 f6_40 rfl ?_
  refine mE.aload_n dX6_come_4 rfl ?_
  refine mE.getf (w := .inr (.inr (some (0, 0, 0)))) dX6_come_5 f6_12 rfl ?_
  refine mE.callV (as := [.inr (.inr (some (0, 0, 0)))]) (k := 11) (r := 0) (i := 0) (st := []) dX6_come_8 cf6_come_51 rfl rfl (Nat.le_of_ble_eq_true rfl) (fun _ => Nat.le_of_ble_eq_true rfl) w (kV_on (fun h226 w => ?_))
  refine mE.aload_n dX6_come_11 rfl ?_
  refine mE.aload_n dX6_come_12 rfl ?_
  refine mE.getf (w := .inr (.inr (some (0, 0, 0)))) dX6_come_13 f6_12 rfl ?_
  refine mE.iload_n dX6_come_16 rfl ?_
  refine mE.iload_n dX6_come_17 rfl ?_
  refine mE.iload_n dX6_come_18 rfl ?_
  refine mE.iload dX6_come_19 rfl ?_
  refine mE.callV (as := [.inl a1, .inl a2, .inl a3, .inl a4]) (k := 0) (r := 0) (i := 0) (st := [vR 7 0 0]) dX6_come_21 cf6_come_71 rfl rfl (Nat.le_of_ble_eq_true rfl) (fun _ => Nat.le_of_ble_eq_true rfl) w (kI_on (fun x228 h227 w => ?_))
  refine mE.callV (as := [.inl x228]) (k := 7) (r := 0) (i := 0) (st := []) dX6_come_24 cf6_come_59 rfl rfl (Nat.le_of_ble_eq_true rfl) (fun _ => Nat.le_of_ble_eq_true rfl) w (kI_on (fun x230 h229 w => ?_))
  exact mE.iret dX6_come_27 rfl rfl w
theorem w6_want {a1 : Int32} {h : mH} {Q : mV → mH → Prop} (w : mC M1_note [.inr (.inr (some (11, 0, 0))), .inr (.inr (some (0, 0, 0)))] h (kV (fun h231 => mC M4_turnWish [.inr (.inr (some (0, 0, 0))), .inl a1] h231 (kI (fun x233 h232 => mC M6_recorded [.inr (.inr (some (7, 0, 0))), .inl x233] h232 (kI (fun x235 h234 => Q (vI x235) h234))))))) : mC M6_want [.inr (.inr (some (7, 0, 0))), .inl a1] h Q := by
  show mE M6_want 0 [vR 7 0 0, vI a1] [] h Q
  refine mE.aload_n dX6_want_0 rfl ?_
  refine mE.getf (w := .inr (.inr (some (11, 0, 0)))) dX6_want_1 f6_40 rfl ?_
  refine mE.aload_n dX6_want_4 rfl ?_
  refine mE.getf (w := .inr (.inr (some (0, 0, 0)))) dX6_want_5 f6_12 rfl ?_
  refine mE.callV (as := [.inr (.inr (some (0, 0, 0)))]) (k := 11) (r := 0) (i := 0) (st := []) dX6_want_8 cf6_want_51 rfl rfl (Nat.le_of_ble_eq_true rfl) (fun _ => Nat.le_of_ble_eq_true rfl) w (kV_on (fun h231 w => ?_))
  refine mE.aload_n dX6_want_11 rfl ?_
  refine mE.aload_n dX6_want_12 rfl ?_
  refine mE.getf (w := .inr (.inr (some (0, 0, 0)))) dX6_want_13 f6_12 rfl ?_
  refine mE.iload_n dX6_want_16 rfl ?_
  refine mE.callV (as := [.inl a1]) (k := 0) (r := 0) (i := 0) (st := [vR 7 0 0]) dX6_want_17 cf6_want_75 rfl rfl (Nat.le_of_ble_eq_true rfl) (fun _ => Nat.le_of_ble_eq_true rfl) w (kI_on (fun x233 h232 w => ?_))
  refine mE.callV (as := [.inl x233]) (k := 7) (r := 0) (i := 0) (st := []) dX6_want_20 cf6_want_59 rfl rfl (Nat.le_of_ble_eq_true rfl) (fun _ => Nat.le_of_ble_eq_true rfl) w (kI_on (fun x235 h234 w => ?_))
  exact mE.iret dX6_want_23 rfl rfl w
theorem w6_speed {a1 : Int32} {a2 : Int32} {h : mH} {Q : mV → mH → Prop} (w : mC M1_note [.inr (.inr (some (11, 0, 0))), .inr (.inr (some (0, 0, 0)))] h (kV (fun h236 => mC M4_changeSpeed [.inr (.inr (some (0, 0, 0))), .inl a1, .inl a2] h236 (kI (fun x238 h237 => mC M6_recorded [.inr (.inr (some (7, 0, 0))), .inl x238] h237 (kI (fun x240 h239 => Q (vI x240) h239))))))) : mC M6_speed [.inr (.inr (some (7, 0, 0))), .inl a1, .inl a2] h Q := by
  show mE M6_speed 0 [vR 7 0 0, vI a1, vI a2] [] h Q
  refine mE.aload_n dX6_speed_0 rfl ?_
  refine mE.getf (w := .inr (.inr (some (11, 0, 0)))) dX6_speed_1 f6_40 rfl ?_
  refine mE.aload_n dX6_speed_4 rfl ?_
  refine mE.getf (w := .inr (.inr (some (0, 0, 0)))) dX6_speed_5 f6_12 rfl ?_
  refine mE.callV (as := [.inr (.inr (some (0, 0, 0)))]) (k := 11) (r := 0) (i := 0) (st := []) dX6_speed_8 cf6_speed_51 rfl rfl (Nat.le_of_ble_eq_true rfl) (fun _ => Nat.le_of_ble_eq_true rfl) w (kV_on (fun h236 w => ?_))
  refine mE.aload_n dX6_speed_11 rfl ?_
  refine mE.aload_n dX6_speed_12 rfl ?_
  refine mE.getf (w := .inr (.inr (some (0, 0, 0)))) dX6_speed_13 f6_12 rfl ?_
  refine mE.iload_n dX6_speed_16 rfl ?_
  refine mE.iload_n dX6_speed_17 rfl ?_
  refine mE.callV (as := [.inl a1, .inl a2]) (k := 0) (r := 0) (i := 0) (st := [vR 7 0 0]) dX6_speed_18 cf6_speed_78 rfl rfl (Nat.le_of_ble_eq_true rfl) (fun _ => Nat.le_of_ble_eq_true rfl) w (kI_on (fun x238 h237 w => ?_))
  refine mE.callV (as := [.inl x238]) (k := 7) (r := 0) (i := 0) (st := []) dX6_speed_21 cf6_speed_59 rfl rfl (Nat.le_of_ble_eq_true rfl) (fun _ => Nat.le_of_ble_eq_true rfl) w (kI_on (fun x240 h239 w => ?_))
  exact mE.iret dX6_speed_24 rfl rfl w
theorem w6_ticks {a1 : Int32} {h : mH} {Q : mV → mH → Prop} (w : mC M1_note [.inr (.inr (some (11, 0, 0))), .inr (.inr (some (0, 0, 0)))] h (kV (fun h241 => mC M4_letPass [.inr (.inr (some (0, 0, 0))), .inl a1] h241 (kI (fun x243 h242 => mC M6_recorded [.inr (.inr (some (7, 0, 0))), .inl x243] h242 (kI (fun x245 h244 => Q (vI x245) h244))))))) : mC M6_ticks [.inr (.inr (some (7, 0, 0))), .inl a1] h Q := by
  show mE M6_ticks 0 [vR 7 0 0, vI a1] [] h Q
  refine mE.aload_n dX6_ticks_0 rfl ?_
  refine mE.getf (w := .inr (.inr (some (11, 0, 0)))) dX6_ticks_1 f6_40 rfl ?_
  refine mE.aload_n dX6_ticks_4 rfl ?_
  refine mE.getf (w := .inr (.inr (some (0, 0, 0)))) dX6_ticks_5 f6_12 rfl ?_
  refine mE.callV (as := [.inr (.inr (some (0, 0, 0)))]) (k := 11) (r := 0) (i := 0) (st := []) dX6_ticks_8 cf6_ticks_51 rfl rfl (Nat.le_of_ble_eq_true rfl) (fun _ => Nat.le_of_ble_eq_true rfl) w (kV_on (fun h241 w => ?_))
  refine mE.aload_n dX6_ticks_11 rfl ?_
  refine mE.aload_n dX6_ticks_12 rfl ?_
  refine mE.getf (w := .inr (.inr (some (0, 0, 0)))) dX6_ticks_13 f6_12 rfl ?_
  refine mE.iload_n dX6_ticks_16 rfl ?_
  refine mE.callV (as := [.inl a1]) (k := 0) (r := 0) (i := 0) (st := [vR 7 0 0]) dX6_ticks_17 cf6_ticks_81 rfl rfl (Nat.le_of_ble_eq_true rfl) (fun _ => Nat.le_of_ble_eq_true rfl) w (kI_on (fun x243 h242 w => ?_))
  refine mE.callV (as := [.inl x243]) (k := 7) (r := 0) (i := 0) (st := []) dX6_ticks_20 cf6_ticks_59 rfl rfl (Nat.le_of_ble_eq_true rfl) (fun _ => Nat.le_of_ble_eq_true rfl) w (kI_on (fun x245 h244 w => ?_))
  exact mE.iret dX6_ticks_23 rfl rfl w
theorem w6_recorded {a1 : Int32} {h : mH} {Q : mV → mH → Prop} (w : (a1 < 0 → Q (vI a1) h) ∧ (¬ a1 < 0 → mC M1_keep [.inr (.inr (some (11, 0, 0)))] h (kV (fun h246 => Q (vI a1) h246)))) : mC M6_recorded [.inr (.inr (some (7, 0, 0))), .inl a1] h Q := by
  show mE M6_recorded 0 [vR 7 0 0, vI a1] [] h Q
  refine mE.iload_n dX6_recorded_0 rfl ?_
  refine mE.if_lt (tgt := 11) dX6_recorded_1 (by decide) (fun c => ?_) (fun c => ?_)
  · have w := w.1 c
    refine mE.iload_n dX6_recorded_11 rfl ?_
    exact mE.iret dX6_recorded_12 rfl rfl w
  · have w := w.2 c
    refine mE.aload_n dX6_recorded_4 rfl ?_
    refine mE.getf (w := .inr (.inr (some (11, 0, 0)))) dX6_recorded_5 f6_40 rfl ?_
    refine mE.callV (as := []) (k := 11) (r := 0) (i := 0) (st := []) dX6_recorded_8 cf6_recorded_84 rfl rfl (Nat.le_of_ble_eq_true rfl) (fun _ => Nat.le_of_ble_eq_true rfl) w (kV_on (fun h246 w => ?_))
    refine mE.iload_n dX6_recorded_11 rfl ?_
    exact mE.iret dX6_recorded_12 rfl rfl w
theorem w6_ofCar {a1 : Int32} {a2 : Int32} {h : mH} {Q : mV → mH → Prop} (w : mC M4_carNumbered [.inr (.inr (some (0, 0, 0))), .inl a1] h (kR5 (fun h247 => Q (vI (-1)) h247) (fun r248 c249 h247 => (¬ a2 = 9 → mC M0_about [.inr (.inr (some (5, r248, c249))), .inl a2] h247 (kI (fun x251 h250 => Q (vI x251) h250))) ∧ (a2 = 9 → mC M4_loopsUnder [.inr (.inr (some (0, 0, 0))), .inr (.inr (some (5, r248, c249)))] h247 (kI (fun x253 h252 => Q (vI x253) h252)))))) : mC M6_ofCar [.inr (.inr (some (7, 0, 0))), .inl a1, .inl a2] h Q := by
  show mE M6_ofCar 0 [vR 7 0 0, vI a1, vI a2, vU] [] h Q
  refine mE.aload_n dX6_ofCar_0 rfl ?_
  refine mE.getf (w := .inr (.inr (some (0, 0, 0)))) dX6_ofCar_1 f6_12 rfl ?_
  refine mE.iload_n dX6_ofCar_4 rfl ?_
  refine mE.callV (as := [.inl a1]) (k := 0) (r := 0) (i := 0) (st := []) dX6_ofCar_5 cf6_ofCar_87 rfl rfl (Nat.le_of_ble_eq_true rfl) (fun _ => Nat.le_of_ble_eq_true rfl) w (kR5_on (fun h247 w => ?_) (fun r248 c249 h247 w => ?_))
  · refine mE.astore_nN (l2 := [vR 7 0 0, vI a1, vI a2, vN]) dX6_ofCar_8 (by decide) rfl ?_
    refine mE.aload_nN dX6_ofCar_9 rfl ?_
    refine mE.ifnonnullN dX6_ofCar_10 ?_
    refine mE.iconst (v := -1) dX6_ofCar_13 (by decide) ?_
    exact mE.iret dX6_ofCar_14 rfl rfl w
  · refine mE.astore_n (l2 := [vR 7 0 0, vI a1, vI a2, vR 5 r248 c249]) dX6_ofCar_8 (by decide) rfl ?_
    refine mE.aload_n dX6_ofCar_9 rfl ?_
    refine mE.ifnonnullR (tgt := 15) dX6_ofCar_10 (by decide) ?_
    refine mE.iload_n dX6_ofCar_15 rfl ?_
    refine mE.bipush (v := 9) dX6_ofCar_16 (by decide) ?_
    refine mE.icmp_ne (tgt := 32) dX6_ofCar_18 (by decide) (fun c => ?_) (fun c => ?_)
    · have w := w.1 c
      refine mE.aload_n dX6_ofCar_32 rfl ?_
      refine mE.iload_n dX6_ofCar_33 rfl ?_
      refine mE.callV (as := [.inl a2]) (k := 5) (r := r248) (i := c249) (st := []) dX6_ofCar_34 cf6_ofCar_95 rfl rfl (Nat.le_of_ble_eq_true rfl) (fun _ => Nat.le_of_ble_eq_true rfl) w (kI_on (fun x251 h250 w => ?_))
      exact mE.iret dX6_ofCar_37 rfl rfl w
    · have w := w.2 c
      refine mE.aload_n dX6_ofCar_21 rfl ?_
      refine mE.getf (w := .inr (.inr (some (0, 0, 0)))) dX6_ofCar_22 f6_12 rfl ?_
      refine mE.aload_n dX6_ofCar_25 rfl ?_
      refine mE.callV (as := [.inr (.inr (some (5, r248, c249)))]) (k := 0) (r := 0) (i := 0) (st := []) dX6_ofCar_26 cf6_ofCar_91 rfl rfl (Nat.le_of_ble_eq_true rfl) (fun _ => Nat.le_of_ble_eq_true rfl) w (kI_on (fun x253 h252 w => ?_))
      refine mE.goto (tgt := 37) dX6_ofCar_29 (by decide) ?_
      exact mE.iret dX6_ofCar_37 rfl rfl w
theorem w6_ofLoop {a1 : Int32} {a2 : Int32} {h : mH} {Q : mV → mH → Prop} (w : mC M4_loopNumbered [.inr (.inr (some (0, 0, 0))), .inl a1] h (kR6 (fun h254 => Q (vI (-1)) h254) (fun r255 c256 h254 => (¬ a2 = 8 → mC M2_about [.inr (.inr (some (6, r255, c256))), .inl a2] h254 (kI (fun x258 h257 => Q (vI x258) h257))) ∧ (a2 = 8 → mC M4_strengthOf [.inr (.inr (some (0, 0, 0))), .inr (.inr (some (6, r255, c256)))] h254 (kI (fun x260 h259 => Q (vI x260) h259)))))) : mC M6_ofLoop [.inr (.inr (some (7, 0, 0))), .inl a1, .inl a2] h Q := by
  show mE M6_ofLoop 0 [vR 7 0 0, vI a1, vI a2, vU] [] h Q
  refine mE.aload_n dX6_ofLoop_0 rfl ?_
  refine mE.getf (w := .inr (.inr (some (0, 0, 0)))) dX6_ofLoop_1 f6_12 rfl ?_
  refine mE.iload_n dX6_ofLoop_4 rfl ?_
  refine mE.callV (as := [.inl a1]) (k := 0) (r := 0) (i := 0) (st := []) dX6_ofLoop_5 cf6_ofLoop_100 rfl rfl (Nat.le_of_ble_eq_true rfl) (fun _ => Nat.le_of_ble_eq_true rfl) w (kR6_on (fun h254 w => ?_) (fun r255 c256 h254 w => ?_))
  · refine mE.astore_nN (l2 := [vR 7 0 0, vI a1, vI a2, vN]) dX6_ofLoop_8 (by decide) rfl ?_
    refine mE.aload_nN dX6_ofLoop_9 rfl ?_
    refine mE.ifnonnullN dX6_ofLoop_10 ?_
    refine mE.iconst (v := -1) dX6_ofLoop_13 (by decide) ?_
    exact mE.iret dX6_ofLoop_14 rfl rfl w
  · refine mE.astore_n (l2 := [vR 7 0 0, vI a1, vI a2, vR 6 r255 c256]) dX6_ofLoop_8 (by decide) rfl ?_
    refine mE.aload_n dX6_ofLoop_9 rfl ?_
    refine mE.ifnonnullR (tgt := 15) dX6_ofLoop_10 (by decide) ?_
    refine mE.iload_n dX6_ofLoop_15 rfl ?_
    refine mE.bipush (v := 8) dX6_ofLoop_16 (by decide) ?_
    refine mE.icmp_ne (tgt := 32) dX6_ofLoop_18 (by decide) (fun c => ?_) (fun c => ?_)
    · have w := w.1 c
      refine mE.aload_n dX6_ofLoop_32 rfl ?_
      refine mE.iload_n dX6_ofLoop_33 rfl ?_
      refine mE.callV (as := [.inl a2]) (k := 6) (r := r255) (i := c256) (st := []) dX6_ofLoop_34 cf6_ofLoop_108 rfl rfl (Nat.le_of_ble_eq_true rfl) (fun _ => Nat.le_of_ble_eq_true rfl) w (kI_on (fun x258 h257 w => ?_))
      exact mE.iret dX6_ofLoop_37 rfl rfl w
    · have w := w.2 c
      refine mE.aload_n dX6_ofLoop_21 rfl ?_
      refine mE.getf (w := .inr (.inr (some (0, 0, 0)))) dX6_ofLoop_22 f6_12 rfl ?_
      refine mE.aload_n dX6_ofLoop_25 rfl ?_
      refine mE.callV (as := [.inr (.inr (some (6, r255, c256)))]) (k := 0) (r := 0) (i := 0) (st := []) dX6_ofLoop_26 cf6_ofLoop_104 rfl rfl (Nat.le_of_ble_eq_true rfl) (fun _ => Nat.le_of_ble_eq_true rfl) w (kI_on (fun x260 h259 w => ?_))
      refine mE.goto (tgt := 37) dX6_ofLoop_29 (by decide) ?_
      exact mE.iret dX6_ofLoop_37 rfl rfl w
theorem w6_error {a1 : Int32} {h : mH} {Q : mV → mH → Prop} (w : mC M4_loopNumbered [.inr (.inr (some (0, 0, 0))), .inl a1] h (kR6 (fun h261 => Q (vI (-1)) h261) (fun r262 c263 h261 => mC M2_falselyCounted [.inr (.inr (some (6, r262, c263)))] h261 (kI (fun x265 h264 => Q (vI (1000 + x265)) h264))))) : mC M6_error [.inr (.inr (some (7, 0, 0))), .inl a1] h Q := by
  show mE M6_error 0 [vR 7 0 0, vI a1, vU] [] h Q
  refine mE.aload_n dX6_error_0 rfl ?_
  refine mE.getf (w := .inr (.inr (some (0, 0, 0)))) dX6_error_1 f6_12 rfl ?_
  refine mE.iload_n dX6_error_4 rfl ?_
  refine mE.callV (as := [.inl a1]) (k := 0) (r := 0) (i := 0) (st := []) dX6_error_5 cf6_error_100 rfl rfl (Nat.le_of_ble_eq_true rfl) (fun _ => Nat.le_of_ble_eq_true rfl) w (kR6_on (fun h261 w => ?_) (fun r262 c263 h261 w => ?_))
  · refine mE.astore_nN (l2 := [vR 7 0 0, vI a1, vN]) dX6_error_8 (by decide) rfl ?_
    refine mE.aload_nN dX6_error_9 rfl ?_
    refine mE.ifnonnullN dX6_error_10 ?_
    refine mE.iconst (v := -1) dX6_error_13 (by decide) ?_
    refine mE.goto (tgt := 25) dX6_error_14 (by decide) ?_
    exact mE.iret dX6_error_25 rfl rfl w
  · refine mE.astore_n (l2 := [vR 7 0 0, vI a1, vR 6 r262 c263]) dX6_error_8 (by decide) rfl ?_
    refine mE.aload_n dX6_error_9 rfl ?_
    refine mE.ifnonnullR (tgt := 17) dX6_error_10 (by decide) ?_
    refine mE.sipush (v := 1000) dX6_error_17 (by decide) ?_
    refine mE.aload_n dX6_error_20 rfl ?_
    refine mE.callV (as := []) (k := 6) (r := r262) (i := c263) (st := [vI 1000]) dX6_error_21 cf6_error_109 rfl rfl (Nat.le_of_ble_eq_true rfl) (fun _ => Nat.le_of_ble_eq_true rfl) w (kI_on (fun x265 h264 w => ?_))
    refine mE.iadd dX6_error_24 ?_
    exact mE.iret dX6_error_25 rfl rfl w
theorem w6_carAt {a1 : Int32} {a2 : Int32} {h : mH} {Q : mV → mH → Prop} (w : mC M6_isWithin [.inl a1, .inl 0, .inl 1] h (kI (fun x267 h266 => (x267 = 0 → Q (vI (-1)) h266) ∧ (¬ x267 = 0 → mC M6_isWithin [.inl a2, .inl 0, .inl 39] h266 (kI (fun x269 h268 => (¬ x269 = 0 → mC M4_takerOf [.inr (.inr (some (0, 0, 0))), .inl a1, .inl a2] h268 (kI (fun x271 h270 => Q (vI x271) h270))) ∧ (x269 = 0 → Q (vI (-1)) h268))))))) : mC M6_carAt [.inr (.inr (some (7, 0, 0))), .inl a1, .inl a2] h Q := by
  show mE M6_carAt 0 [vR 7 0 0, vI a1, vI a2] [] h Q
  refine mE.iload_n dX6_carAt_0 rfl ?_
  refine mE.iconst (v := 0) dX6_carAt_1 (by decide) ?_
  refine mE.iconst (v := 1) dX6_carAt_2 (by decide) ?_
  refine mE.callS (as := [.inl a1, .inl 0, .inl 1]) (st := []) dX6_carAt_3 cf6_carAt_113 rfl rfl (Nat.le_of_ble_eq_true rfl) (fun _ => Nat.le_of_ble_eq_true rfl) w (kI_on (fun x267 h266 w => ?_))
  refine mE.if_eq (tgt := 19) dX6_carAt_6 (by decide) (fun c => ?_) (fun c => ?_)
  · have w := w.1 c
    refine mE.iconst (v := -1) dX6_carAt_19 (by decide) ?_
    exact mE.iret dX6_carAt_20 rfl rfl w
  · have w := w.2 c
    refine mE.iload_n dX6_carAt_9 rfl ?_
    refine mE.iconst (v := 0) dX6_carAt_10 (by decide) ?_
    refine mE.bipush (v := 39) dX6_carAt_11 (by decide) ?_
    refine mE.callS (as := [.inl a2, .inl 0, .inl 39]) (st := []) dX6_carAt_13 cf6_carAt_113 rfl rfl (Nat.le_of_ble_eq_true rfl) (fun _ => Nat.le_of_ble_eq_true rfl) w (kI_on (fun x269 h268 w => ?_))
    refine mE.if_ne (tgt := 21) dX6_carAt_16 (by decide) (fun c => ?_) (fun c => ?_)
    · have w := w.1 c
      refine mE.aload_n dX6_carAt_21 rfl ?_
      refine mE.getf (w := .inr (.inr (some (0, 0, 0)))) dX6_carAt_22 f6_12 rfl ?_
      refine mE.iload_n dX6_carAt_25 rfl ?_
      refine mE.iload_n dX6_carAt_26 rfl ?_
      refine mE.callV (as := [.inl a1, .inl a2]) (k := 0) (r := 0) (i := 0) (st := []) dX6_carAt_27 cf6_carAt_117 rfl rfl (Nat.le_of_ble_eq_true rfl) (fun _ => Nat.le_of_ble_eq_true rfl) w (kI_on (fun x271 h270 w => ?_))
      exact mE.iret dX6_carAt_30 rfl rfl w
    · have w := w.2 c
      refine mE.iconst (v := -1) dX6_carAt_19 (by decide) ?_
      exact mE.iret dX6_carAt_20 rfl rfl w
theorem w6_count {a1 : Int32} {h : mH} {Q : mV → mH → Prop} (w : (a1 = 0 → Q (vI (h.1 0 0 0 6)) h) ∧ (a1 = 1 → Q (vI (h.1 0 0 0 5)) h) ∧ (a1 = 2 → Q (vI (h.1 0 0 0 4)) h) ∧ (a1 = 3 → mC M4_carsGone [.inr (.inr (some (0, 0, 0)))] h (kI (fun x273 h272 => Q (vI ((h.1 0 0 0 4) - x273)) h272))) ∧ (a1 = 4 → mC M4_carsGone [.inr (.inr (some (0, 0, 0)))] h (kI (fun x275 h274 => Q (vI x275) h274))) ∧ (a1 = 5 → mC M4_listener [.inr (.inr (some (0, 0, 0)))] h (kI (fun x277 h276 => Q (vI x277) h276))) ∧ (a1 = 6 → mC M4_sumOfLoops [.inr (.inr (some (0, 0, 0))), .inl 6] h (kI (fun x279 h278 => Q (vI x279) h278))) ∧ (a1 = 7 → mC M4_sumOfLoops [.inr (.inr (some (0, 0, 0))), .inl 7] h (kI (fun x281 h280 => Q (vI x281) h280))) ∧ (a1 = 8 → Q (vI (h.1 9 0 0 1)) h) ∧ (a1 = 9 → Q (vI (h.1 11 0 0 2)) h) ∧ (a1 = 10 → Q (vI (h.1 0 0 0 7)) h) ∧ (a1 = 11 → Q (vI (h.1 0 0 0 8)) h) ∧ (¬ a1 = 0 → ¬ a1 = 1 → ¬ a1 = 2 → ¬ a1 = 3 → ¬ a1 = 4 → ¬ a1 = 5 → ¬ a1 = 6 → ¬ a1 = 7 → ¬ a1 = 8 → ¬ a1 = 9 → ¬ a1 = 10 → ¬ a1 = 11 → Q (vI (-2)) h)) : mC M6_count [.inr (.inr (some (7, 0, 0))), .inl a1] h Q := by
  show mE M6_count 0 [vR 7 0 0, vI a1] [] h Q
  refine mE.iload_n dX6_count_0 rfl ?_
  by_cases c0 : a1 = 0
  · have w := w.1 c0
    refine mE.tabIn (v := 0) (off := 63) (tgt := 64) dX6_count_1 (by rw [c0]; decide) (by decide) (by decide) rfl (by decide) ?_
    refine mE.aload_n dX6_count_64 rfl ?_
    refine mE.getf (w := .inr (.inr (some (0, 0, 0)))) dX6_count_65 f6_12 rfl ?_
    refine mE.getf (w := .inl (h.1 0 0 0 6)) dX6_count_68 f6_120 rfl ?_
    exact mE.iret dX6_count_71 rfl rfl w
  · have w := w.2
    by_cases c1 : a1 = 1
    · have w := w.1 c1
      refine mE.tabIn (v := 1) (off := 71) (tgt := 72) dX6_count_1 (by rw [c1]; decide) (by decide) (by decide) rfl (by decide) ?_
      refine mE.aload_n dX6_count_72 rfl ?_
      refine mE.getf (w := .inr (.inr (some (0, 0, 0)))) dX6_count_73 f6_12 rfl ?_
      refine mE.getf (w := .inl (h.1 0 0 0 5)) dX6_count_76 f6_124 rfl ?_
      exact mE.iret dX6_count_79 rfl rfl w
    · have w := w.2
      by_cases c2 : a1 = 2
      · have w := w.1 c2
        refine mE.tabIn (v := 2) (off := 79) (tgt := 80) dX6_count_1 (by rw [c2]; decide) (by decide) (by decide) rfl (by decide) ?_
        refine mE.aload_n dX6_count_80 rfl ?_
        refine mE.getf (w := .inr (.inr (some (0, 0, 0)))) dX6_count_81 f6_12 rfl ?_
        refine mE.getf (w := .inl (h.1 0 0 0 4)) dX6_count_84 f6_127 rfl ?_
        exact mE.iret dX6_count_87 rfl rfl w
      · have w := w.2
        by_cases c3 : a1 = 3
        · have w := w.1 c3
          refine mE.tabIn (v := 3) (off := 87) (tgt := 88) dX6_count_1 (by rw [c3]; decide) (by decide) (by decide) rfl (by decide) ?_
          refine mE.aload_n dX6_count_88 rfl ?_
          refine mE.getf (w := .inr (.inr (some (0, 0, 0)))) dX6_count_89 f6_12 rfl ?_
          refine mE.getf (w := .inl (h.1 0 0 0 4)) dX6_count_92 f6_127 rfl ?_
          refine mE.aload_n dX6_count_95 rfl ?_
          refine mE.getf (w := .inr (.inr (some (0, 0, 0)))) dX6_count_96 f6_12 rfl ?_
          refine mE.callV (as := []) (k := 0) (r := 0) (i := 0) (st := [vI (h.1 0 0 0 4)]) dX6_count_99 cf6_count_130 rfl rfl (Nat.le_of_ble_eq_true rfl) (fun _ => Nat.le_of_ble_eq_true rfl) w (kI_on (fun x273 h272 w => ?_))
          refine mE.isub dX6_count_102 ?_
          exact mE.iret dX6_count_103 rfl rfl w
        · have w := w.2
          by_cases c4 : a1 = 4
          · have w := w.1 c4
            refine mE.tabIn (v := 4) (off := 103) (tgt := 104) dX6_count_1 (by rw [c4]; decide) (by decide) (by decide) rfl (by decide) ?_
            refine mE.aload_n dX6_count_104 rfl ?_
            refine mE.getf (w := .inr (.inr (some (0, 0, 0)))) dX6_count_105 f6_12 rfl ?_
            refine mE.callV (as := []) (k := 0) (r := 0) (i := 0) (st := []) dX6_count_108 cf6_count_130 rfl rfl (Nat.le_of_ble_eq_true rfl) (fun _ => Nat.le_of_ble_eq_true rfl) w (kI_on (fun x275 h274 w => ?_))
            exact mE.iret dX6_count_111 rfl rfl w
          · have w := w.2
            by_cases c5 : a1 = 5
            · have w := w.1 c5
              refine mE.tabIn (v := 5) (off := 111) (tgt := 112) dX6_count_1 (by rw [c5]; decide) (by decide) (by decide) rfl (by decide) ?_
              refine mE.aload_n dX6_count_112 rfl ?_
              refine mE.getf (w := .inr (.inr (some (0, 0, 0)))) dX6_count_113 f6_12 rfl ?_
              refine mE.callV (as := []) (k := 0) (r := 0) (i := 0) (st := []) dX6_count_116 cf6_count_133 rfl rfl (Nat.le_of_ble_eq_true rfl) (fun _ => Nat.le_of_ble_eq_true rfl) w (kI_on (fun x277 h276 w => ?_))
              exact mE.iret dX6_count_119 rfl rfl w
            · have w := w.2
              by_cases c6 : a1 = 6
              · have w := w.1 c6
                refine mE.tabIn (v := 6) (off := 119) (tgt := 120) dX6_count_1 (by rw [c6]; decide) (by decide) (by decide) rfl (by decide) ?_
                refine mE.aload_n dX6_count_120 rfl ?_
                refine mE.getf (w := .inr (.inr (some (0, 0, 0)))) dX6_count_121 f6_12 rfl ?_
                refine mE.bipush (v := 6) dX6_count_124 (by decide) ?_
                refine mE.callV (as := [.inl 6]) (k := 0) (r := 0) (i := 0) (st := []) dX6_count_126 cf6_count_136 rfl rfl (Nat.le_of_ble_eq_true rfl) (fun _ => Nat.le_of_ble_eq_true rfl) w (kI_on (fun x279 h278 w => ?_))
                exact mE.iret dX6_count_129 rfl rfl w
              · have w := w.2
                by_cases c7 : a1 = 7
                · have w := w.1 c7
                  refine mE.tabIn (v := 7) (off := 129) (tgt := 130) dX6_count_1 (by rw [c7]; decide) (by decide) (by decide) rfl (by decide) ?_
                  refine mE.aload_n dX6_count_130 rfl ?_
                  refine mE.getf (w := .inr (.inr (some (0, 0, 0)))) dX6_count_131 f6_12 rfl ?_
                  refine mE.bipush (v := 7) dX6_count_134 (by decide) ?_
                  refine mE.callV (as := [.inl 7]) (k := 0) (r := 0) (i := 0) (st := []) dX6_count_136 cf6_count_136 rfl rfl (Nat.le_of_ble_eq_true rfl) (fun _ => Nat.le_of_ble_eq_true rfl) w (kI_on (fun x281 h280 w => ?_))
                  exact mE.iret dX6_count_139 rfl rfl w
                · have w := w.2
                  by_cases c8 : a1 = 8
                  · have w := w.1 c8
                    refine mE.tabIn (v := 8) (off := 139) (tgt := 140) dX6_count_1 (by rw [c8]; decide) (by decide) (by decide) rfl (by decide) ?_
                    refine mE.aload_n dX6_count_140 rfl ?_
                    refine mE.getf (w := .inr (.inr (some (9, 0, 0)))) dX6_count_141 f6_33 rfl ?_
                    refine mE.getf (w := .inl (h.1 9 0 0 1)) dX6_count_144 f6_139 rfl ?_
                    exact mE.iret dX6_count_147 rfl rfl w
                  · have w := w.2
                    by_cases c9 : a1 = 9
                    · have w := w.1 c9
                      refine mE.tabIn (v := 9) (off := 147) (tgt := 148) dX6_count_1 (by rw [c9]; decide) (by decide) (by decide) rfl (by decide) ?_
                      refine mE.aload_n dX6_count_148 rfl ?_
                      refine mE.getf (w := .inr (.inr (some (11, 0, 0)))) dX6_count_149 f6_40 rfl ?_
                      refine mE.getf (w := .inl (h.1 11 0 0 2)) dX6_count_152 f6_142 rfl ?_
                      exact mE.iret dX6_count_155 rfl rfl w
                    · have w := w.2
                      by_cases c10 : a1 = 10
                      · have w := w.1 c10
                        refine mE.tabIn (v := 10) (off := 155) (tgt := 156) dX6_count_1 (by rw [c10]; decide) (by decide) (by decide) rfl (by decide) ?_
                        refine mE.aload_n dX6_count_156 rfl ?_
                        refine mE.getf (w := .inr (.inr (some (0, 0, 0)))) dX6_count_157 f6_12 rfl ?_
                        refine mE.getf (w := .inl (h.1 0 0 0 7)) dX6_count_160 f6_145 rfl ?_
                        exact mE.iret dX6_count_163 rfl rfl w
                      · have w := w.2
                        by_cases c11 : a1 = 11
                        · have w := w.1 c11
                          refine mE.tabIn (v := 11) (off := 163) (tgt := 164) dX6_count_1 (by rw [c11]; decide) (by decide) (by decide) rfl (by decide) ?_
                          refine mE.aload_n dX6_count_164 rfl ?_
                          refine mE.getf (w := .inr (.inr (some (0, 0, 0)))) dX6_count_165 f6_12 rfl ?_
                          refine mE.getf (w := .inl (h.1 0 0 0 8)) dX6_count_168 f6_148 rfl ?_
                          exact mE.iret dX6_count_171 rfl rfl w
                        · have w := w.2
                          have w := w c0 c1 c2 c3 c4 c5 c6 c7 c8 c9 c10 c11
                          refine mE.tabOut (tgt := 172) dX6_count_1 (by have e0 := lv_neT c0 (a := 0) (by decide); have e1 := lv_neT c1 (a := 1) (by decide); have e2 := lv_neT c2 (a := 2) (by decide); have e3 := lv_neT c3 (a := 3) (by decide); have e4 := lv_neT c4 (a := 4) (by decide); have e5 := lv_neT c5 (a := 5) (by decide); have e6 := lv_neT c6 (a := 6) (by decide); have e7 := lv_neT c7 (a := 7) (by decide); have e8 := lv_neT c8 (a := 8) (by decide); have e9 := lv_neT c9 (a := 9) (by decide); have e10 := lv_neT c10 (a := 10) (by decide); have e11 := lv_neT c11 (a := 11) (by decide); omega) (by decide) ?_
                          refine mE.bipush (v := -2) dX6_count_172 (by decide) ?_
                          exact mE.iret dX6_count_174 rfl rfl w
theorem w6_inside {a1 : Int32} {a2 : Int32} {h : mH} {Q : mV → mH → Prop} (w : mC M4_loopNumbered [.inr (.inr (some (0, 0, 0))), .inl a1] h (kR6 (fun h282 => mC M4_loopNumbered [.inr (.inr (some (0, 0, 0))), .inl a2] h282 (kR6 (fun h285 => Q (vI (-1)) h285) (fun r286 c287 h285 => Q (vI (-1)) h285))) (fun r283 c284 h282 => mC M4_loopNumbered [.inr (.inr (some (0, 0, 0))), .inl a2] h282 (kR6 (fun h288 => Q (vI (-1)) h288) (fun r289 c290 h288 => Q (vI ((1000 + (h288.1 6 r283 c284 6)) - (h288.1 6 r289 c290 6))) h288))))) : mC M6_inside [.inr (.inr (some (7, 0, 0))), .inl a1, .inl a2] h Q := by
  show mE M6_inside 0 [vR 7 0 0, vI a1, vI a2, vU, vU] [] h Q
  refine mE.aload_n dX6_inside_0 rfl ?_
  refine mE.getf (w := .inr (.inr (some (0, 0, 0)))) dX6_inside_1 f6_12 rfl ?_
  refine mE.iload_n dX6_inside_4 rfl ?_
  refine mE.callV (as := [.inl a1]) (k := 0) (r := 0) (i := 0) (st := []) dX6_inside_5 cf6_inside_100 rfl rfl (Nat.le_of_ble_eq_true rfl) (fun _ => Nat.le_of_ble_eq_true rfl) w (kR6_on (fun h282 w => ?_) (fun r283 c284 h282 w => ?_))
  · refine mE.astore_nN (l2 := [vR 7 0 0, vI a1, vI a2, vN, vU]) dX6_inside_8 (by decide) rfl ?_
    refine mE.aload_n dX6_inside_9 rfl ?_
    refine mE.getf (w := .inr (.inr (some (0, 0, 0)))) dX6_inside_10 f6_12 rfl ?_
    refine mE.iload_n dX6_inside_13 rfl ?_
    refine mE.callV (as := [.inl a2]) (k := 0) (r := 0) (i := 0) (st := []) dX6_inside_14 cf6_inside_100 rfl rfl (Nat.le_of_ble_eq_true rfl) (fun _ => Nat.le_of_ble_eq_true rfl) w (kR6_on (fun h285 w => ?_) (fun r286 c287 h285 w => ?_))
    · refine mE.astoreN (l2 := [vR 7 0 0, vI a1, vI a2, vN, vN]) dX6_inside_17 (by decide) rfl ?_
      refine mE.aload_nN dX6_inside_19 rfl ?_
      refine mE.ifnullN (tgt := 28) dX6_inside_20 (by decide) ?_
      refine mE.iconst (v := -1) dX6_inside_28 (by decide) ?_
      refine mE.goto (tgt := 46) dX6_inside_29 (by decide) ?_
      exact mE.iret dX6_inside_46 rfl rfl w
    · refine mE.astore (l2 := [vR 7 0 0, vI a1, vI a2, vN, vR 6 r286 c287]) dX6_inside_17 (by decide) rfl ?_
      refine mE.aload_nN dX6_inside_19 rfl ?_
      refine mE.ifnullN (tgt := 28) dX6_inside_20 (by decide) ?_
      refine mE.iconst (v := -1) dX6_inside_28 (by decide) ?_
      refine mE.goto (tgt := 46) dX6_inside_29 (by decide) ?_
      exact mE.iret dX6_inside_46 rfl rfl w
  · refine mE.astore_n (l2 := [vR 7 0 0, vI a1, vI a2, vR 6 r283 c284, vU]) dX6_inside_8 (by decide) rfl ?_
    refine mE.aload_n dX6_inside_9 rfl ?_
    refine mE.getf (w := .inr (.inr (some (0, 0, 0)))) dX6_inside_10 f6_12 rfl ?_
    refine mE.iload_n dX6_inside_13 rfl ?_
    refine mE.callV (as := [.inl a2]) (k := 0) (r := 0) (i := 0) (st := []) dX6_inside_14 cf6_inside_100 rfl rfl (Nat.le_of_ble_eq_true rfl) (fun _ => Nat.le_of_ble_eq_true rfl) w (kR6_on (fun h288 w => ?_) (fun r289 c290 h288 w => ?_))
    · refine mE.astoreN (l2 := [vR 7 0 0, vI a1, vI a2, vR 6 r283 c284, vN]) dX6_inside_17 (by decide) rfl ?_
      refine mE.aload_n dX6_inside_19 rfl ?_
      refine mE.ifnullR dX6_inside_20 ?_
      refine mE.aloadN dX6_inside_23 rfl ?_
      refine mE.ifnonnullN dX6_inside_25 ?_
      refine mE.iconst (v := -1) dX6_inside_28 (by decide) ?_
      refine mE.goto (tgt := 46) dX6_inside_29 (by decide) ?_
      exact mE.iret dX6_inside_46 rfl rfl w
    · refine mE.astore (l2 := [vR 7 0 0, vI a1, vI a2, vR 6 r283 c284, vR 6 r289 c290]) dX6_inside_17 (by decide) rfl ?_
      refine mE.aload_n dX6_inside_19 rfl ?_
      refine mE.ifnullR dX6_inside_20 ?_
      refine mE.aload dX6_inside_23 rfl ?_
      refine mE.ifnonnullR (tgt := 32) dX6_inside_25 (by decide) ?_
      refine mE.sipush (v := 1000) dX6_inside_32 (by decide) ?_
      refine mE.aload_n dX6_inside_35 rfl ?_
      refine mE.getf (w := .inl (h288.1 6 r283 c284 6)) dX6_inside_36 f6_151 rfl ?_
      refine mE.iadd dX6_inside_39 ?_
      refine mE.aload dX6_inside_40 rfl ?_
      refine mE.getf (w := .inl (h288.1 6 r289 c290 6)) dX6_inside_42 f6_151 rfl ?_
      refine mE.isub dX6_inside_45 ?_
      exact mE.iret dX6_inside_46 rfl rfl w
theorem w6_countsIn {a1 : Int32} {a2 : Int32} {h : mH} {Q : mV → mH → Prop} (w : mC M4_become [.inr (.inr (some (0, 1, 0))), .inr (.inr (some (0, 0, 0)))] h (kV (fun h291 => mC M4_loopNumbered [.inr (.inr (some (0, 1, 0))), .inl a1] h291 (kR6 (fun h292 => Q (vI (-1)) h292) (fun r293 c294 h292 => mC M6_isTicks [.inl a2] h292 (kI (fun x296 h295 => (¬ x296 = 0 → mC M4_letPass [.inr (.inr (some (0, 1, 0))), .inl a2] h295 (kI (fun x298 h297 => Q (vI (h297.1 6 r293 c294 6)) h297))) ∧ (x296 = 0 → Q (vI (-2)) h295)))))))) : mC M6_countsIn [.inr (.inr (some (7, 0, 0))), .inl a1, .inl a2] h Q := by
  show mE M6_countsIn 0 [vR 7 0 0, vI a1, vI a2, vU] [] h Q
  refine mE.aload_n dX6_countsIn_0 rfl ?_
  refine mE.getf (w := .inr (.inr (some (0, 1, 0)))) dX6_countsIn_1 f6_16 rfl ?_
  refine mE.aload_n dX6_countsIn_4 rfl ?_
  refine mE.getf (w := .inr (.inr (some (0, 0, 0)))) dX6_countsIn_5 f6_12 rfl ?_
  refine mE.callV (as := [.inr (.inr (some (0, 0, 0)))]) (k := 0) (r := 1) (i := 0) (st := []) dX6_countsIn_8 cf6_countsIn_154 rfl rfl (Nat.le_of_ble_eq_true rfl) (fun _ => Nat.le_of_ble_eq_true rfl) w (kV_on (fun h291 w => ?_))
  refine mE.aload_n dX6_countsIn_11 rfl ?_
  refine mE.getf (w := .inr (.inr (some (0, 1, 0)))) dX6_countsIn_12 f6_16 rfl ?_
  refine mE.iload_n dX6_countsIn_15 rfl ?_
  refine mE.callV (as := [.inl a1]) (k := 0) (r := 1) (i := 0) (st := []) dX6_countsIn_16 cf6_countsIn_100 rfl rfl (Nat.le_of_ble_eq_true rfl) (fun _ => Nat.le_of_ble_eq_true rfl) w (kR6_on (fun h292 w => ?_) (fun r293 c294 h292 w => ?_))
  · refine mE.astore_nN (l2 := [vR 7 0 0, vI a1, vI a2, vN]) dX6_countsIn_19 (by decide) rfl ?_
    refine mE.aload_nN dX6_countsIn_20 rfl ?_
    refine mE.ifnonnullN dX6_countsIn_21 ?_
    refine mE.iconst (v := -1) dX6_countsIn_24 (by decide) ?_
    exact mE.iret dX6_countsIn_25 rfl rfl w
  · refine mE.astore_n (l2 := [vR 7 0 0, vI a1, vI a2, vR 6 r293 c294]) dX6_countsIn_19 (by decide) rfl ?_
    refine mE.aload_n dX6_countsIn_20 rfl ?_
    refine mE.ifnonnullR (tgt := 26) dX6_countsIn_21 (by decide) ?_
    refine mE.iload_n dX6_countsIn_26 rfl ?_
    refine mE.callS (as := [.inl a2]) (st := []) dX6_countsIn_27 cf6_countsIn_157 rfl rfl (Nat.le_of_ble_eq_true rfl) (fun _ => Nat.le_of_ble_eq_true rfl) w (kI_on (fun x296 h295 w => ?_))
    refine mE.if_ne (tgt := 36) dX6_countsIn_30 (by decide) (fun c => ?_) (fun c => ?_)
    · have w := w.1 c
      refine mE.aload_n dX6_countsIn_36 rfl ?_
      refine mE.getf (w := .inr (.inr (some (0, 1, 0)))) dX6_countsIn_37 f6_16 rfl ?_
      refine mE.iload_n dX6_countsIn_40 rfl ?_
      refine mE.callV (as := [.inl a2]) (k := 0) (r := 1) (i := 0) (st := []) dX6_countsIn_41 cf6_countsIn_81 rfl rfl (Nat.le_of_ble_eq_true rfl) (fun _ => Nat.le_of_ble_eq_true rfl) w (kI_on (fun x298 h297 w => ?_))
      refine mE.popI dX6_countsIn_44 ?_
      refine mE.aload_n dX6_countsIn_45 rfl ?_
      refine mE.getf (w := .inl (h297.1 6 r293 c294 6)) dX6_countsIn_46 f6_151 rfl ?_
      exact mE.iret dX6_countsIn_49 rfl rfl w
    · have w := w.2 c
      refine mE.bipush (v := -2) dX6_countsIn_33 (by decide) ?_
      exact mE.iret dX6_countsIn_35 rfl rfl w
theorem w6_countsAlone {a1 : Int32} {a2 : Int32} {h : mH} {Q : mV → mH → Prop} (w : mC M4_become [.inr (.inr (some (0, 1, 0))), .inr (.inr (some (0, 0, 0)))] h (kV (fun h299 => mC M4_loopNumbered [.inr (.inr (some (0, 1, 0))), .inl a1] h299 (kR6 (fun h300 => Q (vI (-1)) h300) (fun r301 c302 h300 => mC M6_isTicks [.inl a2] h300 (kI (fun x304 h303 => (¬ x304 = 0 → mE M6_countsAlone 39 [vR 7 0 0, vI a1, vI a2, vR 6 r301 c302, vI 0] [] h303 Q) ∧ (x304 = 0 → Q (vI (-2)) h303)))))))) : mC M6_countsAlone [.inr (.inr (some (7, 0, 0))), .inl a1, .inl a2] h Q := by
  show mE M6_countsAlone 0 [vR 7 0 0, vI a1, vI a2, vU, vU] [] h Q
  refine mE.aload_n dX6_countsAlone_0 rfl ?_
  refine mE.getf (w := .inr (.inr (some (0, 1, 0)))) dX6_countsAlone_1 f6_16 rfl ?_
  refine mE.aload_n dX6_countsAlone_4 rfl ?_
  refine mE.getf (w := .inr (.inr (some (0, 0, 0)))) dX6_countsAlone_5 f6_12 rfl ?_
  refine mE.callV (as := [.inr (.inr (some (0, 0, 0)))]) (k := 0) (r := 1) (i := 0) (st := []) dX6_countsAlone_8 cf6_countsAlone_154 rfl rfl (Nat.le_of_ble_eq_true rfl) (fun _ => Nat.le_of_ble_eq_true rfl) w (kV_on (fun h299 w => ?_))
  refine mE.aload_n dX6_countsAlone_11 rfl ?_
  refine mE.getf (w := .inr (.inr (some (0, 1, 0)))) dX6_countsAlone_12 f6_16 rfl ?_
  refine mE.iload_n dX6_countsAlone_15 rfl ?_
  refine mE.callV (as := [.inl a1]) (k := 0) (r := 1) (i := 0) (st := []) dX6_countsAlone_16 cf6_countsAlone_100 rfl rfl (Nat.le_of_ble_eq_true rfl) (fun _ => Nat.le_of_ble_eq_true rfl) w (kR6_on (fun h300 w => ?_) (fun r301 c302 h300 w => ?_))
  · refine mE.astore_nN (l2 := [vR 7 0 0, vI a1, vI a2, vN, vU]) dX6_countsAlone_19 (by decide) rfl ?_
    refine mE.aload_nN dX6_countsAlone_20 rfl ?_
    refine mE.ifnonnullN dX6_countsAlone_21 ?_
    refine mE.iconst (v := -1) dX6_countsAlone_24 (by decide) ?_
    exact mE.iret dX6_countsAlone_25 rfl rfl w
  · refine mE.astore_n (l2 := [vR 7 0 0, vI a1, vI a2, vR 6 r301 c302, vU]) dX6_countsAlone_19 (by decide) rfl ?_
    refine mE.aload_n dX6_countsAlone_20 rfl ?_
    refine mE.ifnonnullR (tgt := 26) dX6_countsAlone_21 (by decide) ?_
    refine mE.iload_n dX6_countsAlone_26 rfl ?_
    refine mE.callS (as := [.inl a2]) (st := []) dX6_countsAlone_27 cf6_countsAlone_157 rfl rfl (Nat.le_of_ble_eq_true rfl) (fun _ => Nat.le_of_ble_eq_true rfl) w (kI_on (fun x304 h303 w => ?_))
    refine mE.if_ne (tgt := 36) dX6_countsAlone_30 (by decide) (fun c => ?_) (fun c => ?_)
    · have w := w.1 c
      refine mE.iconst (v := 0) dX6_countsAlone_36 (by decide) ?_
      refine mE.istore (l2 := [vR 7 0 0, vI a1, vI a2, vR 6 r301 c302, vI 0]) dX6_countsAlone_37 (by decide) rfl ?_
      exact w
    · have w := w.2 c
      refine mE.bipush (v := -2) dX6_countsAlone_33 (by decide) ?_
      exact mE.iret dX6_countsAlone_35 rfl rfl w
theorem w6_countsAlone_39 {y1 : Int32} {y2 : Int32} {r3_ : Nat} {i3_ : Nat} {y4 : Int32} {h : mH} {Q : mV → mH → Prop} (w : (y2 ≤ y4 → Q (vI (h.1 6 r3_ i3_ 6)) h) ∧ (¬ y2 ≤ y4 → mC M4_passTick [.inr (.inr (some (0, 1, 0))), .inl y1] h (kV (fun h305 => mE M6_countsAlone 39 [vR 7 0 0, vI y1, vI y2, vR 6 r3_ i3_, vI (y4 + 1)] [] h305 Q)))) : mE M6_countsAlone 39 [vR 7 0 0, vI y1, vI y2, vR 6 r3_ i3_, vI y4] [] h Q := by
  refine mE.iload dX6_countsAlone_39 rfl ?_
  refine mE.iload_n dX6_countsAlone_41 rfl ?_
  refine mE.icmp_ge (tgt := 59) dX6_countsAlone_42 (by decide) (fun c => ?_) (fun c => ?_)
  · have w := w.1 c
    refine mE.aload_n dX6_countsAlone_59 rfl ?_
    refine mE.getf (w := .inl (h.1 6 r3_ i3_ 6)) dX6_countsAlone_60 f6_151 rfl ?_
    exact mE.iret dX6_countsAlone_63 rfl rfl w
  · have w := w.2 c
    refine mE.aload_n dX6_countsAlone_45 rfl ?_
    refine mE.getf (w := .inr (.inr (some (0, 1, 0)))) dX6_countsAlone_46 f6_16 rfl ?_
    refine mE.iload_n dX6_countsAlone_49 rfl ?_
    refine mE.callV (as := [.inl y1]) (k := 0) (r := 1) (i := 0) (st := []) dX6_countsAlone_50 cf6_countsAlone_161 rfl rfl (Nat.le_of_ble_eq_true rfl) (fun _ => Nat.le_of_ble_eq_true rfl) w (kV_on (fun h305 w => ?_))
    refine mE.iinc (v := y4 + 1) (l2 := [vR 7 0 0, vI y1, vI y2, vR 6 r3_ i3_, vI (y4 + 1)]) dX6_countsAlone_53 rfl rfl (by decide) rfl ?_
    refine mE.goto (tgt := 39) dX6_countsAlone_56 (by decide) ?_
    exact w
theorem w6_bestUpper {a1 : Int32} {a2 : Int32} {h : mH} {Q : mV → mH → Prop} (w : mC M4_become [.inr (.inr (some (0, 1, 0))), .inr (.inr (some (0, 0, 0)))] h (kV (fun h306 => mC M4_loopNumbered [.inr (.inr (some (0, 0, 0))), .inl a1] h306 (kR6 (fun h307 => mC M4_loopNumbered [.inr (.inr (some (0, 1, 0))), .inl a1] h307 (kR6 (fun h310 => Q (vI (-1)) h310) (fun r311 c312 h310 => Q (vI (-1)) h310))) (fun r308 c309 h307 => mC M4_loopNumbered [.inr (.inr (some (0, 1, 0))), .inl a1] h307 (kR6 (fun h313 => Q (vI (-1)) h313) (fun r314 c315 h313 => mC M6_isTicks [.inl a2] h313 (kI (fun x317 h316 => (¬ x317 = 0 → mC M6_hearTrial [.inr (.inr (some (7, 0, 0))), .inl a1, .inr (.inr (some (6, r314, c315))), .inl a2] h316 (kI (fun x319 h318 => mE M6_bestUpper 77 [vR 7 0 0, vU, vU, vR 6 r308 c309, vR 6 r314 c315, vI x319, vI (h318.1 6 r308 c309 4), vI 1000000, vI (h318.1 6 r308 c309 4), vU] [] h318 Q))) ∧ (x317 = 0 → Q (vI (-2)) h316)))))))))) : mC M6_bestUpper [.inr (.inr (some (7, 0, 0))), .inl a1, .inl a2] h Q := by
  show mE M6_bestUpper 0 [vR 7 0 0, vI a1, vI a2, vU, vU, vU, vU, vU, vU, vU] [] h Q
  refine mE.aload_n dX6_bestUpper_0 rfl ?_
  refine mE.getf (w := .inr (.inr (some (0, 1, 0)))) dX6_bestUpper_1 f6_16 rfl ?_
  refine mE.aload_n dX6_bestUpper_4 rfl ?_
  refine mE.getf (w := .inr (.inr (some (0, 0, 0)))) dX6_bestUpper_5 f6_12 rfl ?_
  refine mE.callV (as := [.inr (.inr (some (0, 0, 0)))]) (k := 0) (r := 1) (i := 0) (st := []) dX6_bestUpper_8 cf6_bestUpper_154 rfl rfl (Nat.le_of_ble_eq_true rfl) (fun _ => Nat.le_of_ble_eq_true rfl) w (kV_on (fun h306 w => ?_))
  refine mE.aload_n dX6_bestUpper_11 rfl ?_
  refine mE.getf (w := .inr (.inr (some (0, 0, 0)))) dX6_bestUpper_12 f6_12 rfl ?_
  refine mE.iload_n dX6_bestUpper_15 rfl ?_
  refine mE.callV (as := [.inl a1]) (k := 0) (r := 0) (i := 0) (st := []) dX6_bestUpper_16 cf6_bestUpper_100 rfl rfl (Nat.le_of_ble_eq_true rfl) (fun _ => Nat.le_of_ble_eq_true rfl) w (kR6_on (fun h307 w => ?_) (fun r308 c309 h307 w => ?_))
  · refine mE.astore_nN (l2 := [vR 7 0 0, vI a1, vI a2, vN, vU, vU, vU, vU, vU, vU]) dX6_bestUpper_19 (by decide) rfl ?_
    refine mE.aload_n dX6_bestUpper_20 rfl ?_
    refine mE.getf (w := .inr (.inr (some (0, 1, 0)))) dX6_bestUpper_21 f6_16 rfl ?_
    refine mE.iload_n dX6_bestUpper_24 rfl ?_
    refine mE.callV (as := [.inl a1]) (k := 0) (r := 1) (i := 0) (st := []) dX6_bestUpper_25 cf6_bestUpper_100 rfl rfl (Nat.le_of_ble_eq_true rfl) (fun _ => Nat.le_of_ble_eq_true rfl) w (kR6_on (fun h310 w => ?_) (fun r311 c312 h310 w => ?_))
    · refine mE.astoreN (l2 := [vR 7 0 0, vI a1, vI a2, vN, vN, vU, vU, vU, vU, vU]) dX6_bestUpper_28 (by decide) rfl ?_
      refine mE.aload_nN dX6_bestUpper_30 rfl ?_
      refine mE.ifnullN (tgt := 39) dX6_bestUpper_31 (by decide) ?_
      refine mE.iconst (v := -1) dX6_bestUpper_39 (by decide) ?_
      exact mE.iret dX6_bestUpper_40 rfl rfl w
    · refine mE.astore (l2 := [vR 7 0 0, vI a1, vI a2, vN, vR 6 r311 c312, vU, vU, vU, vU, vU]) dX6_bestUpper_28 (by decide) rfl ?_
      refine mE.aload_nN dX6_bestUpper_30 rfl ?_
      refine mE.ifnullN (tgt := 39) dX6_bestUpper_31 (by decide) ?_
      refine mE.iconst (v := -1) dX6_bestUpper_39 (by decide) ?_
      exact mE.iret dX6_bestUpper_40 rfl rfl w
  · refine mE.astore_n (l2 := [vR 7 0 0, vI a1, vI a2, vR 6 r308 c309, vU, vU, vU, vU, vU, vU]) dX6_bestUpper_19 (by decide) rfl ?_
    refine mE.aload_n dX6_bestUpper_20 rfl ?_
    refine mE.getf (w := .inr (.inr (some (0, 1, 0)))) dX6_bestUpper_21 f6_16 rfl ?_
    refine mE.iload_n dX6_bestUpper_24 rfl ?_
    refine mE.callV (as := [.inl a1]) (k := 0) (r := 1) (i := 0) (st := []) dX6_bestUpper_25 cf6_bestUpper_100 rfl rfl (Nat.le_of_ble_eq_true rfl) (fun _ => Nat.le_of_ble_eq_true rfl) w (kR6_on (fun h313 w => ?_) (fun r314 c315 h313 w => ?_))
    · refine mE.astoreN (l2 := [vR 7 0 0, vI a1, vI a2, vR 6 r308 c309, vN, vU, vU, vU, vU, vU]) dX6_bestUpper_28 (by decide) rfl ?_
      refine mE.aload_n dX6_bestUpper_30 rfl ?_
      refine mE.ifnullR dX6_bestUpper_31 ?_
      refine mE.aloadN dX6_bestUpper_34 rfl ?_
      refine mE.ifnonnullN dX6_bestUpper_36 ?_
      refine mE.iconst (v := -1) dX6_bestUpper_39 (by decide) ?_
      exact mE.iret dX6_bestUpper_40 rfl rfl w
    · refine mE.astore (l2 := [vR 7 0 0, vI a1, vI a2, vR 6 r308 c309, vR 6 r314 c315, vU, vU, vU, vU, vU]) dX6_bestUpper_28 (by decide) rfl ?_
      refine mE.aload_n dX6_bestUpper_30 rfl ?_
      refine mE.ifnullR dX6_bestUpper_31 ?_
      refine mE.aload dX6_bestUpper_34 rfl ?_
      refine mE.ifnonnullR (tgt := 41) dX6_bestUpper_36 (by decide) ?_
      refine mE.iload_n dX6_bestUpper_41 rfl ?_
      refine mE.callS (as := [.inl a2]) (st := []) dX6_bestUpper_42 cf6_bestUpper_157 rfl rfl (Nat.le_of_ble_eq_true rfl) (fun _ => Nat.le_of_ble_eq_true rfl) w (kI_on (fun x317 h316 w => ?_))
      refine mE.if_ne (tgt := 51) dX6_bestUpper_45 (by decide) (fun c => ?_) (fun c => ?_)
      · have w := w.1 c
        refine mE.aload_n dX6_bestUpper_51 rfl ?_
        refine mE.iload_n dX6_bestUpper_52 rfl ?_
        refine mE.aload dX6_bestUpper_53 rfl ?_
        refine mE.iload_n dX6_bestUpper_55 rfl ?_
        refine mE.callV (as := [.inl a1, .inr (.inr (some (6, r314, c315))), .inl a2]) (k := 7) (r := 0) (i := 0) (st := []) dX6_bestUpper_56 cf6_bestUpper_165 rfl rfl (Nat.le_of_ble_eq_true rfl) (fun _ => Nat.le_of_ble_eq_true rfl) w (kI_on (fun x319 h318 w => ?_))
        refine mE.istore (l2 := [vR 7 0 0, vI a1, vI a2, vR 6 r308 c309, vR 6 r314 c315, vI x319, vU, vU, vU, vU]) dX6_bestUpper_59 (by decide) rfl ?_
        refine mE.aload_n dX6_bestUpper_61 rfl ?_
        refine mE.getf (w := .inl (h318.1 6 r308 c309 4)) dX6_bestUpper_62 f6_169 rfl ?_
        refine mE.istore (l2 := [vR 7 0 0, vI a1, vI a2, vR 6 r308 c309, vR 6 r314 c315, vI x319, vI (h318.1 6 r308 c309 4), vU, vU, vU]) dX6_bestUpper_65 (by decide) rfl ?_
        refine mE.ldc (v := 1000000) dX6_bestUpper_67 (tb_of 540 (by decide +kernel) rfl) ?_
        refine mE.istore (l2 := [vR 7 0 0, vI a1, vI a2, vR 6 r308 c309, vR 6 r314 c315, vI x319, vI (h318.1 6 r308 c309 4), vI 1000000, vU, vU]) dX6_bestUpper_69 (by decide) rfl ?_
        refine mE.aload_n dX6_bestUpper_71 rfl ?_
        refine mE.getf (w := .inl (h318.1 6 r308 c309 4)) dX6_bestUpper_72 f6_169 rfl ?_
        refine mE.istore (l2 := [vR 7 0 0, vI a1, vI a2, vR 6 r308 c309, vR 6 r314 c315, vI x319, vI (h318.1 6 r308 c309 4), vI 1000000, vI (h318.1 6 r308 c309 4), vU]) dX6_bestUpper_75 (by decide) rfl ?_
        exact mE.less (by exact ⟨Or.inr rfl, ⟨Or.inl rfl, ⟨Or.inl rfl, ⟨Or.inr rfl, ⟨Or.inr rfl, ⟨Or.inr rfl, ⟨Or.inr rfl, ⟨Or.inr rfl, ⟨Or.inr rfl, ⟨Or.inl rfl, trivial⟩⟩⟩⟩⟩⟩⟩⟩⟩⟩) w
      · have w := w.2 c
        refine mE.bipush (v := -2) dX6_bestUpper_48 (by decide) ?_
        exact mE.iret dX6_bestUpper_50 rfl rfl w
theorem w6_bestUpper_77 {r3_ : Nat} {i3_ : Nat} {r4_ : Nat} {i4_ : Nat} {y5 : Int32} {y6 : Int32} {y7 : Int32} {y8 : Int32} {h : mH} {Q : mV → mH → Prop} (w : (200 < y8 → Q (vI y6) h) ∧ (¬ 200 < y8 → mC M6_countedWith [.inr (.inr (some (7, 0, 0))), .inr (.inr (some (6, r3_, i3_))), .inl y8, .inl y5] h (kI (fun x321 h320 => (y7 ≤ (if 0 ≤ (x321 - (h320.1 6 r4_ i4_ 7)) then x321 - (h320.1 6 r4_ i4_ 7) else 0 - (x321 - (h320.1 6 r4_ i4_ 7))) → mE M6_bestUpper 77 [vR 7 0 0, vU, vU, vR 6 r3_ i3_, vR 6 r4_ i4_, vI y5, vI y6, vI y7, vI (y8 + 1), vU] [] h320 Q) ∧ (¬ y7 ≤ (if 0 ≤ (x321 - (h320.1 6 r4_ i4_ 7)) then x321 - (h320.1 6 r4_ i4_ 7) else 0 - (x321 - (h320.1 6 r4_ i4_ 7))) → mE M6_bestUpper 77 [vR 7 0 0, vU, vU, vR 6 r3_ i3_, vR 6 r4_ i4_, vI y5, vI y8, vI (if 0 ≤ (x321 - (h320.1 6 r4_ i4_ 7)) then x321 - (h320.1 6 r4_ i4_ 7) else 0 - (x321 - (h320.1 6 r4_ i4_ 7))), vI (y8 + 1), vU] [] h320 Q))))) : mE M6_bestUpper 77 [vR 7 0 0, vU, vU, vR 6 r3_ i3_, vR 6 r4_ i4_, vI y5, vI y6, vI y7, vI y8, vU] [] h Q := by
  refine mE.iload dX6_bestUpper_77 rfl ?_
  refine mE.sipush (v := 200) dX6_bestUpper_79 (by decide) ?_
  refine mE.icmp_gt (tgt := 126) dX6_bestUpper_82 (by decide) (fun c => ?_) (fun c => ?_)
  · have w := w.1 c
    refine mE.iload dX6_bestUpper_126 rfl ?_
    exact mE.iret dX6_bestUpper_128 rfl rfl w
  · have w := w.2 c
    refine mE.aload_n dX6_bestUpper_85 rfl ?_
    refine mE.aload_n dX6_bestUpper_86 rfl ?_
    refine mE.iload dX6_bestUpper_87 rfl ?_
    refine mE.iload dX6_bestUpper_89 rfl ?_
    refine mE.callV (as := [.inr (.inr (some (6, r3_, i3_))), .inl y8, .inl y5]) (k := 7) (r := 0) (i := 0) (st := []) dX6_bestUpper_91 cf6_bestUpper_173 rfl rfl (Nat.le_of_ble_eq_true rfl) (fun _ => Nat.le_of_ble_eq_true rfl) w (kI_on (fun x321 h320 w => ?_))
    refine mE.aload dX6_bestUpper_94 rfl ?_
    refine mE.getf (w := .inl (h320.1 6 r4_ i4_ 7)) dX6_bestUpper_96 f6_177 rfl ?_
    refine mE.isub dX6_bestUpper_99 ?_
    refine mE.mabs dX6_bestUpper_100 ml6_180 mj_abs.1 mj_abs.2.1 mj_abs.2.2 ⟨by decide, by decide⟩ (fun _ => Nat.le_of_ble_eq_true rfl) ?_
    refine mE.istore (l2 := [vR 7 0 0, vU, vU, vR 6 r3_ i3_, vR 6 r4_ i4_, vI y5, vI y6, vI y7, vI y8, vI (if 0 ≤ (x321 - (h320.1 6 r4_ i4_ 7)) then x321 - (h320.1 6 r4_ i4_ 7) else 0 - (x321 - (h320.1 6 r4_ i4_ 7)))]) dX6_bestUpper_103 (by decide) rfl ?_
    refine mE.iload dX6_bestUpper_105 rfl ?_
    refine mE.iload dX6_bestUpper_107 rfl ?_
    refine mE.icmp_ge (tgt := 120) dX6_bestUpper_109 (by decide) (fun c => ?_) (fun c => ?_)
    · have w := w.1 c
      refine mE.iinc (v := y8 + 1) (l2 := [vR 7 0 0, vU, vU, vR 6 r3_ i3_, vR 6 r4_ i4_, vI y5, vI y6, vI y7, vI (y8 + 1), vI (if 0 ≤ (x321 - (h320.1 6 r4_ i4_ 7)) then x321 - (h320.1 6 r4_ i4_ 7) else 0 - (x321 - (h320.1 6 r4_ i4_ 7)))]) dX6_bestUpper_120 rfl rfl (by decide) rfl ?_
      refine mE.goto (tgt := 77) dX6_bestUpper_123 (by decide) ?_
      exact mE.less (by exact ⟨Or.inr rfl, ⟨Or.inl rfl, ⟨Or.inl rfl, ⟨Or.inr rfl, ⟨Or.inr rfl, ⟨Or.inr rfl, ⟨Or.inr rfl, ⟨Or.inr rfl, ⟨Or.inr rfl, ⟨Or.inl rfl, trivial⟩⟩⟩⟩⟩⟩⟩⟩⟩⟩) w
    · have w := w.2 c
      refine mE.iload dX6_bestUpper_112 rfl ?_
      refine mE.istore (l2 := [vR 7 0 0, vU, vU, vR 6 r3_ i3_, vR 6 r4_ i4_, vI y5, vI y6, vI (if 0 ≤ (x321 - (h320.1 6 r4_ i4_ 7)) then x321 - (h320.1 6 r4_ i4_ 7) else 0 - (x321 - (h320.1 6 r4_ i4_ 7))), vI y8, vI (if 0 ≤ (x321 - (h320.1 6 r4_ i4_ 7)) then x321 - (h320.1 6 r4_ i4_ 7) else 0 - (x321 - (h320.1 6 r4_ i4_ 7)))]) dX6_bestUpper_114 (by decide) rfl ?_
      refine mE.iload dX6_bestUpper_116 rfl ?_
      refine mE.istore (l2 := [vR 7 0 0, vU, vU, vR 6 r3_ i3_, vR 6 r4_ i4_, vI y5, vI y8, vI (if 0 ≤ (x321 - (h320.1 6 r4_ i4_ 7)) then x321 - (h320.1 6 r4_ i4_ 7) else 0 - (x321 - (h320.1 6 r4_ i4_ 7))), vI y8, vI (if 0 ≤ (x321 - (h320.1 6 r4_ i4_ 7)) then x321 - (h320.1 6 r4_ i4_ 7) else 0 - (x321 - (h320.1 6 r4_ i4_ 7)))]) dX6_bestUpper_118 (by decide) rfl ?_
      refine mE.iinc (v := y8 + 1) (l2 := [vR 7 0 0, vU, vU, vR 6 r3_ i3_, vR 6 r4_ i4_, vI y5, vI y8, vI (if 0 ≤ (x321 - (h320.1 6 r4_ i4_ 7)) then x321 - (h320.1 6 r4_ i4_ 7) else 0 - (x321 - (h320.1 6 r4_ i4_ 7))), vI (y8 + 1), vI (if 0 ≤ (x321 - (h320.1 6 r4_ i4_ 7)) then x321 - (h320.1 6 r4_ i4_ 7) else 0 - (x321 - (h320.1 6 r4_ i4_ 7)))]) dX6_bestUpper_120 rfl rfl (by decide) rfl ?_
      refine mE.goto (tgt := 77) dX6_bestUpper_123 (by decide) ?_
      exact mE.less (by exact ⟨Or.inr rfl, ⟨Or.inl rfl, ⟨Or.inl rfl, ⟨Or.inr rfl, ⟨Or.inr rfl, ⟨Or.inr rfl, ⟨Or.inr rfl, ⟨Or.inr rfl, ⟨Or.inr rfl, ⟨Or.inl rfl, trivial⟩⟩⟩⟩⟩⟩⟩⟩⟩⟩) w
theorem w6_hearTrial {a1 : Int32} {r2 : Nat} {i2 : Nat} {a3 : Int32} {h : mH} {Q : mV → mH → Prop} (w : mE M6_hearTrial 6 [vR 7 0 0, vI a1, vR 6 r2 i2, vI a3, vI 0, vI 0, vU] [] h Q) : mC M6_hearTrial [.inr (.inr (some (7, 0, 0))), .inl a1, .inr (.inr (some (6, r2, i2))), .inl a3] h Q := by
  show mE M6_hearTrial 0 [vR 7 0 0, vI a1, vR 6 r2 i2, vI a3, vU, vU, vU] [] h Q
  refine mE.iconst (v := 0) dX6_hearTrial_0 (by decide) ?_
  refine mE.istore (l2 := [vR 7 0 0, vI a1, vR 6 r2 i2, vI a3, vI 0, vU, vU]) dX6_hearTrial_1 (by decide) rfl ?_
  refine mE.iconst (v := 0) dX6_hearTrial_3 (by decide) ?_
  refine mE.istore (l2 := [vR 7 0 0, vI a1, vR 6 r2 i2, vI a3, vI 0, vI 0, vU]) dX6_hearTrial_4 (by decide) rfl ?_
  exact w
theorem w6_hearTrial_6 {y1 : Int32} {r2_ : Nat} {i2_ : Nat} {y3 : Int32} {y4 : Int32} {y5 : Int32} {h : mH} {Q : mV → mH → Prop} (w : (y3 ≤ y5 → Q (vI y4) h) ∧ (¬ y3 ≤ y5 → mC M4_listener [.inr (.inr (some (0, 1, 0)))] h (kI (fun x323 h322 => mC M4_passTick [.inr (.inr (some (0, 1, 0))), .inl x323] h322 (kV (fun h324 => (¬ x323 = y1 → mE M6_hearTrial 6 [vR 7 0 0, vI y1, vR 6 r2_ i2_, vI y3, vI y4, vI (y5 + 1), vU] [] h324 Q) ∧ (x323 = y1 → (100 ≤ y4 → mE M6_hearTrial 6 [vR 7 0 0, vI y1, vR 6 r2_ i2_, vI y3, vI y4, vI (y5 + 1), vU] [] h324 Q) ∧ (¬ 100 ≤ y4 → mC M4_strengthOf [.inr (.inr (some (0, 1, 0))), .inr (.inr (some (6, r2_, i2_)))] h324 (kI (fun x326 h325 => vp_in y4 100 ∧ (mE M6_hearTrial 6 [vR 7 0 0, vI y1, vR 6 r2_ i2_, vI y3, vI (y4 + 1), vI (y5 + 1), vU] [] (pI h325 8 0 0 y4.toNatClampNeg x326) Q))))))))))) : mE M6_hearTrial 6 [vR 7 0 0, vI y1, vR 6 r2_ i2_, vI y3, vI y4, vI y5, vU] [] h Q := by
  refine mE.iload dX6_hearTrial_6 rfl ?_
  refine mE.iload_n dX6_hearTrial_8 rfl ?_
  refine mE.icmp_ge (tgt := 70) dX6_hearTrial_9 (by decide) (fun c => ?_) (fun c => ?_)
  · have w := w.1 c
    refine mE.iload dX6_hearTrial_70 rfl ?_
    exact mE.iret dX6_hearTrial_72 rfl rfl w
  · have w := w.2 c
    refine mE.aload_n dX6_hearTrial_12 rfl ?_
    refine mE.getf (w := .inr (.inr (some (0, 1, 0)))) dX6_hearTrial_13 f6_16 rfl ?_
    refine mE.callV (as := []) (k := 0) (r := 1) (i := 0) (st := []) dX6_hearTrial_16 cf6_hearTrial_133 rfl rfl (Nat.le_of_ble_eq_true rfl) (fun _ => Nat.le_of_ble_eq_true rfl) w (kI_on (fun x323 h322 w => ?_))
    refine mE.istore (l2 := [vR 7 0 0, vI y1, vR 6 r2_ i2_, vI y3, vI y4, vI y5, vI x323]) dX6_hearTrial_19 (by decide) rfl ?_
    refine mE.aload_n dX6_hearTrial_21 rfl ?_
    refine mE.getf (w := .inr (.inr (some (0, 1, 0)))) dX6_hearTrial_22 f6_16 rfl ?_
    refine mE.iload dX6_hearTrial_25 rfl ?_
    refine mE.callV (as := [.inl x323]) (k := 0) (r := 1) (i := 0) (st := []) dX6_hearTrial_27 cf6_hearTrial_161 rfl rfl (Nat.le_of_ble_eq_true rfl) (fun _ => Nat.le_of_ble_eq_true rfl) w (kV_on (fun h324 w => ?_))
    refine mE.iload dX6_hearTrial_30 rfl ?_
    refine mE.iload_n dX6_hearTrial_32 rfl ?_
    refine mE.icmp_ne (tgt := 64) dX6_hearTrial_33 (by decide) (fun c => ?_) (fun c => ?_)
    · have w := w.1 c
      refine mE.iinc (v := y5 + 1) (l2 := [vR 7 0 0, vI y1, vR 6 r2_ i2_, vI y3, vI y4, vI (y5 + 1), vI x323]) dX6_hearTrial_64 rfl rfl (by decide) rfl ?_
      refine mE.goto (tgt := 6) dX6_hearTrial_67 (by decide) ?_
      exact mE.less (by exact ⟨Or.inr rfl, ⟨Or.inr rfl, ⟨Or.inr rfl, ⟨Or.inr rfl, ⟨Or.inr rfl, ⟨Or.inr rfl, ⟨Or.inl rfl, trivial⟩⟩⟩⟩⟩⟩⟩) w
    · have w := w.2 c
      refine mE.iload dX6_hearTrial_36 rfl ?_
      refine mE.aload_n dX6_hearTrial_38 rfl ?_
      refine mE.getf (w := .inr (.inr (some (8, 0, 0)))) dX6_hearTrial_39 f6_26 rfl ?_
      refine mE.alen (v := 100) dX6_hearTrial_42 rfl (by decide) ?_
      refine mE.icmp_ge (tgt := 64) dX6_hearTrial_43 (by decide) (fun c => ?_) (fun c => ?_)
      · have w := w.1 c
        refine mE.iinc (v := y5 + 1) (l2 := [vR 7 0 0, vI y1, vR 6 r2_ i2_, vI y3, vI y4, vI (y5 + 1), vI x323]) dX6_hearTrial_64 rfl rfl (by decide) rfl ?_
        refine mE.goto (tgt := 6) dX6_hearTrial_67 (by decide) ?_
        exact mE.less (by exact ⟨Or.inr rfl, ⟨Or.inr rfl, ⟨Or.inr rfl, ⟨Or.inr rfl, ⟨Or.inr rfl, ⟨Or.inr rfl, ⟨Or.inl rfl, trivial⟩⟩⟩⟩⟩⟩⟩) w
      · have w := w.2 c
        refine mE.aload_n dX6_hearTrial_46 rfl ?_
        refine mE.getf (w := .inr (.inr (some (8, 0, 0)))) dX6_hearTrial_47 f6_26 rfl ?_
        refine mE.iload dX6_hearTrial_50 rfl ?_
        refine mE.aload_n dX6_hearTrial_52 rfl ?_
        refine mE.getf (w := .inr (.inr (some (0, 1, 0)))) dX6_hearTrial_53 f6_16 rfl ?_
        refine mE.aload_n dX6_hearTrial_56 rfl ?_
        refine mE.callV (as := [.inr (.inr (some (6, r2_, i2_)))]) (k := 0) (r := 1) (i := 0) (st := [vI y4, vR 8 0 0]) dX6_hearTrial_57 cf6_hearTrial_104 rfl rfl (Nat.le_of_ble_eq_true rfl) (fun _ => Nat.le_of_ble_eq_true rfl) w (kI_on (fun x326 h325 w => ?_))
        refine mE.iast dX6_hearTrial_60 rfl rfl (fun _ _ _ _ => rfl) w.1 ?_
        have w := w.2
        refine mE.iinc (v := y4 + 1) (l2 := [vR 7 0 0, vI y1, vR 6 r2_ i2_, vI y3, vI (y4 + 1), vI y5, vI x323]) dX6_hearTrial_61 rfl rfl (by decide) rfl ?_
        refine mE.iinc (v := y5 + 1) (l2 := [vR 7 0 0, vI y1, vR 6 r2_ i2_, vI y3, vI (y4 + 1), vI (y5 + 1), vI x323]) dX6_hearTrial_64 rfl rfl (by decide) rfl ?_
        refine mE.goto (tgt := 6) dX6_hearTrial_67 (by decide) ?_
        exact mE.less (by exact ⟨Or.inr rfl, ⟨Or.inr rfl, ⟨Or.inr rfl, ⟨Or.inr rfl, ⟨Or.inr rfl, ⟨Or.inr rfl, ⟨Or.inl rfl, trivial⟩⟩⟩⟩⟩⟩⟩) w
theorem w6_countedWith {r1 : Nat} {i1 : Nat} {a2 : Int32} {a3 : Int32} {h : mH} {Q : mV → mH → Prop} (w : mC M2_become [.inr (.inr (some (6, 11, 0))), .inr (.inr (some (6, r1, i1)))] h (kV (fun h327 => mE M6_countedWith 19 [vR 7 0 0, vU, vU, vI a3, vI 0] [] (pI h327 6 11 0 3 a2) Q))) : mC M6_countedWith [.inr (.inr (some (7, 0, 0))), .inr (.inr (some (6, r1, i1))), .inl a2, .inl a3] h Q := by
  show mE M6_countedWith 0 [vR 7 0 0, vR 6 r1 i1, vI a2, vI a3, vU] [] h Q
  refine mE.aload_n dX6_countedWith_0 rfl ?_
  refine mE.getf (w := .inr (.inr (some (6, 11, 0)))) dX6_countedWith_1 f6_22 rfl ?_
  refine mE.aload_n dX6_countedWith_4 rfl ?_
  refine mE.callV (as := [.inr (.inr (some (6, r1, i1)))]) (k := 6) (r := 11) (i := 0) (st := []) dX6_countedWith_5 cf6_countedWith_185 rfl rfl (Nat.le_of_ble_eq_true rfl) (fun _ => Nat.le_of_ble_eq_true rfl) w (kV_on (fun h327 w => ?_))
  refine mE.aload_n dX6_countedWith_8 rfl ?_
  refine mE.getf (w := .inr (.inr (some (6, 11, 0)))) dX6_countedWith_9 f6_22 rfl ?_
  refine mE.iload_n dX6_countedWith_12 rfl ?_
  refine mE.putf dX6_countedWith_13 p6_188 (fun _ _ _ => rfl) rfl rfl ?_
  refine mE.iconst (v := 0) dX6_countedWith_16 (by decide) ?_
  refine mE.istore (l2 := [vR 7 0 0, vR 6 r1 i1, vI a2, vI a3, vI 0]) dX6_countedWith_17 (by decide) rfl ?_
  exact mE.less (by exact ⟨Or.inr rfl, ⟨Or.inl rfl, ⟨Or.inl rfl, ⟨Or.inr rfl, ⟨Or.inr rfl, trivial⟩⟩⟩⟩⟩) w
theorem w6_countedWith_19 {y3 : Int32} {y4 : Int32} {h : mH} {Q : mV → mH → Prop} (w : (y3 ≤ y4 → Q (vI (h.1 6 11 0 6)) h) ∧ (¬ y3 ≤ y4 → (100 ≤ y4 → Q (vI (h.1 6 11 0 6)) h) ∧ (¬ 100 ≤ y4 → vp_in y4 100 ∧ (mC M2_hear [.inr (.inr (some (6, 11, 0))), .inl (h.1 8 0 0 y4.toNatClampNeg)] h (kV (fun h328 => mE M6_countedWith 19 [vR 7 0 0, vU, vU, vI y3, vI (y4 + 1)] [] h328 Q)))))) : mE M6_countedWith 19 [vR 7 0 0, vU, vU, vI y3, vI y4] [] h Q := by
  refine mE.iload dX6_countedWith_19 rfl ?_
  refine mE.iload_n dX6_countedWith_21 rfl ?_
  refine mE.icmp_ge (tgt := 55) dX6_countedWith_22 (by decide) (fun c => ?_) (fun c => ?_)
  · have w := w.1 c
    refine mE.aload_n dX6_countedWith_55 rfl ?_
    refine mE.getf (w := .inr (.inr (some (6, 11, 0)))) dX6_countedWith_56 f6_22 rfl ?_
    refine mE.getf (w := .inl (h.1 6 11 0 6)) dX6_countedWith_59 f6_151 rfl ?_
    exact mE.iret dX6_countedWith_62 rfl rfl w
  · have w := w.2 c
    refine mE.iload dX6_countedWith_25 rfl ?_
    refine mE.aload_n dX6_countedWith_27 rfl ?_
    refine mE.getf (w := .inr (.inr (some (8, 0, 0)))) dX6_countedWith_28 f6_26 rfl ?_
    refine mE.alen (v := 100) dX6_countedWith_31 rfl (by decide) ?_
    refine mE.icmp_ge (tgt := 55) dX6_countedWith_32 (by decide) (fun c => ?_) (fun c => ?_)
    · have w := w.1 c
      refine mE.aload_n dX6_countedWith_55 rfl ?_
      refine mE.getf (w := .inr (.inr (some (6, 11, 0)))) dX6_countedWith_56 f6_22 rfl ?_
      refine mE.getf (w := .inl (h.1 6 11 0 6)) dX6_countedWith_59 f6_151 rfl ?_
      exact mE.iret dX6_countedWith_62 rfl rfl w
    · have w := w.2 c
      refine mE.aload_n dX6_countedWith_35 rfl ?_
      refine mE.getf (w := .inr (.inr (some (6, 11, 0)))) dX6_countedWith_36 f6_22 rfl ?_
      refine mE.aload_n dX6_countedWith_39 rfl ?_
      refine mE.getf (w := .inr (.inr (some (8, 0, 0)))) dX6_countedWith_40 f6_26 rfl ?_
      refine mE.iload dX6_countedWith_43 rfl ?_
      refine mE.iald (x := h.1 8 0 0 y4.toNatClampNeg) dX6_countedWith_45 rfl rfl w.1 rfl ?_
      have w := w.2
      refine mE.callV (as := [.inl (h.1 8 0 0 y4.toNatClampNeg)]) (k := 6) (r := 11) (i := 0) (st := []) dX6_countedWith_46 cf6_countedWith_191 rfl rfl (Nat.le_of_ble_eq_true rfl) (fun _ => Nat.le_of_ble_eq_true rfl) w (kV_on (fun h328 w => ?_))
      refine mE.iinc (v := y4 + 1) (l2 := [vR 7 0 0, vU, vU, vI y3, vI (y4 + 1)]) dX6_countedWith_49 rfl rfl (by decide) rfl ?_
      refine mE.goto (tgt := 19) dX6_countedWith_52 (by decide) ?_
      exact w
theorem w6_bestTurn {a1 : Int32} {h : mH} {Q : mV → mH → Prop} (w : mC M6_isTicks [.inl a1] h (kI (fun x330 h329 => (¬ x330 = 0 → mE M6_bestTurn 18 [vR 7 0 0, vI a1, vI 1, vI 1000000, vI 1, vU] [] h329 Q) ∧ (x330 = 0 → Q (vI (-2)) h329)))) : mC M6_bestTurn [.inr (.inr (some (7, 0, 0))), .inl a1] h Q := by
  show mE M6_bestTurn 0 [vR 7 0 0, vI a1, vU, vU, vU, vU] [] h Q
  refine mE.iload_n dX6_bestTurn_0 rfl ?_
  refine mE.callS (as := [.inl a1]) (st := []) dX6_bestTurn_1 cf6_bestTurn_157 rfl rfl (Nat.le_of_ble_eq_true rfl) (fun _ => Nat.le_of_ble_eq_true rfl) w (kI_on (fun x330 h329 w => ?_))
  refine mE.if_ne (tgt := 10) dX6_bestTurn_4 (by decide) (fun c => ?_) (fun c => ?_)
  · have w := w.1 c
    refine mE.iconst (v := 1) dX6_bestTurn_10 (by decide) ?_
    refine mE.istore_n (l2 := [vR 7 0 0, vI a1, vI 1, vU, vU, vU]) dX6_bestTurn_11 (by decide) rfl ?_
    refine mE.ldc (v := 1000000) dX6_bestTurn_12 (tb_of 540 (by decide +kernel) rfl) ?_
    refine mE.istore_n (l2 := [vR 7 0 0, vI a1, vI 1, vI 1000000, vU, vU]) dX6_bestTurn_14 (by decide) rfl ?_
    refine mE.iconst (v := 1) dX6_bestTurn_15 (by decide) ?_
    refine mE.istore (l2 := [vR 7 0 0, vI a1, vI 1, vI 1000000, vI 1, vU]) dX6_bestTurn_16 (by decide) rfl ?_
    exact w
  · have w := w.2 c
    refine mE.bipush (v := -2) dX6_bestTurn_7 (by decide) ?_
    exact mE.iret dX6_bestTurn_9 rfl rfl w
theorem w6_bestTurn_18 {y1 : Int32} {y2 : Int32} {y3 : Int32} {y4 : Int32} {h : mH} {Q : mV → mH → Prop} (w : (5 < y4 → Q (vI y2) h) ∧ (¬ 5 < y4 → mC M4_become [.inr (.inr (some (0, 1, 0))), .inr (.inr (some (0, 0, 0)))] h (kV (fun h331 => mC M4_letPass [.inr (.inr (some (0, 1, 0))), .inl y1] (pI h331 0 1 0 8 y4) (kI (fun x333 h332 => mC M4_allAmounts [.inr (.inr (some (0, 1, 0)))] h332 (kI (fun x335 h334 => (y3 ≤ x335 → mE M6_bestTurn 18 [vR 7 0 0, vI y1, vI y2, vI y3, vI (y4 + 1), vU] [] h334 Q) ∧ (¬ y3 ≤ x335 → mE M6_bestTurn 18 [vR 7 0 0, vI y1, vI y4, vI x335, vI (y4 + 1), vU] [] h334 Q))))))))) : mE M6_bestTurn 18 [vR 7 0 0, vI y1, vI y2, vI y3, vI y4, vU] [] h Q := by
  refine mE.iload dX6_bestTurn_18 rfl ?_
  refine mE.iconst (v := 5) dX6_bestTurn_20 (by decide) ?_
  refine mE.icmp_gt (tgt := 80) dX6_bestTurn_21 (by decide) (fun c => ?_) (fun c => ?_)
  · have w := w.1 c
    refine mE.iload_n dX6_bestTurn_80 rfl ?_
    exact mE.iret dX6_bestTurn_81 rfl rfl w
  · have w := w.2 c
    refine mE.aload_n dX6_bestTurn_24 rfl ?_
    refine mE.getf (w := .inr (.inr (some (0, 1, 0)))) dX6_bestTurn_25 f6_16 rfl ?_
    refine mE.aload_n dX6_bestTurn_28 rfl ?_
    refine mE.getf (w := .inr (.inr (some (0, 0, 0)))) dX6_bestTurn_29 f6_12 rfl ?_
    refine mE.callV (as := [.inr (.inr (some (0, 0, 0)))]) (k := 0) (r := 1) (i := 0) (st := []) dX6_bestTurn_32 cf6_bestTurn_154 rfl rfl (Nat.le_of_ble_eq_true rfl) (fun _ => Nat.le_of_ble_eq_true rfl) w (kV_on (fun h331 w => ?_))
    refine mE.aload_n dX6_bestTurn_35 rfl ?_
    refine mE.getf (w := .inr (.inr (some (0, 1, 0)))) dX6_bestTurn_36 f6_16 rfl ?_
    refine mE.iload dX6_bestTurn_39 rfl ?_
    refine mE.putf dX6_bestTurn_41 p6_148 (fun _ _ _ => rfl) rfl rfl ?_
    refine mE.aload_n dX6_bestTurn_44 rfl ?_
    refine mE.getf (w := .inr (.inr (some (0, 1, 0)))) dX6_bestTurn_45 f6_16 rfl ?_
    refine mE.iload_n dX6_bestTurn_48 rfl ?_
    refine mE.callV (as := [.inl y1]) (k := 0) (r := 1) (i := 0) (st := []) dX6_bestTurn_49 cf6_bestTurn_81 rfl rfl (Nat.le_of_ble_eq_true rfl) (fun _ => Nat.le_of_ble_eq_true rfl) w (kI_on (fun x333 h332 w => ?_))
    refine mE.popI dX6_bestTurn_52 ?_
    refine mE.aload_n dX6_bestTurn_53 rfl ?_
    refine mE.getf (w := .inr (.inr (some (0, 1, 0)))) dX6_bestTurn_54 f6_16 rfl ?_
    refine mE.callV (as := []) (k := 0) (r := 1) (i := 0) (st := []) dX6_bestTurn_57 cf6_bestTurn_194 rfl rfl (Nat.le_of_ble_eq_true rfl) (fun _ => Nat.le_of_ble_eq_true rfl) w (kI_on (fun x335 h334 w => ?_))
    refine mE.istore (l2 := [vR 7 0 0, vI y1, vI y2, vI y3, vI y4, vI x335]) dX6_bestTurn_60 (by decide) rfl ?_
    refine mE.iload dX6_bestTurn_62 rfl ?_
    refine mE.iload_n dX6_bestTurn_64 rfl ?_
    refine mE.icmp_ge (tgt := 74) dX6_bestTurn_65 (by decide) (fun c => ?_) (fun c => ?_)
    · have w := w.1 c
      refine mE.iinc (v := y4 + 1) (l2 := [vR 7 0 0, vI y1, vI y2, vI y3, vI (y4 + 1), vI x335]) dX6_bestTurn_74 rfl rfl (by decide) rfl ?_
      refine mE.goto (tgt := 18) dX6_bestTurn_77 (by decide) ?_
      exact mE.less (by exact ⟨Or.inr rfl, ⟨Or.inr rfl, ⟨Or.inr rfl, ⟨Or.inr rfl, ⟨Or.inr rfl, ⟨Or.inl rfl, trivial⟩⟩⟩⟩⟩⟩) w
    · have w := w.2 c
      refine mE.iload dX6_bestTurn_68 rfl ?_
      refine mE.istore_n (l2 := [vR 7 0 0, vI y1, vI y2, vI x335, vI y4, vI x335]) dX6_bestTurn_70 (by decide) rfl ?_
      refine mE.iload dX6_bestTurn_71 rfl ?_
      refine mE.istore_n (l2 := [vR 7 0 0, vI y1, vI y4, vI x335, vI y4, vI x335]) dX6_bestTurn_73 (by decide) rfl ?_
      refine mE.iinc (v := y4 + 1) (l2 := [vR 7 0 0, vI y1, vI y4, vI x335, vI (y4 + 1), vI x335]) dX6_bestTurn_74 rfl rfl (by decide) rfl ?_
      refine mE.goto (tgt := 18) dX6_bestTurn_77 (by decide) ?_
      exact mE.less (by exact ⟨Or.inr rfl, ⟨Or.inr rfl, ⟨Or.inr rfl, ⟨Or.inr rfl, ⟨Or.inr rfl, ⟨Or.inl rfl, trivial⟩⟩⟩⟩⟩⟩) w
theorem w6_goneIn {a1 : Int32} {h : mH} {Q : mV → mH → Prop} (w : mC M4_become [.inr (.inr (some (0, 1, 0))), .inr (.inr (some (0, 0, 0)))] h (kV (fun h336 => mC M4_carNumbered [.inr (.inr (some (0, 1, 0))), .inl a1] h336 (kR5 (fun h337 => Q (vI (-1)) h337) (fun r338 c339 h337 => mE M6_goneIn 28 [vR 7 0 0, vU, vR 5 r338 c339, vI 0] [] h337 Q))))) : mC M6_goneIn [.inr (.inr (some (7, 0, 0))), .inl a1] h Q := by
  show mE M6_goneIn 0 [vR 7 0 0, vI a1, vU, vU] [] h Q
  refine mE.aload_n dX6_goneIn_0 rfl ?_
  refine mE.getf (w := .inr (.inr (some (0, 1, 0)))) dX6_goneIn_1 f6_16 rfl ?_
  refine mE.aload_n dX6_goneIn_4 rfl ?_
  refine mE.getf (w := .inr (.inr (some (0, 0, 0)))) dX6_goneIn_5 f6_12 rfl ?_
  refine mE.callV (as := [.inr (.inr (some (0, 0, 0)))]) (k := 0) (r := 1) (i := 0) (st := []) dX6_goneIn_8 cf6_goneIn_154 rfl rfl (Nat.le_of_ble_eq_true rfl) (fun _ => Nat.le_of_ble_eq_true rfl) w (kV_on (fun h336 w => ?_))
  refine mE.aload_n dX6_goneIn_11 rfl ?_
  refine mE.getf (w := .inr (.inr (some (0, 1, 0)))) dX6_goneIn_12 f6_16 rfl ?_
  refine mE.iload_n dX6_goneIn_15 rfl ?_
  refine mE.callV (as := [.inl a1]) (k := 0) (r := 1) (i := 0) (st := []) dX6_goneIn_16 cf6_goneIn_87 rfl rfl (Nat.le_of_ble_eq_true rfl) (fun _ => Nat.le_of_ble_eq_true rfl) w (kR5_on (fun h337 w => ?_) (fun r338 c339 h337 w => ?_))
  · refine mE.astore_nN (l2 := [vR 7 0 0, vI a1, vN, vU]) dX6_goneIn_19 (by decide) rfl ?_
    refine mE.aload_nN dX6_goneIn_20 rfl ?_
    refine mE.ifnonnullN dX6_goneIn_21 ?_
    refine mE.iconst (v := -1) dX6_goneIn_24 (by decide) ?_
    exact mE.iret dX6_goneIn_25 rfl rfl w
  · refine mE.astore_n (l2 := [vR 7 0 0, vI a1, vR 5 r338 c339, vU]) dX6_goneIn_19 (by decide) rfl ?_
    refine mE.aload_n dX6_goneIn_20 rfl ?_
    refine mE.ifnonnullR (tgt := 26) dX6_goneIn_21 (by decide) ?_
    refine mE.iconst (v := 0) dX6_goneIn_26 (by decide) ?_
    refine mE.istore_n (l2 := [vR 7 0 0, vI a1, vR 5 r338 c339, vI 0]) dX6_goneIn_27 (by decide) rfl ?_
    exact mE.less (by exact ⟨Or.inr rfl, ⟨Or.inl rfl, ⟨Or.inr rfl, ⟨Or.inr rfl, trivial⟩⟩⟩⟩) w
theorem w6_goneIn_28 {r2_ : Nat} {i2_ : Nat} {y3 : Int32} {h : mH} {Q : mV → mH → Prop} (w : (200 ≤ y3 → ((h.1 5 r2_ i2_ 6) = 0 → Q (vI (-6)) h) ∧ (¬ (h.1 5 r2_ i2_ 6) = 0 → Q (vI ((h.1 0 1 0 6) - (h.1 0 0 0 6))) h)) ∧ (¬ 200 ≤ y3 → (¬ (h.1 5 r2_ i2_ 6) = 0 → ((h.1 5 r2_ i2_ 6) = 0 → Q (vI (-6)) h) ∧ (¬ (h.1 5 r2_ i2_ 6) = 0 → Q (vI ((h.1 0 1 0 6) - (h.1 0 0 0 6))) h)) ∧ ((h.1 5 r2_ i2_ 6) = 0 → mC M4_passTick [.inr (.inr (some (0, 1, 0))), .inl (-6)] h (kV (fun h340 => mE M6_goneIn 28 [vR 7 0 0, vU, vR 5 r2_ i2_, vI (y3 + 1)] [] h340 Q))))) : mE M6_goneIn 28 [vR 7 0 0, vU, vR 5 r2_ i2_, vI y3] [] h Q := by
  refine mE.iload_n dX6_goneIn_28 rfl ?_
  refine mE.sipush (v := 200) dX6_goneIn_29 (by decide) ?_
  refine mE.icmp_ge (tgt := 57) dX6_goneIn_32 (by decide) (fun c => ?_) (fun c => ?_)
  · have w := w.1 c
    refine mE.aload_n dX6_goneIn_57 rfl ?_
    refine mE.getf (w := .inl (h.1 5 r2_ i2_ 6)) dX6_goneIn_58 f6_197 rfl ?_
    refine mE.if_eq (tgt := 82) dX6_goneIn_61 (by decide) (fun c => ?_) (fun c => ?_)
    · have w := w.1 c
      refine mE.bipush (v := -6) dX6_goneIn_82 (by decide) ?_
      exact mE.iret dX6_goneIn_84 rfl rfl w
    · have w := w.2 c
      refine mE.aload_n dX6_goneIn_64 rfl ?_
      refine mE.getf (w := .inr (.inr (some (0, 1, 0)))) dX6_goneIn_65 f6_16 rfl ?_
      refine mE.getf (w := .inl (h.1 0 1 0 6)) dX6_goneIn_68 f6_120 rfl ?_
      refine mE.aload_n dX6_goneIn_71 rfl ?_
      refine mE.getf (w := .inr (.inr (some (0, 0, 0)))) dX6_goneIn_72 f6_12 rfl ?_
      refine mE.getf (w := .inl (h.1 0 0 0 6)) dX6_goneIn_75 f6_120 rfl ?_
      refine mE.isub dX6_goneIn_78 ?_
      refine mE.goto (tgt := 84) dX6_goneIn_79 (by decide) ?_
      exact mE.iret dX6_goneIn_84 rfl rfl w
  · have w := w.2 c
    refine mE.aload_n dX6_goneIn_35 rfl ?_
    refine mE.getf (w := .inl (h.1 5 r2_ i2_ 6)) dX6_goneIn_36 f6_197 rfl ?_
    refine mE.if_ne (tgt := 57) dX6_goneIn_39 (by decide) (fun c => ?_) (fun c => ?_)
    · have w := w.1 c
      refine mE.aload_n dX6_goneIn_57 rfl ?_
      refine mE.getf (w := .inl (h.1 5 r2_ i2_ 6)) dX6_goneIn_58 f6_197 rfl ?_
      refine mE.if_eq (tgt := 82) dX6_goneIn_61 (by decide) (fun c => ?_) (fun c => ?_)
      · have w := w.1 c
        refine mE.bipush (v := -6) dX6_goneIn_82 (by decide) ?_
        exact mE.iret dX6_goneIn_84 rfl rfl w
      · have w := w.2 c
        refine mE.aload_n dX6_goneIn_64 rfl ?_
        refine mE.getf (w := .inr (.inr (some (0, 1, 0)))) dX6_goneIn_65 f6_16 rfl ?_
        refine mE.getf (w := .inl (h.1 0 1 0 6)) dX6_goneIn_68 f6_120 rfl ?_
        refine mE.aload_n dX6_goneIn_71 rfl ?_
        refine mE.getf (w := .inr (.inr (some (0, 0, 0)))) dX6_goneIn_72 f6_12 rfl ?_
        refine mE.getf (w := .inl (h.1 0 0 0 6)) dX6_goneIn_75 f6_120 rfl ?_
        refine mE.isub dX6_goneIn_78 ?_
        refine mE.goto (tgt := 84) dX6_goneIn_79 (by decide) ?_
        exact mE.iret dX6_goneIn_84 rfl rfl w
    · have w := w.2 c
      refine mE.aload_n dX6_goneIn_42 rfl ?_
      refine mE.getf (w := .inr (.inr (some (0, 1, 0)))) dX6_goneIn_43 f6_16 rfl ?_
      refine mE.bipush (v := -6) dX6_goneIn_46 (by decide) ?_
      refine mE.callV (as := [.inl (-6)]) (k := 0) (r := 1) (i := 0) (st := []) dX6_goneIn_48 cf6_goneIn_161 rfl rfl (Nat.le_of_ble_eq_true rfl) (fun _ => Nat.le_of_ble_eq_true rfl) w (kV_on (fun h340 w => ?_))
      refine mE.iinc (v := y3 + 1) (l2 := [vR 7 0 0, vU, vR 5 r2_ i2_, vI (y3 + 1)]) dX6_goneIn_51 rfl rfl (by decide) rfl ?_
      refine mE.goto (tgt := 28) dX6_goneIn_54 (by decide) ?_
      exact w
theorem w6_put {a1 : Int64} {h : mH} {Q : mV → mH → Prop} (w : mC M3_append [.inr (.inr (some (9, 0, 0))), .inr (.inl a1)] h (kI (fun x342 h341 => Q (vI x342) h341))) : mC M6_put [.inr (.inr (some (7, 0, 0))), .inr (.inl a1)] h Q := by
  show mE M6_put 0 [vR 7 0 0, vL a1, vU] [] h Q
  refine mE.aload_n dX6_put_0 rfl ?_
  refine mE.getf (w := .inr (.inr (some (9, 0, 0)))) dX6_put_1 f6_33 rfl ?_
  refine mE.lload_n dX6_put_4 rfl ?_
  refine mE.callV (as := [.inr (.inl a1)]) (k := 9) (r := 0) (i := 0) (st := []) dX6_put_5 cf6_put_201 rfl rfl (Nat.le_of_ble_eq_true rfl) (fun _ => Nat.le_of_ble_eq_true rfl) w (kI_on (fun x342 h341 w => ?_))
  exact mE.iret dX6_put_8 rfl rfl w
theorem w6_wipe  {h : mH} {Q : mV → mH → Prop} (w : mC M3_empty [.inr (.inr (some (9, 0, 0)))] h (kI (fun x344 h343 => Q (vI x344) h343))) : mC M6_wipe [.inr (.inr (some (7, 0, 0)))] h Q := by
  show mE M6_wipe 0 [vR 7 0 0] [] h Q
  refine mE.aload_n dX6_wipe_0 rfl ?_
  refine mE.getf (w := .inr (.inr (some (9, 0, 0)))) dX6_wipe_1 f6_33 rfl ?_
  refine mE.callV (as := []) (k := 9) (r := 0) (i := 0) (st := []) dX6_wipe_4 cf6_wipe_205 rfl rfl (Nat.le_of_ble_eq_true rfl) (fun _ => Nat.le_of_ble_eq_true rfl) w (kI_on (fun x344 h343 w => ?_))
  exact mE.iret dX6_wipe_7 rfl rfl w
theorem w6_fault  {h : mH} {Q : mV → mH → Prop} (w : mC M3_firstFault [.inr (.inr (some (9, 0, 0)))] h (kI (fun x346 h345 => Q (vI x346) h345))) : mC M6_fault [.inr (.inr (some (7, 0, 0)))] h Q := by
  show mE M6_fault 0 [vR 7 0 0] [] h Q
  refine mE.aload_n dX6_fault_0 rfl ?_
  refine mE.getf (w := .inr (.inr (some (9, 0, 0)))) dX6_fault_1 f6_33 rfl ?_
  refine mE.callV (as := []) (k := 9) (r := 0) (i := 0) (st := []) dX6_fault_4 cf6_fault_208 rfl rfl (Nat.le_of_ble_eq_true rfl) (fun _ => Nat.le_of_ble_eq_true rfl) w (kI_on (fun x346 h345 w => ?_))
  exact mE.iret dX6_fault_7 rfl rfl w
theorem w6_carryOut  {h : mH} {Q : mV → mH → Prop} (w : mC M3_firstFault [.inr (.inr (some (9, 0, 0)))] h (kI (fun x348 h347 => (x348 = (-6) → mC M1_note [.inr (.inr (some (11, 0, 0))), .inr (.inr (some (0, 0, 0)))] h347 (kV (fun h349 => mE M6_carryOut 30 [vR 7 0 0, vI 0, vI 0] [] h349 Q))) ∧ (¬ x348 = (-6) → Q (vI (-3)) h347)))) : mC M6_carryOut [.inr (.inr (some (7, 0, 0)))] h Q := by
  show mE M6_carryOut 0 [vR 7 0 0, vU, vU] [] h Q
  refine mE.aload_n dX6_carryOut_0 rfl ?_
  refine mE.getf (w := .inr (.inr (some (9, 0, 0)))) dX6_carryOut_1 f6_33 rfl ?_
  refine mE.callV (as := []) (k := 9) (r := 0) (i := 0) (st := []) dX6_carryOut_4 cf6_carryOut_208 rfl rfl (Nat.le_of_ble_eq_true rfl) (fun _ => Nat.le_of_ble_eq_true rfl) w (kI_on (fun x348 h347 w => ?_))
  refine mE.bipush (v := -6) dX6_carryOut_7 (by decide) ?_
  refine mE.icmp_eq (tgt := 15) dX6_carryOut_9 (by decide) (fun c => ?_) (fun c => ?_)
  · have w := w.1 c
    refine mE.aload_n dX6_carryOut_15 rfl ?_
    refine mE.getf (w := .inr (.inr (some (11, 0, 0)))) dX6_carryOut_16 f6_40 rfl ?_
    refine mE.aload_n dX6_carryOut_19 rfl ?_
    refine mE.getf (w := .inr (.inr (some (0, 0, 0)))) dX6_carryOut_20 f6_12 rfl ?_
    refine mE.callV (as := [.inr (.inr (some (0, 0, 0)))]) (k := 11) (r := 0) (i := 0) (st := []) dX6_carryOut_23 cf6_carryOut_51 rfl rfl (Nat.le_of_ble_eq_true rfl) (fun _ => Nat.le_of_ble_eq_true rfl) w (kV_on (fun h349 w => ?_))
    refine mE.iconst (v := 0) dX6_carryOut_26 (by decide) ?_
    refine mE.istore_n (l2 := [vR 7 0 0, vI 0, vU]) dX6_carryOut_27 (by decide) rfl ?_
    refine mE.iconst (v := 0) dX6_carryOut_28 (by decide) ?_
    refine mE.istore_n (l2 := [vR 7 0 0, vI 0, vI 0]) dX6_carryOut_29 (by decide) rfl ?_
    exact w
  · have w := w.2 c
    refine mE.bipush (v := -3) dX6_carryOut_12 (by decide) ?_
    exact mE.iret dX6_carryOut_14 rfl rfl w
theorem w6_carryOut_30 {y1 : Int32} {y2 : Int32} {h : mH} {Q : mV → mH → Prop} (w : ((h.1 9 0 0 1) ≤ y2 → mC M3_empty [.inr (.inr (some (9, 0, 0)))] h (kI (fun x351 h350 => mC M6_recorded [.inr (.inr (some (7, 0, 0))), .inl y1] h350 (kI (fun x353 h352 => Q (vI x353) h352))))) ∧ (¬ (h.1 9 0 0 1) ≤ y2 → mC M3_beginsOrder [.inr (.inr (some (9, 0, 0))), .inl y2] h (kI (fun x355 h354 => (¬ x355 = 0 → mC M6_obey [.inr (.inr (some (7, 0, 0))), .inl y2] h354 (kI (fun x357 h356 => (0 ≤ x357 → mE M6_carryOut 30 [vR 7 0 0, vI (y1 + 1), vI (y2 + 1)] [] h356 Q) ∧ (¬ 0 ≤ x357 → mC M3_empty [.inr (.inr (some (9, 0, 0)))] h356 (kI (fun x359 h358 => mC M6_recorded [.inr (.inr (some (7, 0, 0))), .inl y1] h358 (kI (fun x361 h360 => Q (vI x361) h360)))))))) ∧ (x355 = 0 → mE M6_carryOut 30 [vR 7 0 0, vI y1, vI (y2 + 1)] [] h354 Q))))) : mE M6_carryOut 30 [vR 7 0 0, vI y1, vI y2] [] h Q := by
  refine mE.iload_n dX6_carryOut_30 rfl ?_
  refine mE.aload_n dX6_carryOut_31 rfl ?_
  refine mE.getf (w := .inr (.inr (some (9, 0, 0)))) dX6_carryOut_32 f6_33 rfl ?_
  refine mE.getf (w := .inl (h.1 9 0 0 1)) dX6_carryOut_35 f6_139 rfl ?_
  refine mE.icmp_ge (tgt := 75) dX6_carryOut_38 (by decide) (fun c => ?_) (fun c => ?_)
  · have w := w.1 c
    refine mE.aload_n dX6_carryOut_75 rfl ?_
    refine mE.getf (w := .inr (.inr (some (9, 0, 0)))) dX6_carryOut_76 f6_33 rfl ?_
    refine mE.callV (as := []) (k := 9) (r := 0) (i := 0) (st := []) dX6_carryOut_79 cf6_carryOut_205 rfl rfl (Nat.le_of_ble_eq_true rfl) (fun _ => Nat.le_of_ble_eq_true rfl) w (kI_on (fun x351 h350 w => ?_))
    refine mE.popI dX6_carryOut_82 ?_
    refine mE.aload_n dX6_carryOut_83 rfl ?_
    refine mE.iload_n dX6_carryOut_84 rfl ?_
    refine mE.callV (as := [.inl y1]) (k := 7) (r := 0) (i := 0) (st := []) dX6_carryOut_85 cf6_carryOut_59 rfl rfl (Nat.le_of_ble_eq_true rfl) (fun _ => Nat.le_of_ble_eq_true rfl) w (kI_on (fun x353 h352 w => ?_))
    exact mE.iret dX6_carryOut_88 rfl rfl w
  · have w := w.2 c
    refine mE.aload_n dX6_carryOut_41 rfl ?_
    refine mE.getf (w := .inr (.inr (some (9, 0, 0)))) dX6_carryOut_42 f6_33 rfl ?_
    refine mE.iload_n dX6_carryOut_45 rfl ?_
    refine mE.callV (as := [.inl y2]) (k := 9) (r := 0) (i := 0) (st := []) dX6_carryOut_46 cf6_carryOut_211 rfl rfl (Nat.le_of_ble_eq_true rfl) (fun _ => Nat.le_of_ble_eq_true rfl) w (kI_on (fun x355 h354 w => ?_))
    refine mE.if_ne (tgt := 55) dX6_carryOut_49 (by decide) (fun c => ?_) (fun c => ?_)
    · have w := w.1 c
      refine mE.aload_n dX6_carryOut_55 rfl ?_
      refine mE.iload_n dX6_carryOut_56 rfl ?_
      refine mE.callV (as := [.inl y2]) (k := 7) (r := 0) (i := 0) (st := []) dX6_carryOut_57 cf6_carryOut_214 rfl rfl (Nat.le_of_ble_eq_true rfl) (fun _ => Nat.le_of_ble_eq_true rfl) w (kI_on (fun x357 h356 w => ?_))
      refine mE.if_ge (tgt := 66) dX6_carryOut_60 (by decide) (fun c => ?_) (fun c => ?_)
      · have w := w.1 c
        refine mE.iinc (v := y1 + 1) (l2 := [vR 7 0 0, vI (y1 + 1), vI y2]) dX6_carryOut_66 rfl rfl (by decide) rfl ?_
        refine mE.iinc (v := y2 + 1) (l2 := [vR 7 0 0, vI (y1 + 1), vI (y2 + 1)]) dX6_carryOut_69 rfl rfl (by decide) rfl ?_
        refine mE.goto (tgt := 30) dX6_carryOut_72 (by decide) ?_
        exact w
      · have w := w.2 c
        refine mE.goto (tgt := 75) dX6_carryOut_63 (by decide) ?_
        refine mE.aload_n dX6_carryOut_75 rfl ?_
        refine mE.getf (w := .inr (.inr (some (9, 0, 0)))) dX6_carryOut_76 f6_33 rfl ?_
        refine mE.callV (as := []) (k := 9) (r := 0) (i := 0) (st := []) dX6_carryOut_79 cf6_carryOut_205 rfl rfl (Nat.le_of_ble_eq_true rfl) (fun _ => Nat.le_of_ble_eq_true rfl) w (kI_on (fun x359 h358 w => ?_))
        refine mE.popI dX6_carryOut_82 ?_
        refine mE.aload_n dX6_carryOut_83 rfl ?_
        refine mE.iload_n dX6_carryOut_84 rfl ?_
        refine mE.callV (as := [.inl y1]) (k := 7) (r := 0) (i := 0) (st := []) dX6_carryOut_85 cf6_carryOut_59 rfl rfl (Nat.le_of_ble_eq_true rfl) (fun _ => Nat.le_of_ble_eq_true rfl) w (kI_on (fun x361 h360 w => ?_))
        exact mE.iret dX6_carryOut_88 rfl rfl w
    · have w := w.2 c
      refine mE.goto (tgt := 69) dX6_carryOut_52 (by decide) ?_
      refine mE.iinc (v := y2 + 1) (l2 := [vR 7 0 0, vI y1, vI (y2 + 1)]) dX6_carryOut_69 rfl rfl (by decide) rfl ?_
      refine mE.goto (tgt := 30) dX6_carryOut_72 (by decide) ?_
      exact w
theorem w6_obey {a1 : Int32} {h : mH} {Q : mV → mH → Prop} (w : mC M3_signAt [.inr (.inr (some (9, 0, 0))), .inl a1] h (kI (fun x363 h362 => (x363 = 99 → mC M3_digitAt [.inr (.inr (some (9, 0, 0))), .inl (a1 + 1)] h362 (kI (fun x365 h364 => mC M3_digitAt [.inr (.inr (some (9, 0, 0))), .inl (a1 + 2)] h364 (kI (fun x367 h366 => mC M3_digitAt [.inr (.inr (some (9, 0, 0))), .inl (a1 + 3)] h366 (kI (fun x369 h368 => mC M3_digitAt [.inr (.inr (some (9, 0, 0))), .inl (a1 + 4)] h368 (kI (fun x371 h370 => mC M4_admitCar [.inr (.inr (some (0, 0, 0))), .inl x365, .inl x367, .inl x369, .inl x371] h370 (kI (fun x373 h372 => Q (vI x373) h372))))))))))) ∧ (x363 = 116 → mC M3_numberAt [.inr (.inr (some (9, 0, 0))), .inl (a1 + 1)] h362 (kI (fun x375 h374 => mC M4_letPass [.inr (.inr (some (0, 0, 0))), .inl x375] h374 (kI (fun x377 h376 => Q (vI x377) h376))))) ∧ (x363 = 119 → mC M3_numberAt [.inr (.inr (some (9, 0, 0))), .inl (a1 + 1)] h362 (kI (fun x379 h378 => mC M4_turnWish [.inr (.inr (some (0, 0, 0))), .inl x379] h378 (kI (fun x381 h380 => Q (vI x381) h380))))) ∧ (¬ x363 = 99 → ¬ x363 = 116 → ¬ x363 = 119 → Q (vI (-3)) h362)))) : mC M6_obey [.inr (.inr (some (7, 0, 0))), .inl a1] h Q := by
  show mE M6_obey 0 [vR 7 0 0, vI a1] [] h Q
  refine mE.aload_n dX6_obey_0 rfl ?_
  refine mE.getf (w := .inr (.inr (some (9, 0, 0)))) dX6_obey_1 f6_33 rfl ?_
  refine mE.iload_n dX6_obey_4 rfl ?_
  refine mE.callV (as := [.inl a1]) (k := 9) (r := 0) (i := 0) (st := []) dX6_obey_5 cf6_obey_217 rfl rfl (Nat.le_of_ble_eq_true rfl) (fun _ => Nat.le_of_ble_eq_true rfl) w (kI_on (fun x363 h362 w => ?_))
  by_cases c0 : x363 = 99
  · have w := w.1 c0
    refine mE.look (off := 36) (tgt := 44) dX6_obey_8 (by decide) (by rw [c0]; decide) (by decide) ?_
    refine mE.aload_n dX6_obey_44 rfl ?_
    refine mE.getf (w := .inr (.inr (some (0, 0, 0)))) dX6_obey_45 f6_12 rfl ?_
    refine mE.aload_n dX6_obey_48 rfl ?_
    refine mE.getf (w := .inr (.inr (some (9, 0, 0)))) dX6_obey_49 f6_33 rfl ?_
    refine mE.iload_n dX6_obey_52 rfl ?_
    refine mE.iconst (v := 1) dX6_obey_53 (by decide) ?_
    refine mE.iadd dX6_obey_54 ?_
    refine mE.callV (as := [.inl (a1 + 1)]) (k := 9) (r := 0) (i := 0) (st := [vR 0 0 0]) dX6_obey_55 cf6_obey_220 rfl rfl (Nat.le_of_ble_eq_true rfl) (fun _ => Nat.le_of_ble_eq_true rfl) w (kI_on (fun x365 h364 w => ?_))
    refine mE.aload_n dX6_obey_58 rfl ?_
    refine mE.getf (w := .inr (.inr (some (9, 0, 0)))) dX6_obey_59 f6_33 rfl ?_
    refine mE.iload_n dX6_obey_62 rfl ?_
    refine mE.iconst (v := 2) dX6_obey_63 (by decide) ?_
    refine mE.iadd dX6_obey_64 ?_
    refine mE.callV (as := [.inl (a1 + 2)]) (k := 9) (r := 0) (i := 0) (st := [vI x365, vR 0 0 0]) dX6_obey_65 cf6_obey_220 rfl rfl (Nat.le_of_ble_eq_true rfl) (fun _ => Nat.le_of_ble_eq_true rfl) w (kI_on (fun x367 h366 w => ?_))
    refine mE.aload_n dX6_obey_68 rfl ?_
    refine mE.getf (w := .inr (.inr (some (9, 0, 0)))) dX6_obey_69 f6_33 rfl ?_
    refine mE.iload_n dX6_obey_72 rfl ?_
    refine mE.iconst (v := 3) dX6_obey_73 (by decide) ?_
    refine mE.iadd dX6_obey_74 ?_
    refine mE.callV (as := [.inl (a1 + 3)]) (k := 9) (r := 0) (i := 0) (st := [vI x367, vI x365, vR 0 0 0]) dX6_obey_75 cf6_obey_220 rfl rfl (Nat.le_of_ble_eq_true rfl) (fun _ => Nat.le_of_ble_eq_true rfl) w (kI_on (fun x369 h368 w => ?_))
    refine mE.aload_n dX6_obey_78 rfl ?_
    refine mE.getf (w := .inr (.inr (some (9, 0, 0)))) dX6_obey_79 f6_33 rfl ?_
    refine mE.iload_n dX6_obey_82 rfl ?_
    refine mE.iconst (v := 4) dX6_obey_83 (by decide) ?_
    refine mE.iadd dX6_obey_84 ?_
    refine mE.callV (as := [.inl (a1 + 4)]) (k := 9) (r := 0) (i := 0) (st := [vI x369, vI x367, vI x365, vR 0 0 0]) dX6_obey_85 cf6_obey_220 rfl rfl (Nat.le_of_ble_eq_true rfl) (fun _ => Nat.le_of_ble_eq_true rfl) w (kI_on (fun x371 h370 w => ?_))
    refine mE.callV (as := [.inl x365, .inl x367, .inl x369, .inl x371]) (k := 0) (r := 0) (i := 0) (st := []) dX6_obey_88 cf6_obey_71 rfl rfl (Nat.le_of_ble_eq_true rfl) (fun _ => Nat.le_of_ble_eq_true rfl) w (kI_on (fun x373 h372 w => ?_))
    exact mE.iret dX6_obey_91 rfl rfl w
  · have w := w.2
    by_cases c1 : x363 = 116
    · have w := w.1 c1
      refine mE.look (off := 102) (tgt := 110) dX6_obey_8 (by decide) (by rw [c1]; decide) (by decide) ?_
      refine mE.aload_n dX6_obey_110 rfl ?_
      refine mE.getf (w := .inr (.inr (some (0, 0, 0)))) dX6_obey_111 f6_12 rfl ?_
      refine mE.aload_n dX6_obey_114 rfl ?_
      refine mE.getf (w := .inr (.inr (some (9, 0, 0)))) dX6_obey_115 f6_33 rfl ?_
      refine mE.iload_n dX6_obey_118 rfl ?_
      refine mE.iconst (v := 1) dX6_obey_119 (by decide) ?_
      refine mE.iadd dX6_obey_120 ?_
      refine mE.callV (as := [.inl (a1 + 1)]) (k := 9) (r := 0) (i := 0) (st := [vR 0 0 0]) dX6_obey_121 cf6_obey_223 rfl rfl (Nat.le_of_ble_eq_true rfl) (fun _ => Nat.le_of_ble_eq_true rfl) w (kI_on (fun x375 h374 w => ?_))
      refine mE.callV (as := [.inl x375]) (k := 0) (r := 0) (i := 0) (st := []) dX6_obey_124 cf6_obey_81 rfl rfl (Nat.le_of_ble_eq_true rfl) (fun _ => Nat.le_of_ble_eq_true rfl) w (kI_on (fun x377 h376 w => ?_))
      exact mE.iret dX6_obey_127 rfl rfl w
    · have w := w.2
      by_cases c2 : x363 = 119
      · have w := w.1 c2
        refine mE.look (off := 84) (tgt := 92) dX6_obey_8 (by decide) (by rw [c2]; decide) (by decide) ?_
        refine mE.aload_n dX6_obey_92 rfl ?_
        refine mE.getf (w := .inr (.inr (some (0, 0, 0)))) dX6_obey_93 f6_12 rfl ?_
        refine mE.aload_n dX6_obey_96 rfl ?_
        refine mE.getf (w := .inr (.inr (some (9, 0, 0)))) dX6_obey_97 f6_33 rfl ?_
        refine mE.iload_n dX6_obey_100 rfl ?_
        refine mE.iconst (v := 1) dX6_obey_101 (by decide) ?_
        refine mE.iadd dX6_obey_102 ?_
        refine mE.callV (as := [.inl (a1 + 1)]) (k := 9) (r := 0) (i := 0) (st := [vR 0 0 0]) dX6_obey_103 cf6_obey_223 rfl rfl (Nat.le_of_ble_eq_true rfl) (fun _ => Nat.le_of_ble_eq_true rfl) w (kI_on (fun x379 h378 w => ?_))
        refine mE.callV (as := [.inl x379]) (k := 0) (r := 0) (i := 0) (st := []) dX6_obey_106 cf6_obey_75 rfl rfl (Nat.le_of_ble_eq_true rfl) (fun _ => Nat.le_of_ble_eq_true rfl) w (kI_on (fun x381 h380 w => ?_))
        exact mE.iret dX6_obey_109 rfl rfl w
      · have w := w.2
        have w := w c0 c1 c2
        refine mE.look (off := 120) (tgt := 128) dX6_obey_8 (by decide) (sw_3 c0 c1 c2 (by decide) (by decide) (by decide)) (by decide) ?_
        refine mE.bipush (v := -3) dX6_obey_128 (by decide) ?_
        exact mE.iret dX6_obey_130 rfl rfl w
theorem w6_undo  {h : mH} {Q : mV → mH → Prop} (w : mC M1_stepBack [.inr (.inr (some (11, 0, 0))), .inr (.inr (some (0, 0, 0)))] h (kI (fun x383 h382 => Q (vI x383) h382))) : mC M6_undo [.inr (.inr (some (7, 0, 0)))] h Q := by
  show mE M6_undo 0 [vR 7 0 0] [] h Q
  refine mE.aload_n dX6_undo_0 rfl ?_
  refine mE.getf (w := .inr (.inr (some (11, 0, 0)))) dX6_undo_1 f6_40 rfl ?_
  refine mE.aload_n dX6_undo_4 rfl ?_
  refine mE.getf (w := .inr (.inr (some (0, 0, 0)))) dX6_undo_5 f6_12 rfl ?_
  refine mE.callV (as := [.inr (.inr (some (0, 0, 0)))]) (k := 11) (r := 0) (i := 0) (st := []) dX6_undo_8 cf6_undo_226 rfl rfl (Nat.le_of_ble_eq_true rfl) (fun _ => Nat.le_of_ble_eq_true rfl) w (kI_on (fun x383 h382 w => ?_))
  exact mE.iret dX6_undo_11 rfl rfl w
theorem w6_save {a1 : Int32} {h : mH} {Q : mV → mH → Prop} (w : mC M5_keep [.inr (.inr (some (13, 0, 0))), .inl a1, .inr (.inr (some (0, 0, 0)))] h (kI (fun x385 h384 => Q (vI x385) h384))) : mC M6_save [.inr (.inr (some (7, 0, 0))), .inl a1] h Q := by
  show mE M6_save 0 [vR 7 0 0, vI a1] [] h Q
  refine mE.aload_n dX6_save_0 rfl ?_
  refine mE.getf (w := .inr (.inr (some (13, 0, 0)))) dX6_save_1 f6_47 rfl ?_
  refine mE.iload_n dX6_save_4 rfl ?_
  refine mE.aload_n dX6_save_5 rfl ?_
  refine mE.getf (w := .inr (.inr (some (0, 0, 0)))) dX6_save_6 f6_12 rfl ?_
  refine mE.callV (as := [.inl a1, .inr (.inr (some (0, 0, 0)))]) (k := 13) (r := 0) (i := 0) (st := []) dX6_save_9 cf6_save_230 rfl rfl (Nat.le_of_ble_eq_true rfl) (fun _ => Nat.le_of_ble_eq_true rfl) w (kI_on (fun x385 h384 w => ?_))
  exact mE.iret dX6_save_12 rfl rfl w
theorem w6_restore {a1 : Int32} {h : mH} {Q : mV → mH → Prop} (w : mC M1_note [.inr (.inr (some (11, 0, 0))), .inr (.inr (some (0, 0, 0)))] h (kV (fun h386 => mC M5_giveBack [.inr (.inr (some (13, 0, 0))), .inl a1, .inr (.inr (some (0, 0, 0)))] h386 (kI (fun x388 h387 => mC M6_recorded [.inr (.inr (some (7, 0, 0))), .inl x388] h387 (kI (fun x390 h389 => Q (vI x390) h389))))))) : mC M6_restore [.inr (.inr (some (7, 0, 0))), .inl a1] h Q := by
  show mE M6_restore 0 [vR 7 0 0, vI a1] [] h Q
  refine mE.aload_n dX6_restore_0 rfl ?_
  refine mE.getf (w := .inr (.inr (some (11, 0, 0)))) dX6_restore_1 f6_40 rfl ?_
  refine mE.aload_n dX6_restore_4 rfl ?_
  refine mE.getf (w := .inr (.inr (some (0, 0, 0)))) dX6_restore_5 f6_12 rfl ?_
  refine mE.callV (as := [.inr (.inr (some (0, 0, 0)))]) (k := 11) (r := 0) (i := 0) (st := []) dX6_restore_8 cf6_restore_51 rfl rfl (Nat.le_of_ble_eq_true rfl) (fun _ => Nat.le_of_ble_eq_true rfl) w (kV_on (fun h386 w => ?_))
  refine mE.aload_n dX6_restore_11 rfl ?_
  refine mE.aload_n dX6_restore_12 rfl ?_
  refine mE.getf (w := .inr (.inr (some (13, 0, 0)))) dX6_restore_13 f6_47 rfl ?_
  refine mE.iload_n dX6_restore_16 rfl ?_
  refine mE.aload_n dX6_restore_17 rfl ?_
  refine mE.getf (w := .inr (.inr (some (0, 0, 0)))) dX6_restore_18 f6_12 rfl ?_
  refine mE.callV (as := [.inl a1, .inr (.inr (some (0, 0, 0)))]) (k := 13) (r := 0) (i := 0) (st := [vR 7 0 0]) dX6_restore_21 cf6_restore_233 rfl rfl (Nat.le_of_ble_eq_true rfl) (fun _ => Nat.le_of_ble_eq_true rfl) w (kI_on (fun x388 h387 w => ?_))
  refine mE.callV (as := [.inl x388]) (k := 7) (r := 0) (i := 0) (st := []) dX6_restore_24 cf6_restore_59 rfl rfl (Nat.le_of_ble_eq_true rfl) (fun _ => Nat.le_of_ble_eq_true rfl) w (kI_on (fun x390 h389 w => ?_))
  exact mE.iret dX6_restore_27 rfl rfl w
theorem w6_isWithin {a1 : Int32} {a2 : Int32} {a3 : Int32} {h : mH} {Q : mV → mH → Prop} (w : (a1 < a2 → Q (vI 0) h) ∧ (¬ a1 < a2 → (a3 < a1 → Q (vI 0) h) ∧ (¬ a3 < a1 → Q (vI 1) h))) : mC M6_isWithin [.inl a1, .inl a2, .inl a3] h Q := by
  show mE M6_isWithin 0 [vI a1, vI a2, vI a3] [] h Q
  refine mE.iload_n dX6_isWithin_0 rfl ?_
  refine mE.iload_n dX6_isWithin_1 rfl ?_
  refine mE.icmp_lt (tgt := 14) dX6_isWithin_2 (by decide) (fun c => ?_) (fun c => ?_)
  · have w := w.1 c
    refine mE.iconst (v := 0) dX6_isWithin_14 (by decide) ?_
    exact mE.iret dX6_isWithin_15 rfl rfl w
  · have w := w.2 c
    refine mE.iload_n dX6_isWithin_5 rfl ?_
    refine mE.iload_n dX6_isWithin_6 rfl ?_
    refine mE.icmp_gt (tgt := 14) dX6_isWithin_7 (by decide) (fun c => ?_) (fun c => ?_)
    · have w := w.1 c
      refine mE.iconst (v := 0) dX6_isWithin_14 (by decide) ?_
      exact mE.iret dX6_isWithin_15 rfl rfl w
    · have w := w.2 c
      refine mE.iconst (v := 1) dX6_isWithin_10 (by decide) ?_
      refine mE.goto (tgt := 15) dX6_isWithin_11 (by decide) ?_
      exact mE.iret dX6_isWithin_15 rfl rfl w
theorem w6_isTicks {a1 : Int32} {h : mH} {Q : mV → mH → Prop} (w : mC M6_isWithin [.inl a1, .inl 1, .inl 100] h (kI (fun x392 h391 => (x392 = 0 ∨ x392 = 1) ∧ Q (vI x392) h391))) : mC M6_isTicks [.inl a1] h Q := by
  show mE M6_isTicks 0 [vI a1] [] h Q
  refine mE.iload_n dX6_isTicks_0 rfl ?_
  refine mE.iconst (v := 1) dX6_isTicks_1 (by decide) ?_
  refine mE.bipush (v := 100) dX6_isTicks_2 (by decide) ?_
  refine mE.callS (as := [.inl a1, .inl 1, .inl 100]) (st := []) dX6_isTicks_4 cf6_isTicks_113 rfl rfl (Nat.le_of_ble_eq_true rfl) (fun _ => Nat.le_of_ble_eq_true rfl) w (kI_on (fun x392 h391 w => ?_))
  exact mE.iret dX6_isTicks_7 rfl (nar_b w.1) w.2
theorem w6_areBounds {a1 : Int32} {a2 : Int32} {h : mH} {Q : mV → mH → Prop} (w : mC M6_isWithin [.inl a1, .inl 1, .inl 200] h (kI (fun x394 h393 => (x394 = 0 → Q (vI 0) h393) ∧ (¬ x394 = 0 → mC M6_isWithin [.inl a2, .inl 1, .inl a1] h393 (kI (fun x396 h395 => (x396 = 0 → Q (vI 0) h395) ∧ (¬ x396 = 0 → Q (vI 1) h395))))))) : mC M6_areBounds [.inl a1, .inl a2] h Q := by
  show mE M6_areBounds 0 [vI a1, vI a2] [] h Q
  refine mE.iload_n dX6_areBounds_0 rfl ?_
  refine mE.iconst (v := 1) dX6_areBounds_1 (by decide) ?_
  refine mE.sipush (v := 200) dX6_areBounds_2 (by decide) ?_
  refine mE.callS (as := [.inl a1, .inl 1, .inl 200]) (st := []) dX6_areBounds_5 cf6_areBounds_113 rfl rfl (Nat.le_of_ble_eq_true rfl) (fun _ => Nat.le_of_ble_eq_true rfl) w (kI_on (fun x394 h393 w => ?_))
  refine mE.if_eq (tgt := 24) dX6_areBounds_8 (by decide) (fun c => ?_) (fun c => ?_)
  · have w := w.1 c
    refine mE.iconst (v := 0) dX6_areBounds_24 (by decide) ?_
    exact mE.iret dX6_areBounds_25 rfl rfl w
  · have w := w.2 c
    refine mE.iload_n dX6_areBounds_11 rfl ?_
    refine mE.iconst (v := 1) dX6_areBounds_12 (by decide) ?_
    refine mE.iload_n dX6_areBounds_13 rfl ?_
    refine mE.callS (as := [.inl a2, .inl 1, .inl a1]) (st := []) dX6_areBounds_14 cf6_areBounds_113 rfl rfl (Nat.le_of_ble_eq_true rfl) (fun _ => Nat.le_of_ble_eq_true rfl) w (kI_on (fun x396 h395 w => ?_))
    refine mE.if_eq (tgt := 24) dX6_areBounds_17 (by decide) (fun c => ?_) (fun c => ?_)
    · have w := w.1 c
      refine mE.iconst (v := 0) dX6_areBounds_24 (by decide) ?_
      exact mE.iret dX6_areBounds_25 rfl rfl w
    · have w := w.2 c
      refine mE.iconst (v := 1) dX6_areBounds_20 (by decide) ?_
      refine mE.goto (tgt := 25) dX6_areBounds_21 (by decide) ?_
      exact mE.iret dX6_areBounds_25 rfl rfl w
