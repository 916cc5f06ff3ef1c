/-! moveCar -/
theorem advF_s {L len f : Int} {C : rw_} {n : Nat} : advF L len C f (n + 1) = if f - len + 1 < 40 ∧ freeP C L (f + 1) then advF L len C (f + 1) n + 1 else 0 := rfl
theorem RP.eqv {h : mH} {r : Nat} {R R2 C C2 : rw_} (hP : RP h r R C) (hR : ∀ k, R2 k = R k) (hC : ∀ k, k < 80 → C2 k = C k) : RP h r R2 C2 := by
  have e : R2 = R := funext hR
  subst e
  exact hP.sett (fun k hk => by rw [hC k hk]; exact hP.2.2.2 k hk) (fun _ _ _ _ _ => rfl)
def rmF (R : rw_) (c : Nat) (f g : Int) : rw_ := up (up R (71 + 10 * c) f) (75 + 10 * c) g
theorem rm_at {R : rw_} {c : Nat} {f g : Int} : rmF R c f g (70 + 10 * c) = R (70 + 10 * c) ∧ rmF R c f g (71 + 10 * c) = f ∧ rmF R c f g (72 + 10 * c) = R (72 + 10 * c) ∧ rmF R c f g (73 + 10 * c) = R (73 + 10 * c) ∧ rmF R c f g (74 + 10 * c) = R (74 + 10 * c) ∧ rmF R c f g (75 + 10 * c) = g ∧ rmF R c f g (76 + 10 * c) = R (76 + 10 * c) ∧ rmF R c f g (77 + 10 * c) = R (77 + 10 * c) ∧ rmF R c f g (78 + 10 * c) = R (78 + 10 * c) ∧ rmF R c f g (79 + 10 * c) = R (79 + 10 * c) := by
  simp [rmF, up]
theorem rm_ne {R : rw_} {c k : Nat} {f g : Int} (hk : ¬ (70 + 10 * c ≤ k ∧ k < 80 + 10 * c)) : rmF R c f g k = R k := by
  unfold rmF
  rw [up_ne (by omega), up_ne (by omega)]
def moC (R C : rw_) (c : Nat) (m : Nat) : rw_ := fun k => if 40 * R (70 + 10 * c) ≤ k ∧ k < 40 * R (70 + 10 * c) + 40 ∧ 40 * R (70 + 10 * c) + lasF R c + m ≤ k ∧ k ≤ 40 * R (70 + 10 * c) + R (71 + 10 * c) + m then (c : Int) else if cov R c k then -6 else C k
theorem moC_0 {R C : rw_} {c k : Nat} (hC : cov R c k → C k = c) : moC R C c 0 k = C k := by
  unfold moC
  by_cases q : cov R c k
  · rw [if_pos (by unfold cov at q; omega), hC q]
  · rw [if_neg (by unfold cov at q; omega), if_neg q]
theorem moC_s {R C : rw_} {c m k : Nat} (hl : R (70 + 10 * c) = 0 ∨ R (70 + 10 * c) = 1) (hlen : 1 ≤ R (72 + 10 * c)) (hf : ∀ j, j < m → freeP C (R (70 + 10 * c)) (R (71 + 10 * c) + 1 + j)) (hv : C k < 0 → C k = -6) : upC (upC (moC R C c m) (R (70 + 10 * c)) (R (71 + 10 * c) + m + 1) c) (R (70 + 10 * c)) (lasF R c + m) (-6) k = moC R C c (m + 1) k := by
  unfold upC moC
  by_cases q1 : (k : Int) = 40 * R (70 + 10 * c) + (lasF R c + m) ∧ 0 ≤ lasF R c + m ∧ lasF R c + m ≤ 39
  · rw [if_pos q1, if_neg (by omega)]
    by_cases q2 : cov R c k
    · rw [if_pos q2]
    · rw [if_neg q2]
      unfold cov lasF at q2
      unfold lasF at q1
      obtain ⟨j, hj⟩ : ∃ j : Nat, R (71 + 10 * c) - R (72 + 10 * c) + 1 + m = R (71 + 10 * c) + 1 + j := ⟨(m - R (72 + 10 * c)).toNat, by omega⟩
      have h1 := hf j (by omega)
      rw [← hj] at h1
      unfold freeP at h1
      rw [show (40 * R (70 + 10 * c) + (R (71 + 10 * c) - R (72 + 10 * c) + 1 + m)).toNat = k by omega] at h1
      exact (hv (by omega)).symm
  · rw [if_neg q1]
    by_cases q2 : (k : Int) = 40 * R (70 + 10 * c) + (R (71 + 10 * c) + m + 1) ∧ 0 ≤ R (71 + 10 * c) + m + 1 ∧ R (71 + 10 * c) + m + 1 ≤ 39
    · rw [if_pos q2, if_pos (by unfold lasF; omega)]
    · rw [if_neg q2]
      unfold cov lasF at *
      generalize hx : C k = x
      (repeat' split) <;> first | rfl | omega
theorem moC_e {R C : rw_} {c m k : Nat} : moC R C c m k = (if gonF R c m = 0 then markF (onF R c m) (markF R C c (-6)) c c else markF R C c (-6)) k := by
  obtain ⟨a0, a1, a2, -⟩ := on_at (R := R) (c := c) (m := m)
  by_cases q : gonF R c m = 0
  · rw [if_pos q]
    unfold moC markF
    by_cases q2 : cov (onF R c m) c k
    · rw [if_pos q2]
      unfold cov lasF at q2
      rw [a0, a1, a2] at q2
      rw [if_pos (by unfold lasF; omega)]
    · rw [if_neg q2]
      unfold cov lasF at q2
      rw [a0, a1, a2] at q2
      rw [if_neg (by unfold lasF; omega)]
  · rw [if_neg q]
    unfold moC markF
    unfold gonF at q
    rw [if_neg]
    unfold lasF
    split at q
    · omega
    · exact absurd rfl q
section MOVECAR
variable {r : Nat} {h : mH} {Q : mV → mH → Prop} {R C : rw_}
theorem RPc.front {g : mH} {c : Nat} {f f2 gn : Int} (hc : RPc g r (rmF R c f gn) c) : RPc (pI g 5 r c 2 (zI f2)) r (rmF R c f2 gn) c := by
  obtain ⟨a0, a1, a2, a3, a4, a5, a6, a7, a8, a9⟩ := rm_at (R := R) (c := c) (f := f) (g := gn)
  obtain ⟨b0, b1, b2, b3, b4, b5, b6, b7, b8, b9⟩ := rm_at (R := R) (c := c) (f := f2) (g := gn)
  unfold RPc at *
  rw [a0, a1, a2, a3, a4, a5, a6, a7, a8, a9] at hc
  rw [b0, b1, b2, b3, b4, b5, b6, b7, b8, b9]
  obtain ⟨c0, c1, c2, c3, c4, c5, c6, c7, c8, c9⟩ := hc
  simp [pI, c0, c2, c3, c4, c5, c6, c7, c8, c9]
theorem RPc.gone {g : mH} {c : Nat} {f g1 g2 : Int} (hc : RPc g r (rmF R c f g1) c) : RPc (pI g 5 r c 6 (zI g2)) r (rmF R c f g2) c := by
  obtain ⟨a0, a1, a2, a3, a4, a5, a6, a7, a8, a9⟩ := rm_at (R := R) (c := c) (f := f) (g := g1)
  obtain ⟨b0, b1, b2, b3, b4, b5, b6, b7, b8, b9⟩ := rm_at (R := R) (c := c) (f := f) (g := g2)
  unfold RPc at *
  rw [a0, a1, a2, a3, a4, a5, a6, a7, a8, a9] at hc
  rw [b0, b1, b2, b3, b4, b5, b6, b7, b8, b9]
  obtain ⟨c0, c1, c2, c3, c4, c5, c6, c7, c8, c9⟩ := hc
  simp [pI, c0, c1, c2, c3, c4, c6, c7, c8, c9]
theorem RP.car1 {g : mH} {c j : Nat} {R2 : rw_} {x : Int32} (hP : RP g r R C) (hl : R 3 ≤ 6) (hc : RPc (pI g 5 r c j x) r R2 c) (hR : ∀ k, ¬ (70 + 10 * c ≤ k ∧ k < 80 + 10 * c) → R2 k = R k) : RP (pI g 5 r c j x) r R2 C :=
  hP.setc hl hc hR (fun k r2 i s n => pI_ne (fun z => n ⟨z.1, z.2.2.1, z.2.2.2⟩))
theorem l4_moveCar {c : Nat} (hW : WF R) (hL : LayOK R C) (hc : (c : Int) < R 4) (hon : R (75 + 10 * c) = 0)
    (hq : ∀ h2, RP h2 r (onF R c (adv R C c)) (if gonF R c (adv R C c) = 0 then markF (onF R c (adv R C c)) (markF R C c (-6)) c c else markF R C c (-6)) → FrR r h h2 → h2.2 = h.2 → Q vU h2) : ∀ (n m : Nat) (g : mH), (m : Int) + n = R (73 + 10 * c) → adv R C c = m + advF (R (70 + 10 * c)) (R (72 + 10 * c)) C (R (71 + 10 * c) + m) n → (∀ j, j < m → freeP C (R (70 + 10 * c)) (R (71 + 10 * c) + 1 + j)) → R (71 + 10 * c) + m - R (72 + 10 * c) + 1 ≤ 40 → RP g r (rmF R c (R (71 + 10 * c) + m) (gonF R c m)) (moC R C c m) → FrR r h g → g.2 = h.2 → mE M4_moveCar 23 [vR 0 r 0, vR 5 r c, vI (zI m)] [] g Q := by
  have w := hW.2.1 c hc
  unfold WFc lasF at w
  obtain ⟨w0, w1, w2, w3, w4, w5, w6, w7, w8, w9, w10, w11, w12, w13⟩ := w
  have hb := hW.c
  have hl6 := hW.l.2
  have hg01 : ∀ m, gonF R c m = 0 ∨ gonF R c m = 1 := fun m => by unfold gonF; split <;> simp
  -- how it ends: without a wait, or with one
  have fin : ∀ (m : Nat) (g : mH), adv R C c = m → RP g r (rmF R c (R (71 + 10 * c) + m) (gonF R c m)) (moC R C c m) → FrR r h g → g.2 = h.2 → ¬ ((m : Int) < R (73 + 10 * c) ∧ gonF R c m = 0) → Q vU g := by
    intro m g em hP hF hM hno
    refine hq g ?_ hF hM
    rw [em]
    refine hP.eqv (fun k => ?_) (fun k hk => moC_e.symm)
    unfold onF rmF
    by_cases e : k = 78 + 10 * c
    · rw [e, up_at, if_neg hno, Int.add_zero, up_ne (by omega), up_ne (by omega)]
    · rw [up_ne e]
  have fin2 : ∀ (m : Nat) (g : mH), adv R C c = m → RP g r (rmF R c (R (71 + 10 * c) + m) (gonF R c m)) (moC R C c m) → FrR r h g → g.2 = h.2 → ((m : Int) < R (73 + 10 * c) ∧ gonF R c m = 0) → Q vU (pI g 5 r c 9 (g.1 5 r c 9 + 1)) := by
    intro m g em hP hF hM hyes
    refine hq _ ?_ (hF.tr (FrR.put (by omega))) hM
    have hgc : (c : Int) < rmF R c (R (71 + 10 * c) + m) (gonF R c m) 4 := by rw [rm_ne (by omega)]; exact hc
    have gc := RPc.of hP hgc
    rw [em]
    refine RP.eqv (hP.car1 (by rw [rm_ne (by omega)]; exact hl6) ?_ (fun k hk => ?_)) (fun k => rfl) (fun k hk => moC_e.symm)
    · obtain ⟨a0, a1, a2, a3, a4, a5, a6, a7, a8, a9⟩ := on_at (R := R) (c := c) (m := m)
      obtain ⟨b0, b1, b2, b3, b4, b5, b6, b7, b8, b9⟩ := rm_at (R := R) (c := c) (f := R (71 + 10 * c) + m) (g := gonF R c m)
      unfold RPc at *
      rw [b0, b1, b2, b3, b4, b5, b6, b7, b8, b9] at gc
      rw [a0, a1, a2, a3, a4, a5, a6, a7, a8, a9, if_pos hyes]
      obtain ⟨c0, c1, c2, c3, c4, c5, c6, c7, c8, c9⟩ := gc
      rw [c8, z1, z_add]
      simp [pI, c0, c1, c2, c3, c4, c5, c6, c7, c9]
    · rw [onF_ne hk, rm_ne hk]
  intro n
  induction n with
  | zero =>
    intro m g hm ha hf hlast hP hF hM
    have hgc : (c : Int) < rmF R c (R (71 + 10 * c) + m) (gonF R c m) 4 := by rw [rm_ne (by omega)]; exact hc
    have gc := RPc.of hP hgc
    obtain ⟨b0, b1, b2, b3, b4, b5, b6, b7, b8, b9⟩ := rm_at (R := R) (c := c) (f := R (71 + 10 * c) + m) (g := gonF R c m)
    refine w4_moveCar_23 ?_
    rw [gc.2.2.2.1, b3]
    simp (disch := omega) only [z_le]
    have hF2 := fin m g (by simpa [advF] using ha) hP hF hM (by omega)
    exact ⟨fun _ => ⟨fun _ => hF2, fun _ => by omega⟩, fun _ => by omega⟩
  | succ n ih =>
    intro m g hm ha hf hlast hP hF hM
    have hgc : (c : Int) < rmF R c (R (71 + 10 * c) + m) (gonF R c m) 4 := by rw [rm_ne (by omega)]; exact hc
    have gc := RPc.of hP hgc
    obtain ⟨b0, b1, b2, b3, b4, b5, b6, b7, b8, b9⟩ := rm_at (R := R) (c := c) (f := R (71 + 10 * c) + m) (g := gonF R c m)
    have hg := hg01 m
    have hgl : gonF R c m = 0 ↔ R (71 + 10 * c) + m - R (72 + 10 * c) + 1 < 40 := by unfold gonF; split <;> omega
    rw [advF_s] at ha
    refine w4_moveCar_23 ?_
    rw [gc.2.2.2.1, gc.2.2.2.2.2.1, gc.1, gc.2.1, b3, b5, b0, b1, z1, z0, z_add]
    simp (disch := omega) only [z_le, z_eq]
    refine ⟨fun _ => by omega, fun _ => ⟨fun q => ⟨fun _ => by omega, fun _ => ⟨fun _ => ?_, fun _ => by omega⟩⟩, fun q => ?_⟩⟩
    · rw [if_neg (by omega)] at ha
      exact fin m g (by omega) hP hF hM (by omega)
    · refine c4_takerOf (by omega) (by omega) hP.2.2.2 ?_
      have etk : tkF (moC R C c m) (R (70 + 10 * c)) (R (71 + 10 * c) + m + 1) = tkF C (R (70 + 10 * c)) (R (71 + 10 * c) + m + 1) := by
        unfold tkF
        by_cases z : 0 ≤ R (71 + 10 * c) + m + 1 ∧ R (71 + 10 * c) + m + 1 ≤ 39
        · rw [if_pos z, if_pos z]
          unfold moC cov
          rw [if_neg (by omega), if_neg (by omega)]
        · rw [if_neg z, if_neg z]
      have hr := tk_rng hL (L := R (70 + 10 * c)) (x := R (71 + 10 * c) + m + 1) hb w0
      have hfr := tk_free hL (L := R (70 + 10 * c)) (x := R (71 + 10 * c) + m + 1) hb w0
      rw [etk]
      show (¬ zI _ = -6 → (g.1 5 r c 4 ≤ zI m → Q vU g) ∧ (¬ g.1 5 r c 4 ≤ zI m → (¬ g.1 5 r c 6 = 0 → Q vU g) ∧ (g.1 5 r c 6 = 0 → Q vU (pI g 5 r c 9 (g.1 5 r c 9 + 1))))) ∧ (zI _ = -6 → mC _ [_, .inl (g.1 5 r c 1), .inl (g.1 5 r c 2 + 1), .inl (nI c)] (pI g 5 r c 2 (g.1 5 r c 2 + 1)) _)
      rw [gc.2.2.2.1, gc.2.2.2.2.2.1, gc.1, gc.2.1, b3, b5, b0, b1, zm6, z1, z0, z_nI, z_add]
      simp (disch := omega) only [z_le, z_eq]
      refine ⟨fun q2 => ⟨fun _ => by omega, fun _ => ⟨fun _ => by omega, fun _ => ?_⟩⟩, fun q2 => ?_⟩
      · have hnf : ¬ freeP C (R (70 + 10 * c)) (R (71 + 10 * c) + m + 1) := fun z => q2 (hfr.mpr z)
        rw [if_neg (fun z => hnf z.2)] at ha
        rw [← z1]
        exact fin2 m g (by omega) hP hF hM (by omega)
      · have hyf := hfr.mp q2
        rw [if_pos ⟨by omega, hyf⟩] at ha
        -- the front
        have P1 : RP (pI g 5 r c 2 (zI (R (71 + 10 * c) + m + 1))) r (rmF R c (R (71 + 10 * c) + m + 1) (gonF R c m)) (moC R C c m) := hP.car1 (by rw [rm_ne (by omega)]; exact hl6) gc.front (fun k hk => by rw [rm_ne hk, rm_ne hk])
        refine c4_take (by omega) (by omega) P1.2.2.2 (fun h2 hC2 hF2 hM2 => ?_)
        have P2 := P1.sett hC2 hF2
        have hgc2 : (c : Int) < rmF R c (R (71 + 10 * c) + m + 1) (gonF R c m) 4 := by rw [rm_ne (by omega)]; exact hc
        have gc2 := RPc.of P2 hgc2
        obtain ⟨d0, d1, d2, d3, d4, d5, d6, d7, d8, d9⟩ := rm_at (R := R) (c := c) (f := R (71 + 10 * c) + m + 1) (g := gonF R c m)
        have el : lasF (rmF R c (R (71 + 10 * c) + m + 1) (gonF R c m)) c = R (71 + 10 * c) + m + 1 - R (72 + 10 * c) + 1 := by unfold lasF; rw [d1, d2]
        refine c0_last gc2 ?_
        rw [el]
        show mC _ [_, .inl (h2.1 5 r c 1), .inl (zI _ - zI 1), .inl (zI (-6))] _ _
        rw [gc2.1, d0, z_sub]
        refine c4_take (by omega) (by omega) hC2 (fun h3 hC3 hF3 hM3 => ?_)
        have P3 := P2.sett hC3 hF3
        have gc3 := RPc.of P3 hgc2
        refine c0_last gc3 ?_
        rw [el]
        have key : ∀ gn, gn = gonF R c (m + 1) → mE M4_moveCar 23 [vR 0 r 0, vR 5 r c, vI (zI m + zI 1)] [] (pI h3 5 r c 6 (zI gn)) Q := by
          intro gn egn
          rw [z_add]
          have P4 : RP (pI h3 5 r c 6 (zI gn)) r (rmF R c (R (71 + 10 * c) + m + 1) gn) _ := P3.car1 (by rw [rm_ne (by omega)]; exact hl6) gc3.gone (fun k hk => by rw [rm_ne hk, rm_ne hk])
          have e1 : R (71 + 10 * c) + ((m + 1 : Nat) : Int) = R (71 + 10 * c) + m + 1 := by omega
          refine ih (m + 1) _ (by omega) (by rw [e1]; omega) (fun j hj => ?_) (by rw [e1]; omega) ?_ ?_ ?_
          · rcases Nat.lt_succ_iff_lt_or_eq.mp hj with z | z
            · exact hf j z
            · rw [z, show R (71 + 10 * c) + 1 + (m : Int) = R (71 + 10 * c) + m + 1 by omega]; exact hyf
          · rw [e1, ← egn]
            refine P4.eqv (fun _ => rfl) (fun k hk => ?_)
            have hv : C k < 0 → C k = -6 := fun z => by rcases Lay_val hL hk with y | y <;> omega
            rw [← moC_s w0 w3 hf hv]
            rw [show R (71 + 10 * c) + (m : Int) + 1 - R (72 + 10 * c) + 1 - 1 = lasF R c + m by unfold lasF; omega]
          · refine hF.tr ((FrR.put (k := 5) (i := c) (s := 2) (x := zI (R (71 + 10 * c) + m + 1)) (Or.inr (Or.inr (Or.inl rfl)))).tr (FrR.tr (h2 := h2) ?_ (FrR.tr (h2 := h3) ?_ (FrR.put (Or.inr (Or.inr (Or.inl rfl)))))))
            · exact fun k r2 i s n => hF2 k r2 i s (by omega)
            · exact fun k r2 i s n => hF3 k r2 i s (by omega)
          · exact hM3.trans (hM2.trans hM)
        have e40 : gonF R c (m + 1) = if 39 < R (71 + 10 * c) + m + 1 - R (72 + 10 * c) + 1 then 1 else 0 := by
          unfold gonF
          rw [show R (71 + 10 * c) + ((m + 1 : Nat) : Int) - R (72 + 10 * c) + 1 = R (71 + 10 * c) + m + 1 - R (72 + 10 * c) + 1 by omega]
        show (zI _ ≤ 39 → mE _ _ _ _ (pI h3 5 r c 6 (zI 0)) _) ∧ (¬ zI _ ≤ 39 → mE _ _ _ _ (pI h3 5 r c 6 (zI 1)) _)
        simp (disch := omega) only [z_lit, z_le]
        refine ⟨fun z => key 0 ?_, fun z => key 1 ?_⟩
        · rw [e40, if_neg (by omega)]
        · rw [e40, if_pos (by omega)]
theorem c4_moveCar {c : Nat} (hP : RP h r R C) (hW : WF R) (hL : LayOK R C) (hc : (c : Int) < R 4) (hon : R (75 + 10 * c) = 0) (hq : ∀ h2, RP h2 r (mvF R C c).1 (mvF R C c).2 → FrR r h h2 → h2.2 = h.2 → Q vU h2) : mC M4_moveCar [.inr (.inr (some (0, r, 0))), .inr (.inr (some (5, r, c)))] h Q := by
  have w := hW.2.1 c hc
  unfold WFc lasF at w
  obtain ⟨w0, w1, w2, w3, w4, w5, w6, w7, w8, w9, w10, w11, w12, w13⟩ := w
  have gc := RPc.of hP hc
  have loop : ¬ canF R C c → mE M4_moveCar 23 [vR 0 r 0, vR 5 r c, vI 0] [] h Q := by
    intro hno
    have e : mvF R C c = (onF R c (adv R C c), if gonF R c (adv R C c) = 0 then markF (onF R c (adv R C c)) (markF R C c (-6)) c c else markF R C c (-6)) := by unfold mvF; rw [if_neg hno]
    rw [e] at hq
    refine l4_moveCar hW hL hc hon hq (R (73 + 10 * c)).toNat 0 h (by omega) ?_ (fun j hj => by omega) (by omega) ?_ FrR.rf rfl
    · simp
    · refine hP.eqv (fun k => ?_) (fun k hk => moC_0 (fun q => hL.1 c k hc hon hk q))
      unfold rmF
      have g0 : gonF R c 0 = 0 := by unfold gonF; rw [if_neg (by omega)]
      by_cases q : k = 75 + 10 * c
      · rw [q, up_at, g0, hon]
      · rw [up_ne q]
        by_cases q2 : k = 71 + 10 * c
        · rw [q2, up_at]; omega
        · rw [up_ne q2]
  refine w4_moveCar ?_
  rw [gc.2.2.2.2.2.2.1]
  refine ⟨fun q => ?_, fun q => ?_⟩
  · rw [z0] at q
    rw [z_eq (by omega) (by omega)] at q
    exact loop (fun z => by have := z.1; omega)
  · rw [z0] at q
    rw [z_eq (by omega) (by omega)] at q
    refine c4_isFreeBeside hP hW hL hc ?_
    by_cases hb : besF C (1 - R (70 + 10 * c)) (lasF R c) (R (72 + 10 * c)).toNat = true
    · rw [if_pos hb]
      have hcan : canF R C c := ⟨by omega, hb⟩
      have e : mvF R C c = (chgF R c, markF (chgF R c) (markF R C c (-6)) c c) := by unfold mvF; rw [if_pos hcan]
      rw [e] at hq
      refine ⟨fun z => absurd z (by decide), fun _ => ?_⟩
      exact c4_changeLane hP hW hc hq
    · rw [if_neg hb]
      refine ⟨fun _ => loop (fun z => hb z.2), fun z => absurd rfl z⟩
end MOVECAR
