/-! the reference: record, changes -/
def sU (S : Nat → rw_) (k : Nat) (f : rw_) : Nat → rw_ := fun j => if j = k then f else S j
theorem sU_at {S : Nat → rw_} {k : Nat} {f : rw_} : sU S k f k = f := by simp [sU]
theorem sU_ne {S : Nat → rw_} {k j : Nat} {f : rw_} (h : j ≠ k) : sU S k f j = S j := by simp [sU, h]
/-- a row is put at place u of a history -/
def hPut (H : rw_) (u : Nat) (R : rw_) : rw_ := fun i => if 470 * u ≤ i ∧ i < 470 * u + 470 then R (i - 470 * u) else H i
def hShi (H : rw_) : rw_ := fun i => if i < 2350 then H (i + 470) else H i
def recS (S : Nat → rw_) (R : rw_) : Nat → rw_ :=
  if S 20 8 = 0 then (if S 20 3 = 6 then sU (sU S 23 (hPut (hShi (S 23)) 5 R)) 20 (up (S 20) 3 6) else sU (sU S 23 (hPut (S 23) (S 20 3).toNat R)) 20 (up (S 20) 3 (S 20 3 + 1))) else S
def recI (S : Nat → rw_) (R : rw_) (ans : Int) : Nat → rw_ := if 0 ≤ ans then recS S R else S
/-- what holds of the reference's other numbers -/
def okS (S : Nat → rw_) : Prop := (S 20 8 = 0 ∨ S 20 8 = 1) ∧ 0 ≤ S 20 3 ∧ S 20 3 ≤ 6
theorem recS_ok {S : Nat → rw_} {R : rw_} (h : okS S) : okS (recS S R) := by
  unfold okS at *
  unfold recS
  split
  · split
    · rw [sU_at, up_ne (by decide), up_at]; omega
    · rw [sU_at, up_ne (by decide), up_at]; omega
  · exact h
section REFC
variable {h : mH} {Q : mV → mH → Prop} {R C C0 : rw_} {S : Nat → rw_}
theorem MR.oth (hM : MR h S R C) {k j : Nat} {v : Int} (h1 : k ≠ 21) (h2 : k ≠ 27) : MR (pI h k 0 0 j (zI v)) (sU S k (up (S k) j v)) R C := by
  refine ⟨fun i hi => ?_, fun i hi => ?_, fun k2 s h3 h4 h5 h6 h7 h8 => ?_⟩
  · rw [pI_ne (fun z => h1 z.1.symm)]; exact hM.1 i hi
  · rw [pI_ne (fun z => h2 z.1.symm)]; exact hM.2.1 i hi
  · by_cases q : k2 = k
    · subst q
      rw [sU_at]
      by_cases q2 : s = j
      · rw [q2, pI_at, up_at]
      · rw [pI_ne (fun z => q2 z.2.1), up_ne q2]; exact hM.2.2 k2 s h3 h4 h5 h6 h7 h8
    · rw [pI_ne (fun z => q z.1), sU_ne q]; exact hM.2.2 k2 s h3 h4 h5 h6 h7 h8
theorem MR.eqS {S2 : Nat → rw_} (hM : MR h S R C) (e : ∀ k s, 20 ≤ k → k < 30 → k ≠ 21 → k ≠ 27 → k ≠ 28 → s < kz k → S2 k s = S k s) : MR h S2 R C := ⟨hM.1, hM.2.1, fun k s h3 h4 h5 h6 h7 h8 => by rw [e k s h3 h4 h5 h6 h7 h8]; exact hM.2.2 k s h3 h4 h5 h6 h7 h8⟩
theorem MR.i (hM : MR h S R C) (s : Nat) (hs : s < 15) : h.1 20 0 0 s = zI (S 20 s) := hM.2.2 20 s (by decide) (by decide) (by decide) (by decide) (by decide) hs
theorem MR.hist (hM : MR h S R C) (s : Nat) (hs : s < 2820) : h.1 23 0 0 s = zI (S 23 s) := hM.2.2 23 s (by decide) (by decide) (by decide) (by decide) (by decide) hs
theorem z470 : (470 : Int32) = zI 470 ∧ (2350 : Int32) = zI 2350 ∧ (6 : Int32) = zI 6 ∧ (5 : Int32) = zI 5 := by decide
theorem l7_record55 {u : Nat} (hu : u ≤ 5) {H0 : rw_} (hq : ∀ h2, MR h2 (sU (sU S 23 (hPut H0 u R)) 20 (up (S 20) 3 ((u : Int) + 1))) R C → FrC h h2 → Q vU h2) (hS3 : S 20 3 = u) : ∀ (n k : Nat) (g : mH), k + n = 470 → MR g (sU S 23 (fun i => if 470 * u ≤ i ∧ i < 470 * u + k then R (i - 470 * u) else H0 i)) R C → FrC h g → mE M7_record 55 [vR 20 0 0, vI (zI k)] [] g Q := by
  intro n
  induction n with
  | zero =>
    intro k g hk hM hF
    refine w7_record_55 ?_
    rw [hM.i 3 (by decide), sU_ne (by decide), z470.1, z1, z_add, z_le (by omega) (by omega)]
    refine ⟨fun _ => hq _ ?_ (hF.tr (FrC.put (by omega))), fun _ => by omega⟩
    rw [hS3]
    have := hM.oth (k := 20) (j := 3) (v := (u : Int) + 1) (by decide) (by decide)
    refine this.eqS (fun k2 s _ _ _ _ _ _ => ?_)
    by_cases q : k2 = 20
    · subst q
      rw [sU_at, sU_at, sU_ne (by decide)]
    · rw [sU_ne q, sU_ne q]
      by_cases q2 : k2 = 23
      · subst q2
        rw [sU_at, sU_at]
        unfold hPut
        rw [show k = 470 by omega]
      · rw [sU_ne q2, sU_ne q2]
  | succ n ih =>
    intro k g hk hM hF
    refine w7_record_55 ?_
    rw [hM.i 3 (by decide), sU_ne (by decide), hS3, z470.1, z1, z_mul, z_add, z_add, z_add, z_le (by omega) (by omega), z_clamp (by omega) (by omega), z_clamp (by omega) (by omega), Int.toNat_natCast, hM.1 k (by omega)]
    refine ⟨fun _ => by omega, fun _ => ⟨z_in (by omega) (by omega) (by omega), z_in (by omega) (by omega) (by omega), ?_⟩⟩
    rw [show (k : Int) + 1 = ((k + 1 : Nat) : Int) by omega]
    refine ih (k + 1) _ (by omega) (MR.eqS (hM.oth (k := 23) (by decide) (by decide)) (fun k2 s _ _ _ _ _ _ => ?_)) (hF.tr (FrC.put (by omega)))
    by_cases q : k2 = 23
    · subst q
      rw [sU_at, sU_at, sU_at]
      unfold up
      dsimp only
      by_cases q2 : s = ((u : Int) * 470 + k).toNat
      · rw [if_pos q2, if_pos (by omega), show s - 470 * u = k by omega]
      · rw [if_neg q2]
        by_cases q3 : 470 * u ≤ s ∧ s < 470 * u + k
        · rw [if_pos q3, if_pos (by omega)]
        · rw [if_neg q3, if_neg (by omega)]
    · rw [sU_ne q, sU_ne q, sU_ne q]
theorem c7_record (hM : MR h S R C) (hS : okS S) (hq : ∀ h2, MR h2 (recS S R) R C → FrC h h2 → Q vU h2) : mC M7_record [.inr (.inr (some (20, 0, 0)))] h Q := by
  obtain ⟨s1, s2, s3⟩ := hS
  refine w7_record ?_
  rw [hM.i 8 (by decide), hM.i 3 (by decide), z0, z470.2.2.1, z_eq (by omega) (by omega), z_eq (by omega) (by omega)]
  unfold recS at hq
  refine ⟨fun q => ⟨fun q2 => ?_, fun q2 => ?_⟩, fun q => ?_⟩
  · rw [if_pos q, if_neg q2] at hq
    obtain ⟨u, hu⟩ : ∃ u : Nat, S 20 3 = u := ⟨(S 20 3).toNat, by omega⟩
    rw [hu, Int.toNat_natCast] at hq
    refine l7_record55 (u := u) (by omega) (H0 := S 23) hq hu 470 0 h (by omega) (hM.eqS (fun k2 s _ _ _ _ _ _ => ?_)) FrC.rf
    by_cases y : k2 = 23
    · subst y
      rw [sU_at, if_neg (by omega)]
    · rw [sU_ne y]
  · rw [if_pos q, if_pos q2] at hq
    have shift : ∀ (n k : Nat) (g : mH), k + n = 2350 → MR g (sU S 23 (fun i => if i < k then S 23 (i + 470) else S 23 i)) R C → FrC h g → mE M7_record 19 [vR 20 0 0, vI (zI k)] [] g Q := by
      intro n
      induction n with
      | zero =>
        intro k g hk hMg hF
        refine w7_record_19 ?_
        rw [z470.2.1, z470.2.2.2, z_le (by omega) (by omega), z0]
        refine ⟨fun _ => ?_, fun _ => by omega⟩
        have hM5 := hMg.oth (k := 20) (j := 3) (v := 5) (by decide) (by decide)
        refine l7_record55 (h := h) (S := sU S 20 (up (S 20) 3 5)) (u := 5) (by omega) (H0 := hShi (S 23)) (fun h2 hM2 hF2 => hq h2 (hM2.eqS (fun k2 s _ _ _ _ _ _ => ?_)) hF2) (by rw [sU_at, up_at]; rfl) 470 0 _ (by omega) (hM5.eqS (fun k2 s _ _ _ _ _ _ => ?_)) (hF.tr (FrC.put (by omega)))
        · by_cases y : k2 = 20
          · subst y
            rw [sU_at, sU_at, sU_at]
            by_cases y2 : s = 3
            · rw [y2, up_at, up_at]; rfl
            · rw [up_ne y2, up_ne y2, up_ne y2]
          · rw [sU_ne y, sU_ne y]
            by_cases y2 : k2 = 23
            · subst y2
              rw [sU_at, sU_at]
            · rw [sU_ne y2, sU_ne y2, sU_ne y]
        · by_cases y : k2 = 20
          · subst y
            rw [sU_ne (by decide), sU_at, sU_at, sU_ne (by decide)]
          · rw [sU_ne (k := 20) y]
            by_cases y2 : k2 = 23
            · subst y2
              rw [sU_at, sU_at]
              unfold hShi
              rw [if_neg (c := 470 * 5 ≤ s ∧ s < 470 * 5 + 0) (by omega), show k = 2350 by omega]
            · rw [sU_ne y2, sU_ne y2, sU_ne y]
      | succ n ih =>
        intro k g hk hMg hF
        refine w7_record_19 ?_
        rw [z470.2.1, z470.1, z1, z_add, z_add, z_le (by omega) (by omega), z_clamp (by omega) (by omega), z_clamp (by omega) (by omega), Int.toNat_natCast, show ((k : Int) + 470).toNat = k + 470 by omega, hMg.hist (k + 470) (by omega), sU_at]
        refine ⟨fun _ => by omega, fun _ => ⟨z_in (by omega) (by omega) (by omega), z_in (by omega) (by omega) (by omega), ?_⟩⟩
        rw [show (k : Int) + 1 = ((k + 1 : Nat) : Int) by omega]
        refine ih (k + 1) _ (by omega) (MR.eqS (hMg.oth (k := 23) (by decide) (by decide)) (fun k2 s _ _ _ _ _ _ => ?_)) (hF.tr (FrC.put (by omega)))
        by_cases y : k2 = 23
        · subst y
          rw [sU_at, sU_at, sU_at]
          unfold up
          dsimp only
          by_cases q2 : s = k
          · rw [if_pos q2, if_pos (by omega), if_neg (by omega), q2]
          · rw [if_neg q2]
            by_cases q3 : s < k
            · rw [if_pos q3, if_pos (by omega)]
            · rw [if_neg q3, if_neg (by omega)]
        · rw [sU_ne y, sU_ne y, sU_ne y]
    refine shift 2350 0 h (by omega) (hM.eqS (fun k2 s _ _ _ _ _ _ => ?_)) FrC.rf
    by_cases y : k2 = 23
    · subst y
      rw [sU_at, if_neg (by omega)]
    · rw [sU_ne y]
  · rw [if_neg q] at hq
    exact hq h hM FrC.rf
theorem c7_isCar {a1 : Int32} {a : Int} (e1 : a1 = zI a) (ha : i32 a) (hM : MR h S R C) (hW : WF R) (hq : Q (vI (zI (if 0 ≤ a ∧ a < R 4 then 1 else 0))) h) : mC M7_isCar [.inr (.inr (some (20, 0, 0))), .inl a1] h Q := by
  subst e1
  have hb := hW.c
  refine w7_isCar ⟨vin 4 470 (by omega) (by omega) (by decide), ?_⟩
  rw [mr4 hM, z0, z1, z_sub]
  refine c7_in ha (by omega) (by omega) ?_
  have e : (if 0 ≤ a ∧ a ≤ R 4 - 1 then (1 : Int) else 0) = if 0 ≤ a ∧ a < R 4 then 1 else 0 := by
    by_cases q : 0 ≤ a ∧ a < R 4
    · rw [if_pos q, if_pos (by omega)]
    · rw [if_neg q, if_neg (by omega)]
  rw [e]
  refine ⟨?_, hq⟩
  show zI _ = zI 0 ∨ zI _ = zI 1
  split
  · exact Or.inr rfl
  · exact Or.inl rfl
theorem c7_isLoop {a1 : Int32} {a : Int} (e1 : a1 = zI a) (ha : i32 a) (hM : MR h S R C) (hW : WF R) (hq : Q (vI (zI (if 0 ≤ a ∧ a < R 3 then 1 else 0))) h) : mC M7_isLoop [.inr (.inr (some (20, 0, 0))), .inl a1] h Q := by
  subst e1
  have hb := hW.l
  refine w7_isLoop ⟨vin 3 470 (by omega) (by omega) (by decide), ?_⟩
  rw [mr3 hM, z0, z1, z_sub]
  refine c7_in ha (by omega) (by omega) ?_
  have e : (if 0 ≤ a ∧ a ≤ R 3 - 1 then (1 : Int) else 0) = if 0 ≤ a ∧ a < R 3 then 1 else 0 := by
    by_cases q : 0 ≤ a ∧ a < R 3
    · rw [if_pos q, if_pos (by omega)]
    · rw [if_neg q, if_neg (by omega)]
  rw [e]
  refine ⟨?_, hq⟩
  show zI _ = zI 0 ∨ zI _ = zI 1
  split
  · exact Or.inr rfl
  · exact Or.inl rfl
theorem c7_areBounds {u lo : Int} (hu : i32 u) (hlo : i32 lo) (hq : Q (vI (zI (if okB u lo then 1 else 0))) h) : mC M7_areBounds [.inl (zI u), .inl (zI lo)] h Q := by
  refine w7_areBounds ?_
  rw [z1, zc.2.2.2.2.2.2.2.2.2.1]
  refine c7_in hu (by omega) (by omega) ?_
  show (zI _ = 0 → Q (vI 0) h) ∧ (¬ zI _ = 0 → mC M7_in [.inl (zI lo), .inl (zI 1), .inl (zI u)] h _)
  rw [zb_ne]
  refine ⟨fun q => ?_, fun q => ?_⟩
  · rw [if_neg (by omega)] at hq; exact hq
  · refine c7_in hlo (by omega) hu ?_
    show (zI _ = 0 → Q (vI 0) h) ∧ (¬ zI _ = 0 → Q (vI (zI 1)) h)
    rw [zb_ne]
    refine ⟨fun q2 => ?_, fun q2 => ?_⟩
    · rw [if_neg (by omega)] at hq; exact hq
    · rw [if_pos (by omega)] at hq; exact hq
theorem c7_want {a : Int} (ha : i32 a) (hM : MR h S R C) (hS : okS S) (hW : WF R) (hq : ∀ h2, MR h2 (recI S R (spW R a).2) (spW R a).1 C → FrK h h2 → Q (vI (zI (spW R a).2)) h2) : mC M7_want [.inr (.inr (some (20, 0, 0))), .inl (zI a)] h Q := by
  have hb := hW.c
  refine w7_want (c7_isCar rfl ha hM hW ?_)
  unfold spW at hq
  show (¬ zI _ = 0 → _) ∧ (zI _ = 0 → Q (vI (-1)) h)
  rw [zb_ne, zm1]
  refine ⟨fun q => ?_, fun q => ?_⟩
  · have q := Decidable.not_not.mp q
    rw [if_pos q] at hq
    obtain ⟨c, rfl⟩ : ∃ c : Nat, a = c := ⟨a.toNat, by omega⟩
    rw [Int.toNat_natCast] at hq
    have w := hW.2.1 c q.2
    unfold WFc at w
    refine c7_isOn rfl hM (by omega) w.2.2.2.2.2.2.2.2.2.1 ?_
    show (¬ zI _ = 0 → _) ∧ (zI _ = 0 → Q (vI (-5)) h)
    rw [zb_ne, zm5]
    refine ⟨fun q2 => ?_, fun q2 => ?_⟩
    · rw [if_pos (Decidable.not_not.mp q2)] at hq
      dsimp only at hq
      unfold recI at hq
      rw [if_pos (by omega)] at hq
      refine c7_record hM hS (fun h2 hM2 hF2 => ?_)
      refine c7_ofC (c := c) (j := 6) (k := 76 + 10 * c) rfl (by decide) hM2 (by omega) (by omega) ?_
      show mC _ [_, _, _, .inl (1 - zI _)] h2 _
      rw [z1, z_sub]
      refine c7_bookC (c := c) (j := 6) (k := 76 + 10 * c) rfl (by decide) rfl hM2 (by omega) (by omega) (fun h3 hM3 hF3 => ?_)
      refine c7_ofC (c := c) (j := 6) (k := 76 + 10 * c) rfl (by decide) hM3 (by omega) (by omega) ?_
      rw [up_at]
      exact hq h3 hM3 (hF2.K.tr hF3.K)
    · rw [if_neg q2] at hq
      exact hq h hM FrK.rf
  · rw [if_neg q] at hq
    exact hq h hM FrK.rf
theorem c7_speed {a v : Int} (ha : i32 a) (hv : i32 v) (hM : MR h S R C) (hS : okS S) (hW : WF R) (hq : ∀ h2, MR h2 (recI S R (spV R a v).2) (spV R a v).1 C → FrK h h2 → Q (vI (zI (spV R a v).2)) h2) : mC M7_speed [.inr (.inr (some (20, 0, 0))), .inl (zI a), .inl (zI v)] h Q := by
  have hb := hW.c
  refine w7_speed (c7_isCar rfl ha hM hW ?_)
  unfold spV at hq
  show (¬ zI _ = 0 → mC _ [_, .inl 0, .inl 4] h _) ∧ (zI _ = 0 → Q (vI (-1)) h)
  rw [zb_ne, zm1, z0, zc.2.2.1]
  refine ⟨fun q => ?_, fun q => ?_⟩
  · have q := Decidable.not_not.mp q
    rw [if_pos q] at hq
    obtain ⟨c, rfl⟩ : ∃ c : Nat, a = c := ⟨a.toNat, by omega⟩
    rw [Int.toNat_natCast] at hq
    have w := hW.2.1 c q.2
    unfold WFc at w
    refine c7_in hv (by omega) (by omega) ?_
    show (¬ zI _ = 0 → _) ∧ (zI _ = 0 → Q (vI (-2)) h)
    rw [zb_ne, zm2]
    refine ⟨fun q1 => ?_, fun q1 => ?_⟩
    · have q1 := Decidable.not_not.mp q1
      rw [if_pos q1] at hq
      refine c7_isOn rfl hM (by omega) w.2.2.2.2.2.2.2.2.2.1 ?_
      show (¬ zI _ = 0 → _) ∧ (zI _ = 0 → Q (vI (-5)) h)
      rw [zb_ne, zm5]
      refine ⟨fun q2 => ?_, fun q2 => ?_⟩
      · rw [if_pos (Decidable.not_not.mp q2)] at hq
        dsimp only at hq
        unfold recI at hq
        rw [if_pos (by omega)] at hq
        refine c7_record hM hS (fun h2 hM2 hF2 => ?_)
        refine c7_ofC (c := c) (j := 3) (k := 73 + 10 * c) rfl (by decide) hM2 (by omega) (by omega) ?_
        refine c7_bookC (c := c) (j := 3) (k := 73 + 10 * c) rfl (by decide) rfl hM2 (by omega) (by omega) (fun h3 hM3 hF3 => ?_)
        exact hq h3 hM3 (hF2.K.tr hF3.K)
      · rw [if_neg q2] at hq
        exact hq h hM FrK.rf
    · rw [if_neg q1] at hq
      exact hq h hM FrK.rf
  · rw [if_neg q] at hq
    exact hq h hM FrK.rf
theorem c7_set {s v : Int} (hs : i32 s) (hv : i32 v) (hM : MR h S R C) (hS : okS S) (hW : WF R) (hq : ∀ h2, MR h2 (recI S R (spS R s v).2) (spS R s v).1 C → FrK h h2 → Q (vI (zI (spS R s v).2)) h2) : mC M7_set [.inr (.inr (some (20, 0, 0))), .inl (zI s), .inl (zI v)] h Q := by
  have hb := hW.1
  refine w7_set ?_
  unfold spS at hq
  rw [z0, z1, zc.2.2.2.1, zc.2.2.2.2.2.2.1, zm2]
  have bad : ¬ (s = 0 ∧ 0 ≤ v ∧ v ≤ 8) → ¬ (s = 1 ∧ 1 ≤ v ∧ v ≤ 5) → Q (vI (zI (-2))) h := fun n1 n2 => by
    rw [if_neg n1, if_neg n2] at hq
    exact hq h hM FrK.rf
  have act : (s = 0 ∧ 0 ≤ v ∧ v ≤ 8) ∨ (s = 1 ∧ 1 ≤ v ∧ v ≤ 5) → mC M7_record [.inr (.inr (some (20, 0, 0)))] h (kV (fun h544 => vp_in (zI s) 470 ∧ (vp_in (zI s) 470 ∧ (Q (vI (h544.1 21 0 0 (zI s).toNatClampNeg)) (pI h544 21 0 0 (zI s).toNatClampNeg (zI v)))))) := by
    intro y
    refine c7_record hM hS (fun h2 hM2 hF2 => ⟨z_in (by omega) (by omega) (by omega), z_in (by omega) (by omega) (by omega), ?_⟩)
    rw [z_clamp (by omega) (by omega), hM2.1 _ (by omega)]
    rcases y with y | y
    · rw [if_pos y] at hq
      unfold recI at hq
      rw [if_pos (by show 0 ≤ R 0; omega)] at hq
      rw [show s.toNat = 0 by omega]
      exact hq _ hM2.row (hF2.K.tr (FrK.put (by omega)))
    · rw [if_neg (by omega), if_pos y] at hq
      unfold recI at hq
      rw [if_pos (by show 0 ≤ R 1; omega)] at hq
      rw [show s.toNat = 1 by omega]
      exact hq _ hM2.row (hF2.K.tr (FrK.put (by omega)))
  refine c7_in hs (by omega) (by omega) ?_
  show (zI _ = zI 0 → Q (vI (zI (-2))) h) ∧ (¬ zI _ = zI 0 → (¬ zI s = zI 0 → _) ∧ (zI s = zI 0 → _))
  rw [zb_ne0, z_eq (by omega) (by omega)]
  refine ⟨fun q => bad (by omega) (by omega), fun q => ⟨fun q1 => ?_, fun q1 => ?_⟩⟩
  · refine c7_in hv (by omega) (by omega) ?_
    show (¬ zI _ = zI 0 → _) ∧ (zI _ = zI 0 → Q (vI (zI (-2))) h)
    rw [zb_ne0]
    exact ⟨fun q2 => act (by omega), fun q2 => bad (by omega) (by omega)⟩
  · refine c7_in hv (by omega) (by omega) ?_
    show (¬ zI _ = zI 0 → _) ∧ (zI _ = zI 0 → Q (vI (zI (-2))) h)
    rw [zb_ne0]
    exact ⟨fun q2 => act (by omega), fun q2 => bad (by omega) (by omega)⟩
theorem c7_bounds {l u lo : Int} (hl : i32 l) (hu : i32 u) (hlo : i32 lo) (hM : MR h S R C) (hS : okS S) (hW : WF R) (hq : ∀ h2, MR h2 (recI S R (spB R l u lo).2) (spB R l u lo).1 C → FrK h h2 → Q (vI (zI (spB R l u lo).2)) h2) : mC M7_bounds [.inr (.inr (some (20, 0, 0))), .inl (zI l), .inl (zI u), .inl (zI lo)] h Q := by
  have hb := hW.l
  refine w7_bounds (c7_isLoop rfl hl hM hW ?_)
  unfold spB at hq
  show (¬ zI _ = 0 → _) ∧ (zI _ = 0 → Q (vI (-1)) h)
  rw [zb_ne, zm1]
  refine ⟨fun q => ?_, fun q => ?_⟩
  · have q := Decidable.not_not.mp q
    rw [if_pos q] at hq
    obtain ⟨n, rfl⟩ : ∃ n : Nat, l = n := ⟨l.toNat, by omega⟩
    rw [Int.toNat_natCast] at hq
    have w := hW.2.2.1 n q.2
    unfold WFl at w
    refine c7_areBounds hu hlo ?_
    show (¬ zI _ = 0 → _) ∧ (zI _ = 0 → Q (vI (-2)) h)
    rw [zb_ne, zm2]
    refine ⟨fun q1 => ?_, fun q1 => ?_⟩
    · rw [if_pos (Decidable.not_not.mp q1)] at hq
      unfold recI at hq
      rw [if_pos (by show 0 ≤ R (13 + 10 * n); omega)] at hq
      refine c7_record hM hS (fun h2 hM2 hF2 => ?_)
      refine c7_ofL (c := n) (j := 3) (k := 13 + 10 * n) rfl (by decide) hM2 (by omega) (by omega) ?_
      refine c7_bookL (c := n) (j := 3) (k := 13 + 10 * n) rfl (by decide) rfl hM2 (by omega) (by omega) (fun h3 hM3 hF3 => ?_)
      refine c7_bookL (c := n) (j := 4) (k := 14 + 10 * n) rfl (by decide) rfl hM3 (by omega) (by omega) (fun h4 hM4 hF4 => ?_)
      exact hq h4 hM4 (hF2.K.tr (hF3.K.tr hF4.K))
    · rw [if_neg q1] at hq
      exact hq h hM FrK.rf
  · rw [if_neg q] at hq
    exact hq h hM FrK.rf
theorem c7_ticks {a : Int} (ha : i32 a) (hM : MR h S R C) (hS : okS S) (hW : WF R) (hL : LayOK R C0) (hq0 : ¬ (1 ≤ a ∧ a ≤ 100) → Q (vI (zI (-2))) h) (hq : (1 ≤ a ∧ a ≤ 100) → ∀ h2 C2, MR h2 (recS S R) (tkN R C0 a.toNat).1 C2 → FrK h h2 → Q (vI (zI ((tkN R C0 a.toNat).1 2))) h2) : mC M7_ticks [.inr (.inr (some (20, 0, 0))), .inl (zI a)] h Q := by
  refine w7_ticks ?_
  rw [z1, z100, zm2]
  refine c7_in ha (by omega) (by omega) ?_
  show (¬ zI _ = 0 → mC _ _ h (kV (fun h623 => mE _ _ [_, _, vI 0] _ h623 Q))) ∧ (zI _ = 0 → Q (vI (zI (-2))) h)
  rw [zb_ne]
  refine ⟨fun q => ?_, hq0⟩
  have q := Decidable.not_not.mp q
  have hq := hq q
  refine c7_record hM hS (fun h2 hM2 hF2 => ?_)
  obtain ⟨n, rfl⟩ : ∃ n : Nat, a = n := ⟨a.toNat, by omega⟩
  rw [Int.toNat_natCast] at hq
  have loop : ∀ (m k : Nat) (g : mH) (C1 : rw_), k + m = n → MR g (recS S R) (tkN R C0 k).1 C1 → FrK h g → mE M7_ticks 19 [vR 20 0 0, vI (zI n), vI (zI k)] [] g Q := by
    intro m
    induction m with
    | zero =>
      intro k g C1 hk hMg hF
      refine w7_ticks_19 ?_
      rw [z_le (by omega) (by omega)]
      rw [Nat.add_zero] at hk
      refine ⟨fun _ => ⟨vin 2 470 (by omega) (by omega) (by decide), ?_⟩, fun _ => by omega⟩
      rw [show g.1 21 0 0 ((2 : Int32).toNatClampNeg) = zI ((tkN R C0 k).1 2) from hMg.1 2 (by omega)]
      rw [hk] at hMg ⊢
      exact hq g C1 hMg hF
    | succ m ih =>
      intro k g C1 hk hMg hF
      obtain ⟨t1, t2⟩ := tk_ok hW hL k
      have hb3 := t1.l
      refine w7_ticks_19 ?_
      rw [z_le (by omega) (by omega)]
      refine ⟨fun _ => by omega, fun _ => ?_⟩
      refine c7_pass zm6 (by omega) (by omega) hMg t1 t2 (fun g2 hMg2 hFg2 => ?_)
      have e := ih (k + 1) g2 _ (by omega) hMg2 (hF.tr hFg2)
      rw [show ((k + 1 : Nat) : Int) = (k : Int) + 1 by omega, ← z_add, ← z1] at e
      exact e
  exact loop n 0 h2 C (Nat.zero_add _) hM2 hF2.K
theorem c7_loop {L x m u lo : Int} (hL1 : i32 L) (hx : i32 x) (hm : i32 m) (hu : i32 u) (hlo : i32 lo) (hM : MR h S R C) (hS : okS S) (hW : WF R) (hL : LayOK R C0) (hq : ∀ h2, MR h2 (recI S R (spL R L x m u lo).2) (spL R L x m u lo).1 C → FrK h h2 → Q (vI (zI (spL R L x m u lo).2)) h2) : mC M7_loop [.inr (.inr (some (20, 0, 0))), .inl (zI L), .inl (zI x), .inl (zI m), .inl (zI u), .inl (zI lo)] h Q := by
  have hb := hW.l
  have hbc := hW.c
  have hbad : ¬ ((0 ≤ L ∧ L ≤ 1) ∧ (1 ≤ m ∧ m ≤ 3) ∧ (0 ≤ x ∧ x ≤ 40 - m) ∧ okB u lo) → Q (vI (zI (-2))) h := fun n => by
    unfold spL at hq
    rw [if_neg n] at hq
    exact hq h hM FrK.rf
  refine w7_loop ?_
  rw [zm2, zm4, z0, z1, zc.2.1, zc.2.2.2.2.1, z40]
  refine c7_in hL1 (by omega) (by omega) ?_
  show (zI _ = zI 0 → Q (vI (zI (-2))) h) ∧ (¬ zI _ = zI 0 → mC _ _ h _)
  rw [zb_ne0]
  refine ⟨fun q => hbad (by omega), fun q1 => ?_⟩
  refine c7_in hm (by omega) (by omega) ?_
  show (zI _ = zI 0 → Q (vI (zI (-2))) h) ∧ (¬ zI _ = zI 0 → mC _ [_, _, .inl (zI 40 - zI m)] h _)
  rw [zb_ne0, z_sub]
  refine ⟨fun q => hbad (by omega), fun q2 => ?_⟩
  refine c7_in hx (by omega) (by omega) ?_
  show (zI _ = zI 0 → Q (vI (zI (-2))) h) ∧ (¬ zI _ = zI 0 → mC _ _ h _)
  rw [zb_ne0]
  refine ⟨fun q => hbad (by omega), fun q3 => ?_⟩
  refine c7_areBounds hu hlo ?_
  show (¬ zI _ = zI 0 → _) ∧ (zI _ = zI 0 → Q (vI (zI (-2))) h)
  rw [zb_ne0]
  refine ⟨fun q4 => ⟨vin 3 470 (by omega) (by omega) (by decide), ?_⟩, fun q => hbad (fun z => q z.2.2.2)⟩
  have hall : (0 ≤ L ∧ L ≤ 1) ∧ (1 ≤ m ∧ m ≤ 3) ∧ (0 ≤ x ∧ x ≤ 40 - m) ∧ okB u lo := ⟨by omega, by omega, by omega, Decidable.not_not.mp q4⟩
  have e3z : h.1 21 0 0 ((zI 3).toNatClampNeg) = zI (R 3) := hM.1 3 (by omega)
  rw [e3z, z_eq (by omega) (by omega)]
  unfold spL at hq
  rw [if_pos hall] at hq
  refine ⟨fun q => ?_, fun q => ?_⟩
  · rw [if_pos (by omega)] at hq
    unfold recI at hq
    rw [if_pos (by show 0 ≤ R 3; omega)] at hq
    obtain ⟨n, hn⟩ : ∃ n : Nat, R 3 = n := ⟨(R 3).toNat, by omega⟩
    have eT : (R 3).toNat = n := by omega
    obtain ⟨w1, w2, f3, f⟩ := newL_ok hW hL hall (by omega)
    rw [eT] at hq f
    refine c7_record hM hS (fun h2 hM2 hF2 => ⟨vin 3 470 (by omega) (by omega) (by decide), vin 3 470 (by omega) (by omega) (by decide), vin 3 470 (by omega) (by omega) (by decide), ?_⟩)
    have e3y : h2.1 21 0 0 ((zI 3).toNatClampNeg) = zI (R 3) := hM2.1 3 (by omega)
    rw [e3y, hn, z_add]
    have hM3 : MR (pI h2 21 0 0 ((zI 3).toNatClampNeg) (zI ((n : Int) + 1))) (recS S R) (up R 3 ((n : Int) + 1)) C := hM2.row
    refine c7_bookL (c := n) (j := 0) (k := 10 + 10 * n) rfl (by decide) rfl hM3 (by omega) (by omega) (fun g1 hG1 hE1 => ?_)
    refine c7_bookL (c := n) (j := 1) (k := 11 + 10 * n) rfl (by decide) rfl hG1 (by omega) (by omega) (fun g2 hG2 hE2 => ?_)
    refine c7_bookL (c := n) (j := 2) (k := 12 + 10 * n) rfl (by decide) rfl hG2 (by omega) (by omega) (fun g3 hG3 hE3 => ?_)
    refine c7_bookL (c := n) (j := 3) (k := 13 + 10 * n) rfl (by decide) rfl hG3 (by omega) (by omega) (fun g4 hG4 hE4 => ?_)
    refine c7_bookL (c := n) (j := 4) (k := 14 + 10 * n) rfl (by decide) rfl hG4 (by omega) (by omega) (fun g5 hG5 hE5 => ?_)
    have hF5 : FrK h g5 := hF2.K.tr (FrK.tr (FrK.put (by omega)) (hE1.K.tr (hE2.K.tr (hE3.K.tr (hE4.K.tr hE5.K)))))
    have hG : MR g5 (recS S R) (newL R L x m u lo) C := by
      refine hG5.eqv (fun k hk => ?_) (fun _ _ => rfl)
      unfold newL
      rw [eT, hn]
      unfold up
      try dsimp only
      (repeat' split) <;> first | rfl | omega
    have e4 : newL R L x m u lo 4 = R 4 := f 4 (by omega) (by omega)
    have loop : ∀ (k c : Nat) (g : mH), c + k = (R 4).toNat → MR g (recS S R) (ovA (newL R L x m u lo) n c) C → FrK h g → mE M7_loop 124 [vR 20 0 0, vU, vU, vU, vU, vU, vI (zI n), vI (zI c)] [] g Q := by
      intro k
      induction k with
      | zero =>
        intro c g hc hMg hF
        have e4c : ovA (newL R L x m u lo) n c 4 = R 4 := by rw [ovA_ne (fun c hc => by omega), e4]
        refine w7_loop_124 ⟨vin 4 470 (by omega) (by omega) (by decide), ?_⟩
        rw [mr4 hMg, e4c, z_le (by omega) (by omega)]
        rw [Nat.add_zero] at hc
        rw [hc] at hMg
        refine ⟨fun _ => ?_, fun _ => by omega⟩
        rw [hn] at hq
        exact hq g hMg hF
      | succ k ih =>
        intro c g hc hMg hF
        obtain ⟨o1, o2⟩ := ovA_ok w1 w2 (l := n) (by omega) c (by rw [e4]; omega)
        have e4c : ovA (newL R L x m u lo) n c 4 = R 4 := by rw [ovA_ne (fun c hc => by omega), e4]
        have e3c : ovA (newL R L x m u lo) n c 3 = R 3 + 1 := by rw [ovA_ne (fun c hc => by omega), f3]
        have wcc := o1.2.1 c (by omega)
        have h79 : 0 ≤ ovA (newL R L x m u lo) n c (79 + 10 * c) ∧ ovA (newL R L x m u lo) n c (79 + 10 * c) < 64 := ⟨wcc.2.2.2.2.2.2.2.2.2.2.2.2.1, wcc.2.2.2.2.2.2.2.2.2.2.2.2.2⟩
        refine w7_loop_124 ⟨vin 4 470 (by omega) (by omega) (by decide), ?_⟩
        rw [mr4 hMg, e4c, z_le (by omega) (by omega)]
        refine ⟨fun _ => by omega, fun _ => ?_⟩
        refine c7_ofC (c := c) (j := 9) (k := 79 + 10 * c) rfl (by decide) hMg (by omega) (by omega) ?_
        refine c7_isOver rfl rfl hMg (by omega) (by omega) wcc (o1.2.2.1 n (by omega)) ?_
        have e := ih (c + 1)
        rw [ovA_s, show ((c + 1 : Nat) : Int) = (c : Int) + 1 by omega, ← z_add, ← z1] at e
        unfold ovB at e
        have hbit := bit_orA ⟨n, by omega⟩ ⟨(ovA (newL R L x m u lo) n c (79 + 10 * c)).toNat, by omega⟩
        have hb0 := bit_or0 ⟨(ovA (newL R L x m u lo) n c (79 + 10 * c)).toNat, by omega⟩
        dsimp only at hbit hb0
        rw [Int.toNat_of_nonneg h79.1] at hbit hb0
        show (zI _ = 0 → mC _ [_, _, _, .inl (zI _ ||| 0)] g _) ∧ (¬ zI _ = 0 → mC _ [_, _, _, .inl (zI _ ||| (1 <<< (zI n &&& 31)))] g _)
        rw [zb_ne, hbit, hb0]
        refine ⟨fun y => ?_, fun y => ?_⟩
        · rw [if_neg y] at e
          exact c7_bookC (c := c) (j := 9) (k := 79 + 10 * c) rfl (by decide) rfl hMg (by omega) (by omega) (fun g6 hM6 hF6 => e g6 (by omega) hM6 (hF.tr hF6.K))
        · rw [if_pos (Decidable.not_not.mp y)] at e
          exact c7_bookC (c := c) (j := 9) (k := 79 + 10 * c) rfl (by decide) rfl hMg (by omega) (by omega) (fun g6 hM6 hF6 => e g6 (by omega) hM6 (hF.tr hF6.K))
    exact loop (R 4).toNat 0 g5 (Nat.zero_add _) hG hF5
  · rw [if_neg (by omega)] at hq
    exact hq h hM FrK.rf
theorem c7_come {L len sp me : Int} (hL1 : i32 L) (hx : i32 len) (hm : i32 sp) (hu : i32 me) (hM : MR h S R C) (hS : okS S) (hW : WF R) (hL : LayOK R C0) (hq : ∀ h2 C2, MR h2 (recI S R (spC R C0 L len sp me).2) (spC R C0 L len sp me).1.1 C2 → FrK h h2 → Q (vI (zI (spC R C0 L len sp me).2)) h2) : mC M7_come [.inr (.inr (some (20, 0, 0))), .inl (zI L), .inl (zI len), .inl (zI sp), .inl (zI me)] h Q := by
  have hb := hW.c
  have hbad : ¬ ((0 ≤ L ∧ L ≤ 1) ∧ (1 ≤ len ∧ len ≤ 4) ∧ (1 ≤ sp ∧ sp ≤ 4) ∧ (1 ≤ me ∧ me ≤ 9)) → Q (vI (zI (-2))) h := fun n => by
    unfold spC at hq
    rw [if_neg n] at hq
    exact hq h C hM FrK.rf
  refine w7_come ?_
  rw [zm2, zm4, zm5, z0, z1, zc.2.2.2.2.2.2.2.1, z40]
  refine c7_in hL1 (by omega) (by omega) ?_
  show (zI _ = zI 0 → Q (vI (zI (-2))) h) ∧ (¬ zI _ = zI 0 → mC _ [_, _, .inl 4] h _)
  rw [zb_ne0, z4]
  refine ⟨fun q => hbad (by omega), fun q1 => ?_⟩
  refine c7_in hx (by omega) (by omega) ?_
  show (zI _ = zI 0 → Q (vI (zI (-2))) h) ∧ (¬ zI _ = zI 0 → mC _ _ h _)
  rw [zb_ne0]
  refine ⟨fun q => hbad (by omega), fun q2 => ?_⟩
  refine c7_in hm (by omega) (by omega) ?_
  show (zI _ = zI 0 → Q (vI (zI (-2))) h) ∧ (¬ zI _ = zI 0 → mC _ _ h _)
  rw [zb_ne0]
  refine ⟨fun q => hbad (by omega), fun q3 => ?_⟩
  refine c7_in hu (by omega) (by omega) ?_
  show (¬ zI _ = zI 0 → _) ∧ (zI _ = zI 0 → Q (vI (zI (-2))) h)
  rw [zb_ne0]
  refine ⟨fun q4 => ⟨vin 4 470 (by omega) (by omega) (by decide), ?_⟩, fun q => hbad (fun z => q z.2.2.2)⟩
  have hall : (0 ≤ L ∧ L ≤ 1) ∧ (1 ≤ len ∧ len ≤ 4) ∧ (1 ≤ sp ∧ sp ≤ 4) ∧ (1 ≤ me ∧ me ≤ 9) := ⟨by omega, by omega, by omega, by omega⟩
  have e4z : h.1 21 0 0 ((zI 4).toNatClampNeg) = zI (R 4) := hM.1 4 (by omega)
  rw [e4z, z_eq (by omega) (by omega)]
  unfold spC at hq
  rw [if_pos hall] at hq
  refine ⟨fun q => ?_, fun q => ?_⟩
  · rw [if_pos (by omega)] at hq
    refine c7_layCells hM hW hL (fun h1 hM1 hF1 => ?_)
    refine c7_isFree rfl rfl hM1 (by omega) (by omega) (Lay_i32 hb hL) ?_
    have hfc : freeP C0 L 0 ↔ C0 (40 * L).toNat < 0 := by
      unfold freeP
      rw [Int.add_zero]
      omega
    show (¬ zI _ = zI 0 → _) ∧ (zI _ = zI 0 → Q (vI (zI (-5))) h1)
    rw [zb_ne0]
    refine ⟨fun y => ?_, fun y => ?_⟩
    · have hfree := hfc.mp (Decidable.not_not.mp y)
      rw [if_pos hfree] at hq
      unfold recI at hq
      rw [if_pos (by show 0 ≤ R 4; omega)] at hq
      obtain ⟨n, hn⟩ : ∃ n : Nat, R 4 = n := ⟨(R 4).toNat, by omega⟩
      have eT : (R 4).toNat = n := by omega
      refine c7_record hM1 hS (fun h2 hM2 hF2 => ⟨vin 4 470 (by omega) (by omega) (by decide), vin 4 470 (by omega) (by omega) (by decide), vin 4 470 (by omega) (by omega) (by decide), ?_⟩)
      have e4y : h2.1 21 0 0 ((zI 4).toNatClampNeg) = zI (R 4) := hM2.1 4 (by omega)
      rw [e4y, hn, z_add]
      have hM3 : MR (pI h2 21 0 0 ((zI 4).toNatClampNeg) (zI ((n : Int) + 1))) (recS S R) (up R 4 ((n : Int) + 1)) C0 := hM2.row
      refine c7_bookC (c := n) (j := 0) (k := 70 + 10 * n) rfl (by decide) rfl hM3 (by omega) (by omega) (fun g1 hG1 hE1 => ?_)
      refine c7_bookC (c := n) (j := 2) (k := 72 + 10 * n) rfl (by decide) rfl hG1 (by omega) (by omega) (fun g2 hG2 hE2 => ?_)
      refine c7_bookC (c := n) (j := 3) (k := 73 + 10 * n) rfl (by decide) rfl hG2 (by omega) (by omega) (fun g3 hG3 hE3 => ?_)
      refine c7_bookC (c := n) (j := 4) (k := 74 + 10 * n) rfl (by decide) rfl hG3 (by omega) (by omega) (fun g4 hG4 hE4 => ?_)
      rw [hn] at hq
      refine hq g4 C0 (hG4.eqv (fun k hk => ?_) (fun _ _ => rfl)) (hF1.K.tr (hF2.K.tr (FrK.tr (FrK.put (by omega)) (hE1.K.tr (hE2.K.tr (hE3.K.tr hE4.K))))))
      unfold newC
      rw [eT, hn]
      unfold up
      dsimp only
      (repeat' split) <;> first | rfl | omega
    · rw [if_neg (fun z => y (hfc.mpr z))] at hq
      exact hq h1 C0 hM1 hF1.K
  · rw [if_neg (by omega)] at hq
    exact hq h C hM FrK.rf
end REFC
