/-! the reference: bestTurn, goneIn -/
theorem sa_s {R : rw_} {l : Nat} : saF R (l + 1) = saF R l + amF (zI (R (16 + 10 * l) - R (17 + 10 * l))) := rfl
section REFB
variable {h : mH} {Q : mV → mH → Prop} {R C C0 : rw_} {S : Nat → rw_}
theorem c7_bestTurn {t : Int} (ht : i32 t) (hM : MR h S R C) (hW : WF R) (hL : LayOK R C0) (hq : ∀ h2 S2 C2, Kp S S2 → MR h2 S2 R C2 → FrK h h2 → Q (vI (zI (btF R C0 t))) h2) : mC M7_bestTurn [.inr (.inr (some (20, 0, 0))), .inl (zI t)] h Q := by
  have hb := hW.l
  refine w7_bestTurn ?_
  unfold btF at hq
  rw [zm6, zm2, z1, z100]
  refine c7_in ht (by omega) (by omega) ?_
  show (¬ zI _ = 0 → mC M7_keep [.inr (.inr (some (20, 0, 0)))] h (kV (fun h708 => mE M7_bestTurn 25 [vR 20 0 0, vI (zI t), vI (zI (-6)), vI 0, vI (zI 1), vU, vU] [] h708 Q))) ∧ (zI _ = 0 → Q (vI (zI (-2))) h)
  rw [zb_ne]
  refine ⟨fun q2 => ?_, fun q2 => ?_⟩
  · have q2 := Decidable.not_not.mp q2
    rw [if_pos q2] at hq
    obtain ⟨n, rfl⟩ : ∃ n : Nat, t = n := ⟨t.toNat, by omega⟩
    rw [Int.toNat_natCast] at hq
    refine c7_keep hM (fun h1 S1 k1 k2 hM1 hF1 => ?_)
    have inner : ∀ (u : Nat) (best : Int) (least : Int32), 1 ≤ u → u ≤ 5 → (∀ (g2 : mH) (C2 : rw_), MR g2 S1 R C2 → FrK h g2 → (zI best < 0 → mE M7_bestTurn 25 [vR 20 0 0, vI (zI n), vI (zI u), vI (ownT R C0 n u), vI (zI ((u + 1 : Nat) : Int)), vU, vU] [] g2 Q) ∧ (¬ zI best < 0 → (least ≤ ownT R C0 n u → mE M7_bestTurn 25 [vR 20 0 0, vI (zI n), vI (zI best), vI least, vI (zI ((u + 1 : Nat) : Int)), vU, vU] [] g2 Q) ∧ (¬ least ≤ ownT R C0 n u → mE M7_bestTurn 25 [vR 20 0 0, vI (zI n), vI (zI u), vI (ownT R C0 n u), vI (zI ((u + 1 : Nat) : Int)), vU, vU] [] g2 Q))) → ∀ (m k : Nat) (g : mH) (C1 : rw_), k + m = n → MR g S1 (tkN (up R 1 u) C0 k).1 C1 → FrK h g → mE M7_bestTurn 43 [vR 20 0 0, vI (zI n), vI (zI best), vI least, vI (zI u), vI (zI k), vU] [] g Q := by
      intro u best least u1 u2 cont m
      obtain ⟨o1, o2⟩ := set01_ok hW hL (k := 1) (v := u) (Or.inr ⟨rfl, by omega, by omega⟩)
      have e3 : up R 1 u 3 = R 3 := up_ne (by omega)
      induction m with
      | zero =>
        intro k g C1 hk hMg hF
        have p3 := (tk_lo o1 o2 k).1
        refine w7_bestTurn_43 ?_
        rw [z_le (by omega) (by omega)]
        refine ⟨fun _ => ?_, fun _ => by omega⟩
        have sum : ∀ (d l : Nat), l + d = (R 3).toNat → mE M7_bestTurn 67 [vR 20 0 0, vI (zI n), vI (zI best), vI least, vI (zI u), vI (saF (tkN (up R 1 u) C0 k).1 l), vI (zI l)] [] g Q := by
          intro d
          induction d with
          | zero =>
            intro l hl
            refine w7_bestTurn_67 ⟨vin 3 470 (by omega) (by omega) (by decide), ?_⟩
            rw [mr3 hMg, p3, e3, z_le (by omega) (by omega)]
            refine ⟨fun _ => ?_, fun _ => by omega⟩
            refine c7_comeBack hMg k2 (fun g2 hM2 hF2 => ?_)
            have e := cont g2 C1 hM2 (hF.tr hF2.K)
            unfold ownT at e
            rw [show ((u + 1 : Nat) : Int) = (u : Int) + 1 by omega, ← z_add, ← z1] at e
            rw [show k = n by omega, show l = (R 3).toNat by omega]
            exact e
          | succ d ihd =>
            intro l hl
            refine w7_bestTurn_67 ⟨vin 3 470 (by omega) (by omega) (by decide), ?_⟩
            rw [mr3 hMg, p3, e3, z_le (by omega) (by omega)]
            refine ⟨fun _ => by omega, fun _ => ?_⟩
            refine c7_errorOf rfl hMg (by omega) ?_
            refine c7_amount ?_
            have e := ihd (l + 1) (by omega)
            rw [sa_s, show ((l + 1 : Nat) : Int) = (l : Int) + 1 by omega, ← z_add, ← z1] at e
            exact e
        exact sum (R 3).toNat 0 (Nat.zero_add _)
      | succ m ih =>
        intro k g C1 hk hMg hF
        obtain ⟨p1, p2⟩ := tk_ok o1 o2 k
        have p3 := (tk_lo o1 o2 k).1
        refine w7_bestTurn_43 ?_
        rw [z_le (by omega) (by omega)]
        refine ⟨fun _ => by omega, fun _ => ?_⟩
        refine c7_pass zm6 (by omega) (by omega) hMg p1 p2 (fun g2 hMg2 hFg2 => ?_)
        have e := ih (k + 1) g2 _ (by omega) hMg2 (hF.tr hFg2)
        rw [show ((k + 1 : Nat) : Int) = (k : Int) + 1 by omega, ← z_add, ← z1] at e
        exact e
    have step : ∀ (u : Nat) (best : Int) (least : Int32) (g : mH) (C1 : rw_), 1 ≤ u → u ≤ 5 → MR g S1 R C1 → FrK h g → (∀ (g2 : mH) (C2 : rw_), MR g2 S1 R C2 → FrK h g2 → (zI best < 0 → mE M7_bestTurn 25 [vR 20 0 0, vI (zI n), vI (zI u), vI (ownT R C0 n u), vI (zI ((u + 1 : Nat) : Int)), vU, vU] [] g2 Q) ∧ (¬ zI best < 0 → (least ≤ ownT R C0 n u → mE M7_bestTurn 25 [vR 20 0 0, vI (zI n), vI (zI best), vI least, vI (zI ((u + 1 : Nat) : Int)), vU, vU] [] g2 Q) ∧ (¬ least ≤ ownT R C0 n u → mE M7_bestTurn 25 [vR 20 0 0, vI (zI n), vI (zI u), vI (ownT R C0 n u), vI (zI ((u + 1 : Nat) : Int)), vU, vU] [] g2 Q))) → mE M7_bestTurn 25 [vR 20 0 0, vI (zI n), vI (zI best), vI least, vI (zI u), vU, vU] [] g Q := by
      intro u best least g C1 u1 u2 hMg hF cont
      refine w7_bestTurn_25 ?_
      rw [z470.2.2.1, z_le (by omega) (by omega)]
      refine ⟨fun _ => by omega, fun _ => ⟨vin 1 470 (by omega) (by omega) (by decide), ?_⟩⟩
      exact inner u best least u1 u2 cont n 0 _ C1 (Nat.zero_add _) (hMg.row (k := 1) (v := u)) (hF.tr (FrK.put (by omega)))
    have loop : ∀ (m i : Nat) (g : mH) (C1 : rw_), 1 + i + m = 5 → MR g S1 R C1 → FrK h g → mE M7_bestTurn 25 [vR 20 0 0, vI (zI n), vI (zI (((seF (ownT R C0 n) 1 i).1 : Nat) : Int)), vI (seF (ownT R C0 n) 1 i).2, vI (zI ((1 + i + 1 : Nat) : Int)), vU, vU] [] g Q := by
      intro m
      induction m with
      | zero =>
        intro i g C1 hi hMg hF
        refine w7_bestTurn_25 ?_
        rw [z470.2.2.1, z_le (by omega) (by omega)]
        refine ⟨fun _ => ?_, fun _ => by omega⟩
        rw [show (4 : Nat) = i by omega] at hq
        exact hq g S1 C1 k1 hMg hF
      | succ m ih =>
        intro i g C1 hi hMg hF
        have r := se_rng (own := ownT R C0 n) (u0 := 1) i
        refine step (1 + i + 1) _ _ g C1 (by omega) (by omega) hMg hF (fun g2 C2 hM2 hF2 => ?_)
        have e := ih (i + 1) g2 C2 (by omega) hM2 hF2
        rw [se_s] at e
        rw [z0, z_lt (by omega) (by omega)]
        refine ⟨fun z => by omega, fun _ => ⟨fun y => ?_, fun y => ?_⟩⟩
        · rw [if_pos y] at e; exact e
        · rw [if_neg y] at e; exact e
    refine step 1 (-6) 0 h1 C (Nat.le_refl _) (by omega) hM1 hF1.K (fun g2 C2 hM2 hF2 => ?_)
    rw [z0, z_lt (by omega) (by omega)]
    refine ⟨fun _ => ?_, fun z => by omega⟩
    exact loop 4 0 g2 C2 (by omega) hM2 hF2
  · rw [if_neg q2] at hq
    exact hq h S C Kp.rf hM FrK.rf
theorem go_s {c f n : Nat} : goS R C c (f + 1) n = if (tkN R C n).1 (75 + 10 * c) = 0 then goS R C c f (n + 1) else (n : Int) := rfl
theorem go_0 {c n : Nat} : goS R C c 0 n = if (tkN R C n).1 (75 + 10 * c) = 0 then (-6 : Int) else (n : Int) := rfl
theorem c7_goneIn {a : Int} (ha : i32 a) (hM : MR h S R C) (hW : WF R) (hL : LayOK R C0) (hq : ∀ h2 S2 C2, Kp S S2 → MR h2 S2 R C2 → FrK h h2 → Q (vI (zI (giF R C0 a))) h2) : mC M7_goneIn [.inr (.inr (some (20, 0, 0))), .inl (zI a)] h Q := by
  have hb := hW.c
  have hb3 := hW.l
  refine w7_goneIn (c7_isCar rfl ha hM hW ?_)
  unfold giF at hq
  show (¬ zI _ = 0 → mC M7_keep [.inr (.inr (some (20, 0, 0)))] h (kV (fun h717 => mE M7_goneIn 16 [vR 20 0 0, vI (zI a), vI 0, vU] [] h717 Q))) ∧ (zI _ = 0 → Q (vI (-1)) h)
  rw [zb_ne, zm1]
  refine ⟨fun q => ?_, fun q => ?_⟩
  · have q := Decidable.not_not.mp q
    rw [if_pos q] at hq
    obtain ⟨c, rfl⟩ : ∃ c : Nat, a = c := ⟨a.toNat, by omega⟩
    rw [Int.toNat_natCast] at hq
    refine c7_keep hM (fun h1 S1 k1 k2 hM1 hF1 => ?_)
    have loop : ∀ (m k : Nat) (g : mH) (C1 : rw_), k + m = 200 → goS R C0 c m k = goS R C0 c 200 0 → MR g S1 (tkN R C0 k).1 C1 → FrK h g → mE M7_goneIn 16 [vR 20 0 0, vI (zI c), vI (zI k), vU] [] g Q := by
      intro m
      induction m with
      | zero =>
        intro k g C1 hk hg hMg hF
        obtain ⟨p1, p2⟩ := tk_ok hW hL k
        have p4 := (tk_lo hW hL k).2.1
        have wc := p1.2.1 c (by omega)
        unfold WFc at wc
        refine w7_goneIn_16 ?_
        rw [zm6, zc.2.2.2.2.2.2.2.2.2.1, z_le (by omega) (by omega)]
        refine ⟨fun _ => c7_isOn rfl hMg (by omega) wc.2.2.2.2.2.2.2.2.2.1 ?_, fun _ => by omega⟩
        show (zI _ = 0 → mC _ _ g (kV (fun h720 => Q (vI (zI k)) h720))) ∧ (¬ zI _ = 0 → mC _ _ g (kV (fun h721 => Q (vI (zI (-6))) h721)))
        rw [zb_ne]
        rw [go_0] at hg
        refine ⟨fun q2 => c7_comeBack hMg k2 (fun g2 hM2 hF2 => ?_), fun q2 => c7_comeBack hMg k2 (fun g2 hM2 hF2 => ?_)⟩
        · rw [if_neg q2] at hg
          rw [← hg] at hq
          exact hq g2 S1 C1 k1 hM2 (hF.tr hF2.K)
        · rw [if_pos (Decidable.not_not.mp q2)] at hg
          rw [← hg] at hq
          exact hq g2 S1 C1 k1 hM2 (hF.tr hF2.K)
      | succ m ih =>
        intro k g C1 hk hg hMg hF
        obtain ⟨p1, p2⟩ := tk_ok hW hL k
        have p4 := (tk_lo hW hL k).2.1
        have p3 := (tk_lo hW hL k).1
        have wc := p1.2.1 c (by omega)
        unfold WFc at wc
        refine w7_goneIn_16 ?_
        rw [zm6, zc.2.2.2.2.2.2.2.2.2.1, z_le (by omega) (by omega)]
        refine ⟨fun _ => by omega, fun _ => c7_isOn rfl hMg (by omega) wc.2.2.2.2.2.2.2.2.2.1 ?_⟩
        show (zI _ = 0 → mC _ _ g (kI (fun x725 h724 => (x725 = 0 → mC M7_comeBack [.inr (.inr (some (20, 0, 0)))] h724 (kV (fun h726 => Q (vI (zI k)) h726))) ∧ (¬ x725 = 0 → mC M7_comeBack [.inr (.inr (some (20, 0, 0)))] h724 (kV (fun h727 => Q (vI (zI (-6))) h727)))))) ∧ (¬ zI _ = 0 → mC _ _ g (kV (fun h728 => mE M7_goneIn 16 [vR 20 0 0, vI (zI c), vI (zI k + 1), vU] [] h728 Q)))
        rw [zb_ne]
        rw [go_s] at hg
        refine ⟨fun q2 => c7_isOn rfl hMg (by omega) wc.2.2.2.2.2.2.2.2.2.1 ?_, fun q2 => ?_⟩
        · show (zI _ = 0 → mC _ _ g (kV (fun h726 => Q (vI (zI k)) h726))) ∧ (¬ zI _ = 0 → mC _ _ g (kV (fun h727 => Q (vI (zI (-6))) h727)))
          rw [zb_ne]
          refine ⟨fun _ => c7_comeBack hMg k2 (fun g2 hM2 hF2 => ?_), fun z => absurd (Decidable.not_not.mp z) q2⟩
          rw [if_neg q2] at hg
          rw [← hg] at hq
          exact hq g2 S1 C1 k1 hM2 (hF.tr hF2.K)
        · rw [if_pos (Decidable.not_not.mp q2)] at hg
          refine c7_pass rfl (by omega) (by omega) hMg p1 p2 (fun g2 hMg2 hFg2 => ?_)
          have e := ih (k + 1) g2 _ (by omega) hg hMg2 (hF.tr hFg2)
          rw [show ((k + 1 : Nat) : Int) = (k : Int) + 1 by omega, ← z_add, ← z1] at e
          exact e
    exact loop 200 0 h1 C (by omega) rfl hM1 hF1.K
  · rw [if_neg q] at hq
    exact hq h S C Kp.rf hM FrK.rf
end REFB
