/-! the reference: what-ifs -/
def Kp (S S2 : Nat → rw_) : Prop := ∀ k, k ≠ 22 → S2 k = S k
theorem Kp.rf {S : Nat → rw_} : Kp S S := fun _ _ => rfl
def cnF (R C : rw_) (a t w : Int) : Int := if 0 ≤ a ∧ a < R 3 then (if 1 ≤ t ∧ t ≤ 100 then (alN R C w t.toNat).1 (16 + 10 * a.toNat) else -2) else -1
/-- the best of some numbers, the lowest of the best -/
def seF (own : Nat → Int32) (u0 : Nat) : Nat → Nat × Int32
  | 0 => (u0, own u0)
  | n + 1 => if (seF own u0 n).2 ≤ own (u0 + n + 1) then seF own u0 n else (u0 + n + 1, own (u0 + n + 1))
theorem se_s {own : Nat → Int32} {u0 n : Nat} : seF own u0 (n + 1) = if (seF own u0 n).2 ≤ own (u0 + n + 1) then seF own u0 n else (u0 + n + 1, own (u0 + n + 1)) := rfl
theorem se_rng {own : Nat → Int32} {u0 : Nat} : ∀ n, u0 ≤ (seF own u0 n).1 ∧ (seF own u0 n).1 ≤ u0 + n := by
  intro n
  induction n with
  | zero => exact ⟨Nat.le_refl u0, Nat.le_refl u0⟩
  | succ n ih =>
    rw [se_s]
    split
    · exact ⟨ih.1, Nat.le_succ_of_le ih.2⟩
    · exact ⟨by dsimp only; omega, by dsimp only; omega⟩
def ownU (R C : rw_) (a t : Nat) (u : Nat) : Int32 := amF (zI ((tkN (up R (13 + 10 * a) u) C t).1 (16 + 10 * a) - (tkN (up R (13 + 10 * a) u) C t).1 (17 + 10 * a)))
def buF (R C : rw_) (a t : Int) : Int := if 0 ≤ a ∧ a < R 3 then (if 1 ≤ t ∧ t ≤ 100 then ((seF (ownU R C a.toNat t.toNat) (R (14 + 10 * a.toNat)).toNat (200 - (R (14 + 10 * a.toNat)).toNat)).1 : Nat) else -2) else -1
def ownT (R C : rw_) (t : Nat) (u : Nat) : Int32 := saF (tkN (up R 1 u) C t).1 (R 3).toNat
def btF (R C : rw_) (t : Int) : Int := if 1 ≤ t ∧ t ≤ 100 then ((seF (ownT R C t.toNat) 1 4).1 : Nat) else -2
def goS (R C : rw_) (c : Nat) : Nat → Nat → Int
  | 0, n => if (tkN R C n).1 (75 + 10 * c) = 0 then -6 else n
  | f + 1, n => if (tkN R C n).1 (75 + 10 * c) = 0 then goS R C c f (n + 1) else n
def giF (R C : rw_) (a : Int) : Int := if 0 ≤ a ∧ a < R 4 then goS R C a.toNat 200 0 else -1
theorem upU_ok {R C : rw_} (hW : WF R) (hL : LayOK R C) {a : Nat} (ha : (a : Int) < R 3) {u : Int} (h1 : R (14 + 10 * a) ≤ u) (h2 : u ≤ 200) : WF (up R (13 + 10 * a) u) ∧ LayOK (up R (13 + 10 * a) u) C := by
  have w := hW.2.2.1 a ha
  unfold WFl at w
  have e := spB_ok hW hL a u (R (14 + 10 * a))
  unfold spB at e
  rw [if_pos ⟨by omega, ha⟩, if_pos ⟨by omega, by omega, by omega, by omega⟩, Int.toNat_natCast] at e
  have q : up (up R (13 + 10 * a) u) (14 + 10 * a) (R (14 + 10 * a)) = up R (13 + 10 * a) u := funext fun k => by
    by_cases q : k = 14 + 10 * a
    · rw [q, up_at, up_ne (by omega)]
    · rw [up_ne q]
  dsimp only at e
  rw [q] at e
  exact e
section REFW
variable {h : mH} {Q : mV → mH → Prop} {R C C0 : rw_} {S : Nat → rw_}
theorem MR.kept (hM : MR h S R C) (s : Nat) (hs : s < 470) : h.1 22 0 0 s = zI (S 22 s) := hM.2.2 22 s (by decide) (by decide) (by decide) (by decide) (by decide) hs
theorem c7_keep (hM : MR h S R C) (hq : ∀ h2 S2, Kp S S2 → (∀ k, k < 470 → S2 22 k = R k) → MR h2 S2 R C → FrC h h2 → Q vU h2) : mC M7_keep [.inr (.inr (some (20, 0, 0)))] h Q := by
  have loop : ∀ (n k : Nat) (g : mH), k + n = 470 → MR g (sU S 22 (fun i => if i < k then R i else S 22 i)) R C → FrC h g → mE M7_keep 2 [vR 20 0 0, vI (zI k)] [] g Q := by
    intro n
    induction n with
    | zero =>
      intro k g hk hMg hF
      refine w7_keep_2 ?_
      rw [z470.1, z_le (by omega) (by omega)]
      refine ⟨fun _ => hq g _ (fun j hj => sU_ne hj) (fun j hj => ?_) hMg hF, fun _ => by omega⟩
      rw [sU_at, if_pos (by omega)]
    | succ n ih =>
      intro k g hk hMg hF
      refine w7_keep_2 ?_
      rw [z470.1, z1, z_add, z_le (by omega) (by omega), z_clamp (by omega) (by omega), Int.toNat_natCast, hMg.1 k (by omega)]
      refine ⟨fun _ => by omega, fun _ => ⟨z_in (by omega) (by omega) (by omega), z_in (by omega) (by omega) (by omega), ?_⟩⟩
      rw [show (k : Int) + 1 = ((k + 1 : Nat) : Int) by omega]
      refine ih (k + 1) _ (by omega) (MR.eqS (hMg.oth (k := 22) (by decide) (by decide)) (fun k2 s _ _ _ _ _ _ => ?_)) (hF.tr (FrC.put (by omega)))
      by_cases y : k2 = 22
      · subst y
        rw [sU_at, sU_at, sU_at]
        by_cases q2 : s = k
        · rw [q2, if_pos (by omega), up_at]
        · rw [up_ne q2]
          by_cases q3 : s < k
          · rw [if_pos q3, if_pos (by omega)]
          · rw [if_neg q3, if_neg (by omega)]
      · rw [sU_ne y, sU_ne y, sU_ne y]
  refine w7_keep (loop 470 0 h (by omega) (hM.eqS (fun k2 s _ _ _ _ _ _ => ?_)) FrC.rf)
  by_cases y : k2 = 22
  · subst y
    rw [sU_at, if_neg (by omega)]
  · rw [sU_ne y]
theorem c7_comeBack {X : rw_} (hM : MR h S X C) (hR : ∀ k, k < 470 → S 22 k = R k) (hq : ∀ h2, MR h2 S R C → FrC h h2 → Q vU h2) : mC M7_comeBack [.inr (.inr (some (20, 0, 0)))] h Q := by
  have loop : ∀ (n k : Nat) (g : mH), k + n = 470 → MR g S (fun i => if i < k then R i else X i) C → FrC h g → mE M7_comeBack 2 [vR 20 0 0, vI (zI k)] [] g Q := by
    intro n
    induction n with
    | zero =>
      intro k g hk hMg hF
      refine w7_comeBack_2 ?_
      rw [z470.1, z_le (by omega) (by omega)]
      refine ⟨fun _ => hq g (hMg.eqv (fun j hj => ?_) (fun _ _ => rfl)) hF, fun _ => by omega⟩
      rw [if_pos (by omega)]
    | succ n ih =>
      intro k g hk hMg hF
      refine w7_comeBack_2 ?_
      rw [z470.1, z1, z_add, z_le (by omega) (by omega), z_clamp (by omega) (by omega), Int.toNat_natCast, hMg.kept k (by omega), hR k (by omega)]
      refine ⟨fun _ => by omega, fun _ => ⟨z_in (by omega) (by omega) (by omega), z_in (by omega) (by omega) (by omega), ?_⟩⟩
      rw [show (k : Int) + 1 = ((k + 1 : Nat) : Int) by omega]
      refine ih (k + 1) _ (by omega) (hMg.row.eqv (fun j hj => ?_) (fun _ _ => rfl)) (hF.tr (FrC.put (by omega)))
      by_cases q2 : j = k
      · rw [q2, if_pos (by omega), up_at]
      · rw [up_ne q2]
        by_cases q3 : j < k
        · rw [if_pos q3, if_pos (by omega)]
        · rw [if_neg q3, if_neg (by omega)]
  refine w7_comeBack (loop 470 0 h (by omega) (hM.eqv (fun j hj => ?_) (fun _ _ => rfl)) FrC.rf)
  rw [if_neg (by omega)]
theorem c7_counted {a3 : Int32} {a t w : Int} (e3 : a3 = zI w) (ha : i32 a) (ht : i32 t) (hw : i32 w) (hw3 : 0 ≤ a → a < R 3 → w < R 3) (hM : MR h S R C) (hW : WF R) (hL : LayOK R C0) (hq : ∀ h2 S2 C2, Kp S S2 → MR h2 S2 R C2 → FrK h h2 → Q (vI (zI (cnF R C0 a t w))) h2) : mC M7_counted [.inr (.inr (some (20, 0, 0))), .inl (zI a), .inl (zI t), .inl a3] h Q := by
  subst e3
  have hb := hW.l
  refine w7_counted (c7_isLoop rfl ha hM hW ?_)
  unfold cnF at hq
  show (¬ zI _ = 0 → mC _ _ h (kI (fun x682 h681 => (¬ x682 = 0 → mC M7_keep [.inr (.inr (some (20, 0, 0)))] h681 (kV (fun h683 => mE M7_counted 30 [vR 20 0 0, vI (zI a), vI (zI t), vI (zI w), vI 0] [] h683 Q))) ∧ (x682 = 0 → Q (vI (-2)) h681)))) ∧ (zI _ = 0 → Q (vI (-1)) h)
  rw [zb_ne, zm1, zm2, z1, z100]
  refine ⟨fun q => ?_, fun q => ?_⟩
  · have q := Decidable.not_not.mp q
    rw [if_pos q] at hq
    obtain ⟨c, rfl⟩ : ∃ c : Nat, a = c := ⟨a.toNat, by omega⟩
    rw [Int.toNat_natCast] at hq
    refine c7_in ht (by omega) (by omega) ?_
    show (¬ zI _ = 0 → mC M7_keep [.inr (.inr (some (20, 0, 0)))] h (kV (fun h683 => mE M7_counted 30 [vR 20 0 0, vI (zI c), vI (zI t), vI (zI w), vI 0] [] h683 Q))) ∧ (zI _ = 0 → Q (vI (zI (-2))) h)
    rw [zb_ne]
    refine ⟨fun q2 => ?_, fun q2 => ?_⟩
    · have q2 := Decidable.not_not.mp q2
      rw [if_pos q2] at hq
      obtain ⟨n, rfl⟩ : ∃ n : Nat, t = n := ⟨t.toNat, by omega⟩
      rw [Int.toNat_natCast] at hq
      refine c7_keep hM (fun h1 S1 k1 k2 hM1 hF1 => ?_)
      have loop : ∀ (m k : Nat) (g : mH) (C1 : rw_), k + m = n → MR g S1 (alN R C0 w k).1 C1 → FrK h g → mE M7_counted 30 [vR 20 0 0, vI (zI c), vI (zI n), vI (zI w), vI (zI k)] [] g Q := by
        intro m
        induction m with
        | zero =>
          intro k g C1 hk hMg hF
          refine w7_counted_30 ?_
          rw [z_le (by omega) (by omega)]
          refine ⟨fun _ => c7_ofL (c := c) (j := 6) (k := 16 + 10 * c) rfl (by decide) hMg (by omega) (by omega) ?_, fun _ => by omega⟩
          refine c7_comeBack hMg k2 (fun g2 hM2 hF2 => ?_)
          rw [show k = n by omega]
          exact hq g2 S1 C1 k1 hM2 (hF.tr hF2.K)
        | succ m ih =>
          intro k g C1 hk hMg hF
          obtain ⟨o1, o2, o3, o4⟩ := al_ok (a := w) hW hL k
          have w3 := hw3 (by omega) q.2
          refine w7_counted_30 ?_
          rw [z_le (by omega) (by omega)]
          refine ⟨fun _ => by omega, fun _ => ?_⟩
          refine c7_pass rfl hw (by rw [o3]; exact w3) hMg o1 o2 (fun g2 hMg2 hFg2 => ?_)
          have e := ih (k + 1) g2 _ (by omega) hMg2 (hF.tr hFg2)
          rw [show ((k + 1 : Nat) : Int) = (k : Int) + 1 by omega, ← z_add, ← z1] at e
          exact e
      exact loop n 0 h1 C (Nat.zero_add _) hM1 hF1.K
    · rw [if_neg q2] at hq
      exact hq h S C Kp.rf hM FrK.rf
  · rw [if_neg q] at hq
    exact hq h S C Kp.rf hM FrK.rf
theorem c7_countsIn {a t : Int} (ha : i32 a) (ht : i32 t) (hM : MR h S R C) (hW : WF R) (hL : LayOK R C0) (hq : ∀ h2 S2 C2, Kp S S2 → MR h2 S2 R C2 → FrK h h2 → Q (vI (zI (cnF R C0 a t (-6)))) h2) : mC M7_countsIn [.inr (.inr (some (20, 0, 0))), .inl (zI a), .inl (zI t)] h Q :=
  w7_countsIn (c7_counted zm6 ha ht (by omega) (fun _ _ => by have := hW.l; omega) hM hW hL (fun h2 S2 C2 k hM2 hF => hq h2 S2 C2 k hM2 hF))
theorem c7_countsAlone {a t : Int} (ha : i32 a) (ht : i32 t) (hM : MR h S R C) (hW : WF R) (hL : LayOK R C0) (hq : ∀ h2 S2 C2, Kp S S2 → MR h2 S2 R C2 → FrK h h2 → Q (vI (zI (cnF R C0 a t a))) h2) : mC M7_countsAlone [.inr (.inr (some (20, 0, 0))), .inl (zI a), .inl (zI t)] h Q :=
  w7_countsAlone (c7_counted rfl ha ht ha (fun _ z => z) hM hW hL (fun h2 S2 C2 k hM2 hF => hq h2 S2 C2 k hM2 hF))
theorem c7_amount {x : Int32} (hq : Q (vI (amF x)) h) : mC M7_amount [.inl x] h Q := by
  refine w7_amount ?_
  unfold amF at hq
  refine ⟨fun q => ?_, fun q => ?_⟩
  · rw [if_pos q] at hq; exact hq
  · rw [if_neg q] at hq
    have e : -x = 0 - x := by
      rw [z_of x, z0, z_neg, z_sub, Int.zero_sub]
    rw [e]; exact hq
theorem c7_bestUpper {a t : Int} (ha : i32 a) (ht : i32 t) (hM : MR h S R C) (hW : WF R) (hL : LayOK R C0) (hq : ∀ h2 S2 C2, Kp S S2 → MR h2 S2 R C2 → FrK h h2 → Q (vI (zI (buF R C0 a t))) h2) : mC M7_bestUpper [.inr (.inr (some (20, 0, 0))), .inl (zI a), .inl (zI t)] h Q := by
  have hb := hW.l
  refine w7_bestUpper (c7_isLoop rfl ha hM hW ?_)
  unfold buF at hq
  show (¬ zI _ = 0 → mC _ _ h (kI (fun x695 h694 => (¬ x695 = 0 → mC M7_keep [.inr (.inr (some (20, 0, 0)))] h694 (kV (fun h696 => mC M7_ofL [.inr (.inr (some (20, 0, 0))), .inl (zI a), .inl 4] h696 (kI (fun x698 h697 => mE M7_bestUpper 45 [vR 20 0 0, vI (zI a), vI (zI t), vI (-6), vI 0, vU, vI x698, vU] [] h697 Q))))) ∧ (x695 = 0 → Q (vI (-2)) h694)))) ∧ (zI _ = 0 → Q (vI (-1)) h)
  rw [zb_ne, zm1, zm2, zm6, z1, z100]
  refine ⟨fun q => ?_, fun q => ?_⟩
  · have q := Decidable.not_not.mp q
    rw [if_pos q] at hq
    obtain ⟨c, rfl⟩ : ∃ c : Nat, a = c := ⟨a.toNat, by omega⟩
    rw [Int.toNat_natCast] at hq
    refine c7_in ht (by omega) (by omega) ?_
    show (¬ zI _ = 0 → mC M7_keep [.inr (.inr (some (20, 0, 0)))] h (kV (fun h696 => mC M7_ofL [.inr (.inr (some (20, 0, 0))), .inl (zI c), .inl 4] h696 (kI (fun x698 h697 => mE M7_bestUpper 45 [vR 20 0 0, vI (zI c), vI (zI t), vI (zI (-6)), vI 0, vU, vI x698, vU] [] h697 Q))))) ∧ (zI _ = 0 → Q (vI (zI (-2))) h)
    rw [zb_ne]
    refine ⟨fun q2 => ?_, fun q2 => ?_⟩
    · have q2 := Decidable.not_not.mp q2
      rw [if_pos q2] at hq
      obtain ⟨n, rfl⟩ : ∃ n : Nat, t = n := ⟨t.toNat, by omega⟩
      rw [Int.toNat_natCast] at hq
      have wl := hW.2.2.1 c q.2
      unfold WFl at wl
      obtain ⟨lo, hlo⟩ : ∃ lo : Nat, R (14 + 10 * c) = lo := ⟨(R (14 + 10 * c)).toNat, by omega⟩
      rw [hlo, Int.toNat_natCast] at hq
      have lo2 : 1 ≤ lo ∧ lo ≤ 200 := by omega
      refine c7_keep hM (fun h1 S1 k1 k2 hM1 hF1 => ?_)
      refine c7_ofL (c := c) (j := 4) (k := 14 + 10 * c) rfl (by decide) hM1 (by omega) (by omega) ?_
      show mE M7_bestUpper 45 [vR 20 0 0, vI (zI c), vI (zI n), vI (zI (-6)), vI 0, vU, vI (zI (R (14 + 10 * c))), vU] [] h1 Q
      rw [hlo]
      -- one bound
      have inner : ∀ (u : Nat) (best : Int) (least : Int32), lo ≤ u → u ≤ 200 → (∀ (g2 : mH) (C2 : rw_), MR g2 S1 R C2 → FrK h g2 → (zI best < 0 → mE M7_bestUpper 45 [vR 20 0 0, vI (zI c), vI (zI n), vI (zI u), vI (ownU R C0 c n u), vU, vI (zI ((u + 1 : Nat) : Int)), vU] [] g2 Q) ∧ (¬ zI best < 0 → (least ≤ ownU R C0 c n u → mE M7_bestUpper 45 [vR 20 0 0, vI (zI c), vI (zI n), vI (zI best), vI least, vU, vI (zI ((u + 1 : Nat) : Int)), vU] [] g2 Q) ∧ (¬ least ≤ ownU R C0 c n u → mE M7_bestUpper 45 [vR 20 0 0, vI (zI c), vI (zI n), vI (zI u), vI (ownU R C0 c n u), vU, vI (zI ((u + 1 : Nat) : Int)), vU] [] g2 Q))) → ∀ (m k : Nat) (g : mH) (C1 : rw_), k + m = n → MR g S1 (tkN (up R (13 + 10 * c) u) C0 k).1 C1 → FrK h g → mE M7_bestUpper 64 [vR 20 0 0, vI (zI c), vI (zI n), vI (zI best), vI least, vU, vI (zI u), vI (zI k)] [] g Q := by
        intro u best least u1 u2 cont m
        obtain ⟨o1, o2⟩ := upU_ok hW hL q.2 (u := u) (by omega) (by omega)
        induction m with
        | zero =>
          intro k g C1 hk hMg hF
          refine w7_bestUpper_64 ?_
          rw [z_le (by omega) (by omega)]
          refine ⟨fun _ => c7_errorOf rfl hMg (by omega) ?_, fun _ => by omega⟩
          refine c7_amount ?_
          refine c7_comeBack hMg k2 (fun g2 hM2 hF2 => ?_)
          have e := cont g2 C1 hM2 (hF.tr hF2.K)
          unfold ownU at e
          rw [show ((u + 1 : Nat) : Int) = (u : Int) + 1 by omega, ← z_add, ← z1] at e
          rw [show k = n by omega]
          exact e
        | succ m ih =>
          intro k g C1 hk hMg hF
          obtain ⟨p1, p2⟩ := tk_ok o1 o2 k
          have p3 := (tk_lo o1 o2 k).1
          have e3 : up R (13 + 10 * c) u 3 = R 3 := up_ne (by omega)
          refine w7_bestUpper_64 ?_
          rw [z_le (by omega) (by omega)]
          refine ⟨fun _ => by omega, fun _ => ?_⟩
          refine c7_pass zm6 (by omega) (by omega) hMg p1 p2 (fun g2 hMg2 hFg2 => ?_)
          have e := ih (k + 1) g2 _ (by omega) hMg2 (hF.tr hFg2)
          rw [show ((k + 1 : Nat) : Int) = (k : Int) + 1 by omega, ← z_add, ← z1] at e
          exact e
      have step : ∀ (u : Nat) (best : Int) (least : Int32) (g : mH) (C1 : rw_), lo ≤ u → u ≤ 200 → MR g S1 R C1 → FrK h g → (∀ (g2 : mH) (C2 : rw_), MR g2 S1 R C2 → FrK h g2 → (zI best < 0 → mE M7_bestUpper 45 [vR 20 0 0, vI (zI c), vI (zI n), vI (zI u), vI (ownU R C0 c n u), vU, vI (zI ((u + 1 : Nat) : Int)), vU] [] g2 Q) ∧ (¬ zI best < 0 → (least ≤ ownU R C0 c n u → mE M7_bestUpper 45 [vR 20 0 0, vI (zI c), vI (zI n), vI (zI best), vI least, vU, vI (zI ((u + 1 : Nat) : Int)), vU] [] g2 Q) ∧ (¬ least ≤ ownU R C0 c n u → mE M7_bestUpper 45 [vR 20 0 0, vI (zI c), vI (zI n), vI (zI u), vI (ownU R C0 c n u), vU, vI (zI ((u + 1 : Nat) : Int)), vU] [] g2 Q))) → mE M7_bestUpper 45 [vR 20 0 0, vI (zI c), vI (zI n), vI (zI best), vI least, vU, vI (zI u), vU] [] g Q := by
        intro u best least g C1 u1 u2 hMg hF cont
        refine w7_bestUpper_45 ?_
        rw [zc.2.2.2.2.2.2.2.2.2.1, z_lt (by omega) (by omega)]
        refine ⟨fun _ => by omega, fun _ => ?_⟩
        refine c7_bookL (c := c) (j := 3) (k := 13 + 10 * c) rfl (by decide) rfl hMg (by omega) (by omega) (fun g2 hM2 hF2 => ?_)
        exact inner u best least u1 u2 cont n 0 g2 C1 (Nat.zero_add _) hM2 (hF.tr hF2.K)
      have loop : ∀ (m i : Nat) (g : mH) (C1 : rw_), lo + i + m = 200 → MR g S1 R C1 → FrK h g → mE M7_bestUpper 45 [vR 20 0 0, vI (zI c), vI (zI n), vI (zI (((seF (ownU R C0 c n) lo i).1 : Nat) : Int)), vI (seF (ownU R C0 c n) lo i).2, vU, vI (zI ((lo + i + 1 : Nat) : Int)), vU] [] g Q := by
        intro m
        induction m with
        | zero =>
          intro i g C1 hi hMg hF
          refine w7_bestUpper_45 ?_
          rw [zc.2.2.2.2.2.2.2.2.2.1, z_lt (by omega) (by omega)]
          refine ⟨fun _ => ?_, fun _ => by omega⟩
          rw [show 200 - lo = i by omega] at hq
          exact hq g S1 C1 k1 hMg hF
        | succ m ih =>
          intro i g C1 hi hMg hF
          have r := se_rng (own := ownU R C0 c n) (u0 := lo) i
          refine step (lo + i + 1) _ _ g C1 (by omega) (by omega) hMg hF (fun g2 C2 hM2 hF2 => ?_)
          have e := ih (i + 1) g2 C2 (by omega) hM2 hF2
          rw [se_s] at e
          rw [z0, z_lt (by omega) (by omega)]
          refine ⟨fun z => by omega, fun _ => ⟨fun y => ?_, fun y => ?_⟩⟩
          · rw [if_pos y] at e; exact e
          · rw [if_neg y] at e; exact e
      refine step lo (-6) 0 h1 C (Nat.le_refl _) lo2.2 hM1 hF1.K (fun g2 C2 hM2 hF2 => ?_)
      rw [z0, z_lt (by omega) (by omega)]
      refine ⟨fun _ => ?_, fun z => by omega⟩
      exact loop (200 - lo) 0 g2 C2 (by omega) hM2 hF2
    · rw [if_neg q2] at hq
      exact hq h S C Kp.rf hM FrK.rf
  · rw [if_neg q] at hq
    exact hq h S C Kp.rf hM FrK.rf
end REFW
