/-! the class: the public changes -/
def nxK (k : Nat) (a : Int) : Nat := if 0 ≤ a then psK k else k
def nxH (k : Nat) (H : HsT) (X : rw_ × rw_) (a : Int) : HsT := if 0 ≤ a then psH k H X else H
def tkS (R C : rw_) (a : Int) : (rw_ × rw_) × Int := if 1 ≤ a ∧ a ≤ 100 then (tkN R C a.toNat, (tkN R C a.toNat).1 2) else ((R, C), -2)
def rsS (R C : rw_) (V : rw_) (W : HsT) (a : Int) : (rw_ × rw_) × Int := if 0 ≤ a ∧ a < 2 then (if V a.toNat = 1 then (W a.toNat, (W a.toNat).1 2) else ((R, C), -5)) else ((R, C), -2)
/-- the tick is in its bounds -/
def tb_ (R : rw_) : Prop := 0 ≤ R 2 ∧ R 2 ≤ 1000000000
theorem spW_r {R : rw_} (hW : WF R) (a : Int) : i32 (spW R a).2 := by
  unfold spW
  split
  next q =>
    have w := hW.2.1 a.toNat (by omega)
    unfold WFc at w
    split <;> (dsimp only; omega)
  next => dsimp only; omega
theorem spV_r {R : rw_} (hW : WF R) (a v : Int) : i32 (spV R a v).2 := by
  unfold spV
  split
  next q =>
    have w := hW.2.1 a.toNat (by omega)
    unfold WFc at w
    split
    · split <;> (dsimp only; omega)
    · dsimp only; omega
  next => dsimp only; omega
theorem spS_r {R : rw_} (hW : WF R) (s v : Int) : i32 (spS R s v).2 := by
  have w := hW.1
  unfold spS
  split
  · dsimp only; omega
  · split <;> (dsimp only; omega)
theorem spB_r {R : rw_} (hW : WF R) (l u lo : Int) : i32 (spB R l u lo).2 := by
  unfold spB
  split
  next q =>
    have w := hW.2.2.1 l.toNat (by omega)
    unfold WFl at w
    split <;> (dsimp only; omega)
  next => dsimp only; omega
theorem spL_r {R : rw_} (hW : WF R) (L x m u lo : Int) : i32 (spL R L x m u lo).2 := by
  have w := hW.l
  unfold spL
  split
  · split <;> (dsimp only; omega)
  · dsimp only; omega
theorem spC_r {R C : rw_} (hW : WF R) (L len sp me : Int) : i32 (spC R C L len sp me).2 := by
  have w := hW.c
  unfold spC
  split
  · split
    · split <;> (dsimp only; omega)
    · dsimp only; omega
  · dsimp only; omega
theorem tkS_r {R C : rw_} (hW : WF R) (hL : LayOK R C) (hb : tb_ R) (a : Int) : i32 (tkS R C a).2 := by
  unfold tb_ at hb
  unfold tkS
  split
  next q =>
    dsimp only
    rw [(tk_lo hW hL _).2.2]
    omega
  next => dsimp only; omega
section PUB
variable {h : mH} {Q : mV → mH → Prop} {R C R2 C2 R0 C0 : rw_} {u k n : Nat} {H W : HsT} {V P : rw_}
theorem rec_ {a : Int} (ha : i32 a) (g : CG h u R2 C2 k H V W P n) (hN : RP h (2 + u) R0 C0) (hq : ∀ h2 u2, CG h2 u2 R2 C2 (nxK k a) (nxH k H (R0, C0) a) V W P n → FrB h h2 → Q (vI (zI a)) h2) : mC M6_recorded [.inr (.inr (some (7, 0, 0))), .inl (zI a)] h Q := by
  unfold nxK nxH at hq
  refine c6_recorded ha g hN (fun q => ?_) (fun q h2 u2 g2 hF => ?_)
  · rw [if_neg (by omega), if_neg (by omega)] at hq
    exact hq h u g FrB.rf
  · rw [if_pos q, if_pos q] at hq
    exact hq h2 u2 g2 hF
theorem fin_ {h1 h2 : mH} {a : Int} (ha : i32 a) (g1 : CG h1 u R C k H V W P n) (hN : RP h1 (2 + u) R C) (hF1 : FrB h h1) (hP2 : RP h2 0 R2 C2) (hF2 : FrR 0 h1 h2) (hq : ∀ h2 u2, CG h2 u2 R2 C2 (nxK k a) (nxH k H (R, C) a) V W P n → FrB h h2 → Q (vI (zI a)) h2) : mC M6_recorded [.inr (.inr (some (7, 0, 0))), .inl (zI a)] h2 Q :=
  rec_ ha (g1.now hP2 hF2) (hN.otherRoad hF2 (by omega)) (fun h3 u3 g3 hF3 => hq h3 u3 g3 (hF1.tr (hF2.B.tr hF3)))
theorem c6_set {s v : Int} (hs : i32 s) (hv : i32 v) (g : CG h u R C k H V W P n) (hW : WF R) (hq : ∀ h2 u2, CG h2 u2 (spS R s v).1 C (nxK k (spS R s v).2) (nxH k H (R, C) (spS R s v).2) V W P n → FrB h h2 → Q (vI (zI (spS R s v).2)) h2) : mC M6_set [.inr (.inr (some (7, 0, 0))), .inl (zI s), .inl (zI v)] h Q :=
  w6_set (c1_note g hW (fun _ g1 hN hF1 => c4_changeSetting hs hv g1.1 hW (fun _ hP2 hF2 => fin_ (spS_r hW s v) g1 hN hF1 hP2 hF2 hq)))
theorem c6_loop {L x m up_ lo : Int} (h1 : i32 L) (h2 : i32 x) (h3 : i32 m) (h4 : i32 up_) (h5 : i32 lo) (g : CG h u R C k H V W P n) (hW : WF R) (hL : LayOK R C) (hq : ∀ h2 u2, CG h2 u2 (spL R L x m up_ lo).1 C (nxK k (spL R L x m up_ lo).2) (nxH k H (R, C) (spL R L x m up_ lo).2) V W P n → FrB h h2 → Q (vI (zI (spL R L x m up_ lo).2)) h2) : mC M6_loop [.inr (.inr (some (7, 0, 0))), .inl (zI L), .inl (zI x), .inl (zI m), .inl (zI up_), .inl (zI lo)] h Q :=
  w6_loop (c1_note g hW (fun _ g1 hN hF1 => c4_layLoop (by decide) h1 h2 h3 h4 h5 g1.1 hW hL (fun _ hP2 hF2 => fin_ (spL_r hW L x m up_ lo) g1 hN hF1 hP2 hF2 hq)))
theorem c6_bounds {l up_ lo : Int} (h1 : i32 l) (h2 : i32 up_) (h3 : i32 lo) (g : CG h u R C k H V W P n) (hW : WF R) (hq : ∀ h2 u2, CG h2 u2 (spB R l up_ lo).1 C (nxK k (spB R l up_ lo).2) (nxH k H (R, C) (spB R l up_ lo).2) V W P n → FrB h h2 → Q (vI (zI (spB R l up_ lo).2)) h2) : mC M6_bounds [.inr (.inr (some (7, 0, 0))), .inl (zI l), .inl (zI up_), .inl (zI lo)] h Q :=
  w6_bounds (c1_note g hW (fun _ g1 hN hF1 => c4_changeBounds (by decide) h1 h2 h3 g1.1 hW (fun _ hP2 hF2 => fin_ (spB_r hW l up_ lo) g1 hN hF1 hP2 hF2 hq)))
theorem c6_come {L len sp me : Int} (h1 : i32 L) (h2 : i32 len) (h3 : i32 sp) (h4 : i32 me) (g : CG h u R C k H V W P n) (hW : WF R) (hL : LayOK R C) (hq : ∀ h2 u2, CG h2 u2 (spC R C L len sp me).1.1 (spC R C L len sp me).1.2 (nxK k (spC R C L len sp me).2) (nxH k H (R, C) (spC R C L len sp me).2) V W P n → FrB h h2 → Q (vI (zI (spC R C L len sp me).2)) h2) : mC M6_come [.inr (.inr (some (7, 0, 0))), .inl (zI L), .inl (zI len), .inl (zI sp), .inl (zI me)] h Q :=
  w6_come (c1_note g hW (fun _ g1 hN hF1 => c4_admitCar h1 h2 h3 h4 g1.1 hW hL (fun _ hP2 hF2 => fin_ (spC_r hW L len sp me) g1 hN hF1 hP2 hF2 hq)))
theorem c6_want {a : Int} (ha : i32 a) (g : CG h u R C k H V W P n) (hW : WF R) (hq : ∀ h2 u2, CG h2 u2 (spW R a).1 C (nxK k (spW R a).2) (nxH k H (R, C) (spW R a).2) V W P n → FrB h h2 → Q (vI (zI (spW R a).2)) h2) : mC M6_want [.inr (.inr (some (7, 0, 0))), .inl (zI a)] h Q :=
  w6_want (c1_note g hW (fun _ g1 hN hF1 => c4_turnWish ha g1.1 hW (fun _ hP2 hF2 => fin_ (spW_r hW a) g1 hN hF1 hP2 hF2 hq)))
theorem c6_speed {a v : Int} (ha : i32 a) (hv : i32 v) (g : CG h u R C k H V W P n) (hW : WF R) (hq : ∀ h2 u2, CG h2 u2 (spV R a v).1 C (nxK k (spV R a v).2) (nxH k H (R, C) (spV R a v).2) V W P n → FrB h h2 → Q (vI (zI (spV R a v).2)) h2) : mC M6_speed [.inr (.inr (some (7, 0, 0))), .inl (zI a), .inl (zI v)] h Q :=
  w6_speed (c1_note g hW (fun _ g1 hN hF1 => c4_changeSpeed ha hv g1.1 hW (fun _ hP2 hF2 => fin_ (spV_r hW a v) g1 hN hF1 hP2 hF2 hq)))
theorem c4_tk {r : Nat} {a : Int} (hr : r ≠ 11) (ha : i32 a) (hP : RP h r R C) (hW : WF R) (hL : LayOK R C) (hq : ∀ h2, RP h2 r (tkS R C a).1.1 (tkS R C a).1.2 → FrR r h h2 → Q (vI (zI (tkS R C a).2)) h2) : mC M4_letPass [.inr (.inr (some (0, r, 0))), .inl (zI a)] h Q := by
  unfold tkS at hq
  by_cases q : 1 ≤ a ∧ a ≤ 100
  · rw [if_pos q] at hq
    obtain ⟨m, rfl⟩ : ∃ m : Nat, a = m := ⟨a.toNat, by omega⟩
    rw [Int.toNat_natCast] at hq
    exact c4_letPass hr (by omega) hP hW hL hq
  · rw [if_neg q] at hq
    exact c4_letPassNo ha q (hq h hP FrR.rf)
theorem c6_ticks {a : Int} (ha : i32 a) (g : CG h u R C k H V W P n) (hW : WF R) (hL : LayOK R C) (hb : tb_ R) (hq : ∀ h2 u2, CG h2 u2 (tkS R C a).1.1 (tkS R C a).1.2 (nxK k (tkS R C a).2) (nxH k H (R, C) (tkS R C a).2) V W P n → FrB h h2 → Q (vI (zI (tkS R C a).2)) h2) : mC M6_ticks [.inr (.inr (some (7, 0, 0))), .inl (zI a)] h Q :=
  w6_ticks (c1_note g hW (fun _ g1 hN hF1 => c4_tk (by decide) ha g1.1 hW hL (fun _ hP2 hF2 => fin_ (tkS_r hW hL hb a) g1 hN hF1 hP2 hF2 hq)))
theorem c6_undo (g : CG h u R C k H V W P n) (hW : ∀ j, j < k → WF (H j).1) (hq0 : k = 0 → Q (vI (zI (-5))) h) (hq1 : ∀ k1, k = k1 + 1 → ∀ h2 u2, CG h2 u2 (H k1).1 (H k1).2 k1 H V W P n → FrB h h2 → Q (vI (zI k1)) h2) : mC M6_undo [.inr (.inr (some (7, 0, 0)))] h Q :=
  w6_undo (c1_stepBack g hW hq0 hq1)
theorem c6_save {a : Int} (ha : i32 a) (g : CG h u R C k H V W P n) (hW : WF R) (hq0 : ¬ (0 ≤ a ∧ a < 2) → Q (vI (zI (-2))) h) (hq1 : 0 ≤ a ∧ a < 2 → ∀ h2, CG h2 u R C k H (up V a.toNat 1) (upH W a.toNat (R, C)) P n → FrB h h2 → Q (vI (zI (R 2))) h2) : mC M6_save [.inr (.inr (some (7, 0, 0))), .inl (zI a)] h Q :=
  w6_save (c5_keep ha g hW hq0 hq1)
theorem c6_restore {a : Int} (ha : i32 a) (g : CG h u R C k H V W P n) (hW : WF R) (hWs : ∀ s, s < 2 → V s = 1 → WF (W s).1 ∧ tb_ (W s).1) (hq : ∀ h2 u2, CG h2 u2 (rsS R C V W a).1.1 (rsS R C V W a).1.2 (nxK k (rsS R C V W a).2) (nxH k H (R, C) (rsS R C V W a).2) V W P n → FrB h h2 → Q (vI (zI (rsS R C V W a).2)) h2) : mC M6_restore [.inr (.inr (some (7, 0, 0))), .inl (zI a)] h Q := by
  refine w6_restore (c1_note g hW (fun h1 g1 hN hF1 => ?_))
  unfold rsS at hq
  refine c5_giveBack ha g1 (fun s hs v => (hWs s hs v).1) (fun q => ?_) (fun q v => ?_) (fun q v h2 hP2 hF2 => ?_)
  · rw [if_neg q] at hq
    exact fin_ (by omega) g1 hN hF1 g1.1 FrR.rf hq
  · rw [if_pos q, if_neg (by omega)] at hq
    exact fin_ (by omega) g1 hN hF1 g1.1 FrR.rf hq
  · rw [if_pos q, if_pos v] at hq
    have b := (hWs a.toNat (by omega) v).2
    unfold tb_ at b
    exact fin_ (by omega) g1 hN hF1 hP2 hF2 hq
theorem c6_put {N : Nat} (hN : N < 2 ^ 64) (g : CG h u R C k H V W P n) (hq0 : ¬ ptY n (nbF N 8 0) → Q (vI (zI (ptA n (nbF N 8 0)))) h) (hq1 : ptY n (nbF N 8 0) → ∀ h2, CG h2 u R C k H V W (ptP P n N (nbF N 8 0)) (n + nbF N 8 0) → FrB h h2 → Q (vI (zI (ptA n (nbF N 8 0)))) h2) : mC M6_put [.inr (.inr (some (7, 0, 0))), .inr (.inl (lF N))] h Q :=
  w6_put (c3_append hN g.2.2.2 hq0 (fun y h2 c e => hq1 y h2 (g.pad c e) (fun k2 r i s hk => e k2 r i s (by omega) (by omega))))
theorem c6_wipe (g : CG h u R C k H V W P n) (hq : ∀ h2, CG h2 u R C k H V W P 0 → FrB h h2 → Q (vI (zI n)) h2) : mC M6_wipe [.inr (.inr (some (7, 0, 0)))] h Q :=
  w6_wipe (c3_empty g.2.2.2 (fun h2 c e => hq h2 (g.pad c (fun k2 r i s h9 _ => e k2 r i s h9)) (fun k2 r i s hk => e k2 r i s (by omega))))
theorem c6_fault (g : CG h u R C k H V W P n) (hq : Q (vI (zI (ffF P n n 0 0))) h) : mC M6_fault [.inr (.inr (some (7, 0, 0)))] h Q :=
  w6_fault (c3_firstFault g.2.2.2 hq)
end PUB
