/-! the class's whole state: the road, the history's ring, the slots, the pad -/
def HsT : Type := Nat → rw_ × rw_
def psK (k : Nat) : Nat := if k = 6 then 6 else k + 1
def psH (k : Nat) (H : HsT) (X : rw_ × rw_) : HsT := fun j => if k = 6 then (if j = 5 then X else H (j + 1)) else (if j = k then X else H j)
def CG (h : mH) (u : Nat) (R C : rw_) (k : Nat) (H : HsT) (V : rw_) (W : HsT) (P : rw_) (n : Nat) : Prop :=
  RP h 0 R C ∧ (u < 7 ∧ k ≤ 6 ∧ h.1 11 0 0 1 = zI u ∧ h.1 11 0 0 2 = zI k ∧ ∀ j, j < k → RP h (2 + (u + 7 - k + j) % 7) (H j).1 (H j).2) ∧ (∀ s, s < 2 → (V s = 0 ∨ V s = 1) ∧ h.1 15 0 0 s = zI (V s) ∧ (V s = 1 → RP h (9 + s) (W s).1 (W s).2)) ∧ CP h P n
/-- the reference's part is as it was -/
def FrB (h h2 : mH) : Prop := ∀ k r i s, 20 ≤ k → h2.1 k r i s = h.1 k r i s
theorem FrB.rf {h : mH} : FrB h h := fun _ _ _ _ _ => rfl
theorem FrB.tr {h h2 h3 : mH} (a : FrB h h2) (b : FrB h2 h3) : FrB h h3 := fun k r i s n => (b k r i s n).trans (a k r i s n)
theorem FrR.B {h h2 : mH} {r : Nat} (a : FrR r h h2) : FrB h h2 := fun k r2 i s n => a k r2 i s (fun z => by omega)
theorem FrT.B {h h2 : mH} (a : FrT h h2) : FrB h h2 := fun k r2 i s n => a k r2 i s (fun z => by omega)
theorem FrB.put {k r i s : Nat} {h : mH} {x : Int32} (hk : k < 20) : FrB h (pI h k r i s x) := fun k2 r2 i2 s2 n => pI_ne (fun z => by omega)
section STATE
variable {h h2 : mH} {Q : mV → mH → Prop} {R C R2 C2 : rw_} {u k n : Nat} {H W : HsT} {V P : rw_}
theorem CG.now (g : CG h u R C k H V W P n) (hP : RP h2 0 R2 C2) (hF : FrR 0 h h2) : CG h2 u R2 C2 k H V W P n := by
  obtain ⟨g1, ⟨g2, g3, g4, g5, g6⟩, g7, g8⟩ := g
  refine ⟨hP, ⟨g2, g3, ?_, ?_, fun j hj => (g6 j hj).otherRoad hF (by omega)⟩, fun s hs => ?_, g8.fr (hF 9 0 0 1 (by omega)) (fun i => hF 10 0 0 i (by omega))⟩
  · rw [hF 11 0 0 1 (by omega)]; exact g4
  · rw [hF 11 0 0 2 (by omega)]; exact g5
  · obtain ⟨a1, a2, a3⟩ := g7 s hs
    exact ⟨a1, by rw [hF 15 0 0 s (by omega)]; exact a2, fun z => (a3 z).otherRoad hF (by omega)⟩
theorem CG.other {r : Nat} (g : CG h u R C k H V W P n) (hF : FrR r h h2) (h0 : r ≠ 0) (h1 : ∀ j, j < k → r ≠ 2 + (u + 7 - k + j) % 7) (h3 : ∀ s, s < 2 → V s = 1 → r ≠ 9 + s) : CG h2 u R C k H V W P n := by
  obtain ⟨g1, ⟨g2, g3, g4, g5, g6⟩, g7, g8⟩ := g
  refine ⟨g1.otherRoad hF (by omega), ⟨g2, g3, ?_, ?_, fun j hj => (g6 j hj).otherRoad hF (fun z => h1 j hj z.symm)⟩, fun s hs => ?_, g8.fr (hF 9 0 0 1 (by omega)) (fun i => hF 10 0 0 i (by omega))⟩
  · rw [hF 11 0 0 1 (by omega)]; exact g4
  · rw [hF 11 0 0 2 (by omega)]; exact g5
  · obtain ⟨a1, a2, a3⟩ := g7 s hs
    exact ⟨a1, by rw [hF 15 0 0 s (by omega)]; exact a2, fun z => (a3 z).otherRoad hF (fun y => h3 s hs z y.symm)⟩
theorem CG.same (g : CG h u R C k H V W P n) (e : ∀ k2 r i s, (k2 = 0 ∨ k2 = 3 ∨ k2 = 5 ∨ k2 = 6 ∨ k2 = 9 ∨ k2 = 10 ∨ k2 = 11 ∨ k2 = 15) → r ≠ 1 → r ≠ 11 → h2.1 k2 r i s = h.1 k2 r i s) : CG h2 u R C k H V W P n := by
  obtain ⟨g1, ⟨g2, g3, g4, g5, g6⟩, g7, g8⟩ := g
  refine ⟨g1.fr (fun k2 i s hk => e k2 0 i s (by omega) (by omega) (by omega)), ⟨g2, g3, ?_, ?_, fun j hj => (g6 j hj).fr (fun k2 i s hk => e k2 _ i s (by omega) (by omega) (by omega))⟩, fun s hs => ?_, g8.fr (e 9 0 0 1 (by omega) (by omega) (by omega)) (fun i => e 10 0 0 i (by omega) (by omega) (by omega))⟩
  · rw [e 11 0 0 1 (by omega) (by omega) (by omega)]; exact g4
  · rw [e 11 0 0 2 (by omega) (by omega) (by omega)]; exact g5
  · obtain ⟨a1, a2, a3⟩ := g7 s hs
    exact ⟨a1, by rw [e 15 0 0 s (by omega) (by omega) (by omega)]; exact a2, fun z => (a3 z).fr (fun k2 i s2 hk => e k2 _ i s2 (by omega) (by omega) (by omega))⟩
theorem CG.T (g : CG h u R C k H V W P n) (hF : FrT h h2) : CG h2 u R C k H V W P n := g.same (fun k2 r i s hk h1 h11 => hF k2 r i s (fun z => by omega))
theorem CG.pad {P2 : rw_} {n2 : Nat} (g : CG h u R C k H V W P n) (hC : CP h2 P2 n2) (e : ∀ k r i s, k ≠ 9 → k ≠ 10 → h2.1 k r i s = h.1 k r i s) : CG h2 u R C k H V W P2 n2 := by
  obtain ⟨g1, ⟨g2, g3, g4, g5, g6⟩, g7, g8⟩ := g
  refine ⟨g1.fr (fun k2 i s hk => e k2 0 i s (by omega) (by omega)), ⟨g2, g3, ?_, ?_, fun j hj => (g6 j hj).fr (fun k2 i s hk => e k2 _ i s (by omega) (by omega))⟩, fun s hs => ?_, hC⟩
  · rw [e 11 0 0 1 (by omega) (by omega)]; exact g4
  · rw [e 11 0 0 2 (by omega) (by omega)]; exact g5
  · obtain ⟨a1, a2, a3⟩ := g7 s hs
    exact ⟨a1, by rw [e 15 0 0 s (by omega) (by omega)]; exact a2, fun z => (a3 z).fr (fun k2 i s2 hk => e k2 _ i s2 (by omega) (by omega))⟩
theorem c1_notedState (hu : u < 7) (e : h.1 11 0 0 1 = zI u) (hq : Q (vR 0 (2 + u) 0) h) : mC M1_notedState [.inr (.inr (some (11, 0, 0)))] h Q := by
  refine w1_notedState ?_
  rw [e, z0, zc.2.2.2.2.2.1, z_lt (by omega) (by omega), z_le (by omega) (by omega), z_clamp (by omega) (by omega), Int.toNat_natCast]
  exact ⟨fun _ => by omega, fun _ => ⟨fun _ => by omega, fun _ => ⟨z_in (by omega) (by omega) (by omega), hq⟩⟩⟩
theorem c1_note (g : CG h u R C k H V W P n) (hW : WF R) (hq : ∀ h2, CG h2 u R C k H V W P n → RP h2 (2 + u) R C → FrB h h2 → Q vU h2) : mC M1_note [.inr (.inr (some (11, 0, 0))), .inr (.inr (some (0, 0, 0)))] h Q := by
  have gg := g
  obtain ⟨g1, ⟨g2, g3, g4, g5, g6⟩, g7, g8⟩ := g
  refine w1_note (c1_notedState g2 g4 ?_)
  refine c4_become (by omega) (by omega) g1 hW (fun h2 hP2 hF2 => ?_)
  exact hq h2 (gg.other hF2 (by omega) (fun j hj z => by omega) (fun s hs _ z => by omega)) hP2 hF2.B
theorem c1_keep {R0 C0 : rw_} (g : CG h u R C k H V W P n) (hN : RP h (2 + u) R0 C0) (hq : ∀ h2 u2, CG h2 u2 R C (psK k) (psH k H (R0, C0)) V W P n → FrB h h2 → Q vU h2) : mC M1_keep [.inr (.inr (some (11, 0, 0)))] h Q := by
  obtain ⟨g1, ⟨g2, g3, g4, g5, g6⟩, g7, g8⟩ := g
  refine w1_keep ?_
  rw [g4, g5, z0, z1, zc.2.2.2.2.1, zc.2.2.2.2.2.1, z_add, z_add, z_le (by omega) (by omega)]
  have ek : (if zI 6 < zI ((k : Int) + 1) then zI 6 else zI ((k : Int) + 1)) = zI (psK k : Nat) := by
    unfold psK
    by_cases q : k = 6
    · rw [if_pos (by rw [z_lt (by omega) (by omega)]; omega), if_pos q]; rfl
    · rw [if_neg (by rw [z_lt (by omega) (by omega)]; omega), if_neg q]; rfl
  rw [ek]
  have fin : ∀ u2 : Nat, u2 = (u + 1) % 7 → Q vU (pI (pI h 11 0 0 1 (zI u2)) 11 0 0 2 (zI (psK k : Nat))) := by
    intro u2 eu
    have ne : ∀ k2 r i s, k2 ≠ 11 → (pI (pI h 11 0 0 1 (zI u2)) 11 0 0 2 (zI (psK k : Nat))).1 k2 r i s = h.1 k2 r i s := fun k2 r i s hk => by
      rw [pI_ne (fun z => hk z.1), pI_ne (fun z => hk z.1)]
    have fr : ∀ r (X Y : rw_), RP h r X Y → RP (pI (pI h 11 0 0 1 (zI u2)) 11 0 0 2 (zI (psK k : Nat))) r X Y := fun r X Y hP => hP.fr (fun k2 i s hk => ne k2 r i s (by omega))
    refine hq _ u2 ⟨fr _ _ _ g1, ⟨by omega, by unfold psK; split <;> omega, by rw [pI_ne (by omega), pI_at], by rw [pI_at], fun j hj => fr _ _ _ ?_⟩, fun s hs => ?_, g8.fr (ne _ _ _ _ (by decide)) (fun i => ne _ _ _ _ (by decide))⟩ ((FrB.put (by decide)).tr (FrB.put (by decide)))
    · unfold psK at hj ⊢
      unfold psH
      by_cases q : k = 6
      · rw [if_pos q] at hj ⊢
        rw [if_pos q]
        by_cases q2 : j = 5
        · rw [if_pos q2, show (u2 + 7 - 6 + j) % 7 = u by omega]; exact hN
        · rw [if_neg q2, show (u2 + 7 - 6 + j) % 7 = (u + 7 - k + (j + 1)) % 7 by omega]; exact g6 (j + 1) (by omega)
      · rw [if_neg q] at hj ⊢
        rw [if_neg q]
        by_cases q2 : j = k
        · rw [if_pos q2, show (u2 + 7 - (k + 1) + j) % 7 = u by omega]; exact hN
        · rw [if_neg q2, show (u2 + 7 - (k + 1) + j) % 7 = (u + 7 - k + j) % 7 by omega]; exact g6 j (by omega)
    · obtain ⟨a1, a2, a3⟩ := g7 s hs
      exact ⟨a1, by rw [ne _ _ _ _ (by decide)]; exact a2, fun z => fr _ _ _ (a3 z)⟩
  refine ⟨fun q => ?_, fun q => ?_⟩
  · exact fin 0 (by omega)
  · rw [show (u : Int) + 1 = ((u + 1 : Nat) : Int) by omega]
    exact fin (u + 1) (by omega)
theorem c6_recorded {R0 C0 : rw_} {a : Int} (ha : i32 a) (g : CG h u R C k H V W P n) (hN : RP h (2 + u) R0 C0) (hq0 : a < 0 → Q (vI (zI a)) h) (hq1 : 0 ≤ a → ∀ h2 u2, CG h2 u2 R C (psK k) (psH k H (R0, C0)) V W P n → FrB h h2 → Q (vI (zI a)) h2) : mC M6_recorded [.inr (.inr (some (7, 0, 0))), .inl (zI a)] h Q := by
  refine w6_recorded ?_
  rw [z0, z_lt (by omega) (by omega)]
  exact ⟨hq0, fun q => c1_keep g hN (fun h2 u2 g2 hF => hq1 (by omega) h2 u2 g2 hF)⟩
theorem c1_stepBack (g : CG h u R C k H V W P n) (hW : ∀ j, j < k → WF (H j).1) (hq0 : k = 0 → Q (vI (zI (-5))) h) (hq1 : ∀ k1, k = k1 + 1 → ∀ h2 u2, CG h2 u2 (H k1).1 (H k1).2 k1 H V W P n → FrB h h2 → Q (vI (zI k1)) h2) : mC M1_stepBack [.inr (.inr (some (11, 0, 0))), .inr (.inr (some (0, 0, 0)))] h Q := by
  obtain ⟨g1, ⟨g2, g3, g4, g5, g6⟩, g7, g8⟩ := g
  refine w1_stepBack ?_
  rw [g4, g5, zm5, z0, z1, zc.2.2.2.2.2.1, z_sub, z_sub, z_sub, z_lt (by omega) (by omega), z_le (by omega) (by omega)]
  refine ⟨fun q => ?_, fun q => hq0 (by omega)⟩
  obtain ⟨k1, rfl⟩ : ∃ k1, k = k1 + 1 := ⟨k - 1, by omega⟩
  have hq1 := hq1 k1 rfl
  rw [show ((k1 + 1 : Nat) : Int) - 1 = (k1 : Int) by omega]
  have fin : ∀ u2 : Nat, u2 = (u + 6) % 7 → mC M1_notedState [.inr (.inr (some (11, 0, 0)))] (pI (pI h 11 0 0 2 (zI k1)) 11 0 0 1 (zI u2)) (kR0 (fun h5 => Q (vI (h5.1 11 0 0 2)) h5) (fun r6 c7 h5 => mC M4_become [.inr (.inr (some (0, 0, 0))), .inr (.inr (some (0, r6, c7)))] h5 (kV (fun h8 => Q (vI (h8.1 11 0 0 2)) h8)))) := by
    intro u2 eu
    have ne : ∀ k2 r i s, k2 ≠ 11 → (pI (pI h 11 0 0 2 (zI k1)) 11 0 0 1 (zI u2)).1 k2 r i s = h.1 k2 r i s := fun k2 r i s hk => by
      rw [pI_ne (fun z => hk z.1), pI_ne (fun z => hk z.1)]
    have fr : ∀ r (X Y : rw_), RP h r X Y → RP (pI (pI h 11 0 0 2 (zI k1)) 11 0 0 1 (zI u2)) r X Y := fun r X Y hP => hP.fr (fun k2 i s hk => ne k2 r i s (by omega))
    have gm : CG (pI (pI h 11 0 0 2 (zI k1)) 11 0 0 1 (zI u2)) u2 R C k1 H V W P n := by
      refine ⟨fr _ _ _ g1, ⟨by omega, by omega, by rw [pI_at], by rw [pI_ne (by omega), pI_at], fun j hj => fr _ _ _ ?_⟩, fun s hs => ?_, g8.fr (ne _ _ _ _ (by decide)) (fun i => ne _ _ _ _ (by decide))⟩
      · have e := g6 j (by omega)
        rw [show (u2 + 7 - k1 + j) % 7 = (u + 7 - (k1 + 1) + j) % 7 by omega]
        exact e
      · obtain ⟨a1, a2, a3⟩ := g7 s hs
        exact ⟨a1, by rw [ne _ _ _ _ (by decide)]; exact a2, fun z => fr _ _ _ (a3 z)⟩
    refine c1_notedState (u := u2) (by omega) (by rw [pI_at]) ?_
    have src := fr _ _ _ (g6 k1 (by omega))
    rw [show (u + 7 - (k1 + 1) + k1) % 7 = u2 by omega] at src
    refine c4_become (by omega) (by decide) src (hW k1 (by omega)) (fun h2 hP2 hF2 => ?_)
    have gf := gm.now hP2 hF2
    show Q (vI (h2.1 11 0 0 2)) h2
    rw [gf.2.1.2.2.2.1]
    exact hq1 h2 u2 gf (((FrB.put (by decide)).tr (FrB.put (by decide))).tr hF2.B)
  refine ⟨fun q2 => ?_, fun q2 => ?_⟩
  · rw [show (7 : Int) - 1 = ((6 : Nat) : Int) by omega]
    exact fin 6 (by omega)
  · rw [show (u : Int) - 1 = ((u - 1 : Nat) : Int) by omega]
    exact fin (u - 1) (by omega)
theorem c5_isSlot {a : Int} (ha : i32 a) (hq : Q (vI (zI (if 0 ≤ a ∧ a < 2 then 1 else 0))) h) : mC M5_isSlot [.inr (.inr (some (13, 0, 0))), .inl (zI a)] h Q := by
  refine w5_isSlot ?_
  rw [z0, z1, zc.1, z_lt (by omega) (by omega), z_le (by omega) (by omega)]
  refine ⟨fun q => ?_, fun q => ⟨fun q2 => ?_, fun q2 => ⟨fun q3 => absurd q3 q2, fun q3 => ?_⟩⟩⟩
  · rw [if_neg (by omega)] at hq; exact hq
  · rw [if_neg (by omega)] at hq; exact hq
  · rw [if_pos (by omega)] at hq; exact hq
def upH (W : HsT) (s : Nat) (X : rw_ × rw_) : HsT := fun j => if j = s then X else W j
theorem c5_keep {a : Int} (ha : i32 a) (g : CG h u R C k H V W P n) (hW : WF R) (hq0 : ¬ (0 ≤ a ∧ a < 2) → Q (vI (zI (-2))) h) (hq1 : 0 ≤ a ∧ a < 2 → ∀ h2, CG h2 u R C k H (up V a.toNat 1) (upH W a.toNat (R, C)) P n → FrB h h2 → Q (vI (zI (R 2))) h2) : mC M5_keep [.inr (.inr (some (13, 0, 0))), .inl (zI a), .inr (.inr (some (0, 0, 0)))] h Q := by
  obtain ⟨g1, ⟨g2, g3, g4, g5, g6⟩, g7, g8⟩ := g
  refine w5_keep (c5_isSlot ha ?_)
  show (¬ zI _ = 0 → vp_in (zI a) 2 ∧ (mC M4_become _ h (kV (fun h207 => vp_in (zI a) 2 ∧ (Q (vI (h207.1 0 0 0 6)) (pI h207 15 0 0 (zI a).toNatClampNeg 1)))))) ∧ (zI _ = 0 → Q (vI (-2)) h)
  rw [zb_ne, zm2]
  refine ⟨fun q => ?_, hq0⟩
  have q := Decidable.not_not.mp q
  have hq1 := hq1 q
  obtain ⟨s, rfl⟩ : ∃ s : Nat, a = s := ⟨a.toNat, by omega⟩
  rw [z_clamp (by omega) (by omega), Int.toNat_natCast]
  rw [Int.toNat_natCast] at hq1
  refine ⟨z_in (by omega) (by omega) (by omega), c4_become (by omega) (by omega) g1 hW (fun h2 hP2 hF2 => ⟨z_in (by omega) (by omega) (by omega), ?_⟩)⟩
  have ne : ∀ k2 r i s2, k2 ≠ 15 → (pI h2 15 0 0 s 1).1 k2 r i s2 = h2.1 k2 r i s2 := fun k2 r i s2 hk => pI_ne (fun z => hk z.1)
  have fr : ∀ r (X Y : rw_), RP h2 r X Y → RP (pI h2 15 0 0 s 1) r X Y := fun r X Y hP => hP.fr (fun k2 i s hk => ne k2 r i s (by omega))
  have now2 : RP h2 0 R C := g1.otherRoad hF2 (by omega)
  show Q (vI (h2.1 0 0 0 6)) (pI h2 15 0 0 s 1)
  rw [now2.1.2.2.1]
  refine hq1 _ ⟨fr _ _ _ now2, ⟨g2, g3, ?_, ?_, fun j hj => fr _ _ _ ((g6 j hj).otherRoad hF2 (by omega))⟩, fun t ht => ?_, (g8.fr (hF2 9 0 0 1 (by omega)) (fun i => hF2 10 0 0 i (by omega))).fr (ne _ _ _ _ (by decide)) (fun i => ne _ _ _ _ (by decide))⟩ (hF2.B.tr (FrB.put (by decide)))
  · rw [ne _ _ _ _ (by decide), hF2 11 0 0 1 (by omega)]; exact g4
  · rw [ne _ _ _ _ (by decide), hF2 11 0 0 2 (by omega)]; exact g5
  · obtain ⟨a1, a2, a3⟩ := g7 t ht
    unfold upH
    by_cases y : t = s
    · rw [y, up_at, if_pos rfl, pI_at, z1]
      exact ⟨Or.inr rfl, rfl, fun _ => fr _ _ _ hP2⟩
    · rw [up_ne y, if_neg y, pI_ne (fun z => y z.2.1), hF2 15 0 0 t (by omega)]
      exact ⟨a1, a2, fun z => fr _ _ _ ((a3 z).otherRoad hF2 (by omega))⟩
theorem c5_giveBack {a : Int} (ha : i32 a) (g : CG h u R C k H V W P n) (hW : ∀ s, s < 2 → V s = 1 → WF (W s).1) (hq0 : ¬ (0 ≤ a ∧ a < 2) → Q (vI (zI (-2))) h) (hq1 : 0 ≤ a ∧ a < 2 → V a.toNat = 0 → Q (vI (zI (-5))) h) (hq2 : 0 ≤ a ∧ a < 2 → V a.toNat = 1 → ∀ h2, RP h2 0 (W a.toNat).1 (W a.toNat).2 → FrR 0 h h2 → Q (vI (zI ((W a.toNat).1 2))) h2) : mC M5_giveBack [.inr (.inr (some (13, 0, 0))), .inl (zI a), .inr (.inr (some (0, 0, 0)))] h Q := by
  obtain ⟨g1, ⟨g2, g3, g4, g5, g6⟩, g7, g8⟩ := g
  refine w5_giveBack (c5_isSlot ha ?_)
  show (¬ zI _ = 0 → vp_in (zI a) 2 ∧ (vp_in (zI a) 2 ∧ (((h.1 15 0 0 (zI a).toNatClampNeg) = 0 → Q (vI (-5)) h) ∧ (¬ (h.1 15 0 0 (zI a).toNatClampNeg) = 0 → mC M4_become [.inr (.inr (some (0, 0, 0))), .inr (.inr (some (0, 9 + (zI a).toNatClampNeg, 0)))] h (kV (fun h210 => Q (vI (h210.1 0 0 0 6)) h210)))))) ∧ (zI _ = 0 → Q (vI (-2)) h)
  rw [zb_ne, zm2, zm5]
  refine ⟨fun q => ?_, hq0⟩
  have q := Decidable.not_not.mp q
  have hq1 := hq1 q
  have hq2 := hq2 q
  obtain ⟨s, rfl⟩ : ∃ s : Nat, a = s := ⟨a.toNat, by omega⟩
  rw [Int.toNat_natCast] at hq1 hq2
  obtain ⟨a1, a2, a3⟩ := g7 s (by omega)
  rw [z_clamp (by omega) (by omega), Int.toNat_natCast, a2, z0, z_eq (by omega) (by omega)]
  refine ⟨z_in (by omega) (by omega) (by omega), z_in (by omega) (by omega) (by omega), hq1, fun y => ?_⟩
  have v1 : V s = 1 := by omega
  refine c4_become (by omega) (by decide) (a3 v1) (hW s (by omega) v1) (fun h2 hP2 hF2 => ?_)
  show Q (vI (h2.1 0 0 0 6)) h2
  rw [hP2.1.2.2.1]
  exact hq2 v1 h2 hP2 hF2
end STATE
