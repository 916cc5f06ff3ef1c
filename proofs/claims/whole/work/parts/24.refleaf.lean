/-! the reference: its picture (a row, the cells, all else in S), small methods -/
def MR (h : mH) (S : Nat → rw_) (R C : rw_) : Prop := (∀ k, k < 470 → h.1 21 0 0 k = zI (R k)) ∧ (∀ k, k < 80 → h.1 27 0 0 k = zI (C k)) ∧ ∀ k s, 20 ≤ k → k < 30 → k ≠ 21 → k ≠ 27 → k ≠ 28 → s < kz k → h.1 k 0 0 s = zI (S k s)
/-- the class's part is as it was, and the order -/
def FrC (h h2 : mH) : Prop := ∀ k r i s, (k < 20 ∨ k = 28) → h2.1 k r i s = h.1 k r i s
/-- the class's part is as it was -/
def FrK (h h2 : mH) : Prop := ∀ k r i s, k < 20 → h2.1 k r i s = h.1 k r i s
theorem FrK.rf {h : mH} : FrK h h := fun _ _ _ _ _ => rfl
theorem FrK.tr {h h2 h3 : mH} (a : FrK h h2) (b : FrK h2 h3) : FrK h h3 := fun k r i s n => (b k r i s n).trans (a k r i s n)
theorem FrC.K {h h2 : mH} (a : FrC h h2) : FrK h h2 := fun k r i s n => a k r i s (Or.inl n)
theorem FrC.rf {h : mH} : FrC h h := fun _ _ _ _ _ => rfl
theorem FrK.put {k r i s : Nat} {h : mH} {x : Int32} (hk : 20 ≤ k) : FrK h (pI h k r i s x) := fun k2 r2 i2 s2 n => pI_ne (fun z => by omega)
theorem FrC.tr {h h2 h3 : mH} (a : FrC h h2) (b : FrC h2 h3) : FrC h h3 := fun k r i s n => (b k r i s n).trans (a k r i s n)
theorem FrC.put {k r i s : Nat} {h : mH} {x : Int32} (hk : 20 ≤ k ∧ k ≠ 28) : FrC h (pI h k r i s x) := fun k2 r2 i2 s2 n => pI_ne (fun z => by omega)
section REF
variable {h : mH} {Q : mV → mH → Prop} {R C : rw_} {S : Nat → rw_}
theorem MR.row (hM : MR h S R C) {k : Nat} {v : Int} : MR (pI h 21 0 0 k (zI v)) S (up R k v) C := by
  refine ⟨fun j hj => ?_, fun j hj => ?_, fun k2 s h1 h2 h3 h4 h5 h6 => ?_⟩
  · by_cases q : j = k
    · rw [q, pI_at, up_at]
    · rw [pI_ne (fun z => q z.2.1), up_ne q]; exact hM.1 j hj
  · rw [pI_ne (fun z => by omega)]; exact hM.2.1 j hj
  · rw [pI_ne (fun z => h3 z.1)]; exact hM.2.2 k2 s h1 h2 h3 h4 h5 h6
theorem MR.cell (hM : MR h S R C) {k : Nat} {v : Int} : MR (pI h 27 0 0 k (zI v)) S R (up C k v) := by
  refine ⟨fun j hj => ?_, fun j hj => ?_, fun k2 s h1 h2 h3 h4 h5 h6 => ?_⟩
  · rw [pI_ne (fun z => by omega)]; exact hM.1 j hj
  · by_cases q : j = k
    · rw [q, pI_at, up_at]
    · rw [pI_ne (fun z => q z.2.1), up_ne q]; exact hM.2.1 j hj
  · rw [pI_ne (fun z => h4 z.1)]; exact hM.2.2 k2 s h1 h2 h3 h4 h5 h6
theorem MR.eqv {R2 C2 : rw_} (hM : MR h S R C) (hR : ∀ k, k < 470 → R2 k = R k) (hC : ∀ k, k < 80 → C2 k = C k) : MR h S R2 C2 := ⟨fun k hk => by rw [hR k hk]; exact hM.1 k hk, fun k hk => by rw [hC k hk]; exact hM.2.1 k hk, hM.2.2⟩
theorem c7_in {a b c : Int} (ha : i32 a) (hb : i32 b) (hc : i32 c) (hq : Q (vI (zI (if b ≤ a ∧ a ≤ c then 1 else 0))) h) : mC M7_in [.inl (zI a), .inl (zI b), .inl (zI c)] h Q := by
  refine w7_in ?_
  simp (disch := omega) only [z_lt]
  refine ⟨fun _ => ?_, fun _ => ⟨fun _ => ?_, fun _ => ?_⟩⟩
  · rw [if_neg (by omega)] at hq; exact hq
  · rw [if_neg (by omega)] at hq; exact hq
  · rw [if_pos (by omega)] at hq; exact hq
theorem z70 : (70 : Int32) = zI 70 := by decide
theorem z10 : (10 : Int32) = zI 10 := by decide
theorem c7_ofC {a1 a2 : Int32} {c j k : Nat} (e1 : a1 = zI c) (e2 : a2 = zI j) (hM : MR h S R C) (hk : k = 70 + 10 * c + j) (hk2 : k < 470) (hq : Q (vI (zI (R k))) h) : mC M7_ofC [.inr (.inr (some (20, 0, 0))), .inl a1, .inl a2] h Q := by
  subst e1; subst e2
  refine w7_ofC ?_
  rw [z70, z10, z_mul, z_add, z_add]
  refine ⟨z_in (by omega) (by omega) (by omega), ?_⟩
  rw [z_clamp (by omega) (by omega), show (70 + 10 * (c : Int) + (j : Int)).toNat = k by omega, hM.1 k hk2]
  exact hq
theorem c7_bookC {a1 a2 a3 : Int32} {c j k : Nat} {v : Int} (e1 : a1 = zI c) (e2 : a2 = zI j) (e3 : a3 = zI v) (hM : MR h S R C) (hk : k = 70 + 10 * c + j) (hk2 : k < 470) (hq : ∀ h2, MR h2 S (up R k v) C → FrC h h2 → Q vU h2) : mC M7_bookC [.inr (.inr (some (20, 0, 0))), .inl a1, .inl a2, .inl a3] h Q := by
  subst e1; subst e2; subst e3
  refine w7_bookC ?_
  rw [z70, z10, z_mul, z_add, z_add]
  refine ⟨z_in (by omega) (by omega) (by omega), ?_⟩
  rw [z_clamp (by omega) (by omega), show (70 + 10 * (c : Int) + (j : Int)).toNat = k by omega]
  exact hq _ hM.row (FrC.put (by omega))
theorem c7_ofL {a1 a2 : Int32} {c j k : Nat} (e1 : a1 = zI c) (e2 : a2 = zI j) (hM : MR h S R C) (hk : k = 10 + 10 * c + j) (hk2 : k < 470) (hq : Q (vI (zI (R k))) h) : mC M7_ofL [.inr (.inr (some (20, 0, 0))), .inl a1, .inl a2] h Q := by
  subst e1; subst e2
  refine w7_ofL ?_
  rw [z10, z_mul, z_add, z_add]
  refine ⟨z_in (by omega) (by omega) (by omega), ?_⟩
  rw [z_clamp (by omega) (by omega), show (10 + 10 * (c : Int) + (j : Int)).toNat = k by omega, hM.1 k hk2]
  exact hq
theorem c7_bookL {a1 a2 a3 : Int32} {c j k : Nat} {v : Int} (e1 : a1 = zI c) (e2 : a2 = zI j) (e3 : a3 = zI v) (hM : MR h S R C) (hk : k = 10 + 10 * c + j) (hk2 : k < 470) (hq : ∀ h2, MR h2 S (up R k v) C → FrC h h2 → Q vU h2) : mC M7_bookL [.inr (.inr (some (20, 0, 0))), .inl a1, .inl a2, .inl a3] h Q := by
  subst e1; subst e2; subst e3
  refine w7_bookL ?_
  rw [z10, z_mul, z_add, z_add]
  refine ⟨z_in (by omega) (by omega) (by omega), ?_⟩
  rw [z_clamp (by omega) (by omega), show (10 + 10 * (c : Int) + (j : Int)).toNat = k by omega]
  exact hq _ hM.row (FrC.put (by omega))
theorem c7_isOn {a1 : Int32} {c : Nat} (e1 : a1 = zI c) (hM : MR h S R C) (hc : c < 40) (w : R (75 + 10 * c) = 0 ∨ R (75 + 10 * c) = 1) (hq : Q (vI (zI (if R (75 + 10 * c) = 0 then 1 else 0))) h) : mC M7_isOn [.inr (.inr (some (20, 0, 0))), .inl a1] h Q := by
  refine w7_isOn (c7_ofC (j := 5) (k := 75 + 10 * c) e1 (by decide) hM (by omega) (by omega) ?_)
  show (¬ zI _ = 0 → Q (vI 0) h) ∧ (zI _ = 0 → Q (vI 1) h)
  rw [z0, z1, z_eq (by omega) (by omega)]
  refine ⟨fun q => ?_, fun q => ?_⟩
  · rw [if_neg q] at hq; exact hq
  · rw [if_pos q] at hq; exact hq
theorem c7_lastCell {a1 : Int32} {c : Nat} (e1 : a1 = zI c) (hM : MR h S R C) (hc : c < 40) (hq : Q (vI (zI (lasF R c))) h) : mC M7_lastCell [.inr (.inr (some (20, 0, 0))), .inl a1] h Q := by
  refine w7_lastCell (c7_ofC (j := 1) (k := 71 + 10 * c) e1 (by decide) hM (by omega) (by omega) ?_)
  refine c7_ofC (j := 2) (k := 72 + 10 * c) e1 (by decide) hM (by omega) (by omega) ?_
  show Q (vI (zI _ - zI _ + 1)) h
  rw [z1, z_sub, z_add]
  exact hq
/-- cells while a car is marked, those below x being done -/
def mkC (R C : rw_) (c : Nat) (v x : Int) : rw_ := fun k => if cov R c k ∧ (k : Int) < 40 * R (70 + 10 * c) + x then v else C k
theorem mkC_s {R C : rw_} {c : Nat} {v x : Int} (hx : lasF R c ≤ x) (hf : x ≤ R (71 + 10 * c)) {k : Nat} (w : R (70 + 10 * c) = 0 ∨ R (70 + 10 * c) = 1) : (if 0 ≤ x ∧ x ≤ 39 then up (mkC R C c v x) (40 * R (70 + 10 * c) + x).toNat v else mkC R C c v x) k = mkC R C c v (x + 1) k := by
  unfold mkC up cov lasF at *
  split <;> dsimp only
  · by_cases q : k = (40 * R (70 + 10 * c) + x).toNat
    · rw [if_pos q, if_pos (by omega)]
    · rw [if_neg q]
      by_cases q2 : (k : Int) < 40 * R (70 + 10 * c) + x
      · by_cases q3 : 40 * R (70 + 10 * c) ≤ (k : Int) ∧ (k : Int) < 40 * R (70 + 10 * c) + 40 ∧ 40 * R (70 + 10 * c) + (R (71 + 10 * c) - R (72 + 10 * c) + 1) ≤ (k : Int) ∧ (k : Int) ≤ 40 * R (70 + 10 * c) + R (71 + 10 * c)
        · rw [if_pos ⟨q3, q2⟩, if_pos ⟨q3, by omega⟩]
        · rw [if_neg (fun z => q3 z.1), if_neg (fun z => q3 z.1)]
      · rw [if_neg (fun z => q2 z.2), if_neg (by omega)]
  · by_cases q2 : (k : Int) < 40 * R (70 + 10 * c) + x
    · by_cases q3 : 40 * R (70 + 10 * c) ≤ (k : Int) ∧ (k : Int) < 40 * R (70 + 10 * c) + 40 ∧ 40 * R (70 + 10 * c) + (R (71 + 10 * c) - R (72 + 10 * c) + 1) ≤ (k : Int) ∧ (k : Int) ≤ 40 * R (70 + 10 * c) + R (71 + 10 * c)
      · rw [if_pos ⟨q3, q2⟩, if_pos ⟨q3, by omega⟩]
      · rw [if_neg (fun z => q3 z.1), if_neg (fun z => q3 z.1)]
    · rw [if_neg (fun z => q2 z.2), if_neg (by omega)]
theorem z40 : (40 : Int32) = zI 40 := by decide
theorem z39 : (39 : Int32) = zI 39 := by decide
/-- a car of a row that may be marked: its lane, front and length -/
def okM (R : rw_) (c : Nat) : Prop := (R (70 + 10 * c) = 0 ∨ R (70 + 10 * c) = 1) ∧ 0 ≤ R (71 + 10 * c) ∧ R (71 + 10 * c) ≤ 43 ∧ 1 ≤ R (72 + 10 * c) ∧ R (72 + 10 * c) ≤ 4
theorem WFc.okM {R : rw_} {c : Nat} (w : WFc R c) : okM R c := ⟨w.1, w.2.1, w.2.2.1, w.2.2.2.1, w.2.2.2.2.1⟩
theorem l7_mark {c : Nat} {v : Int} (hc : c < 40) (w : okM R c) (hq : ∀ h2, MR h2 S R (markF R C c v) → FrC h h2 → Q vU h2) : ∀ (n : Nat) (x : Int) (g : mH), x + n = R (71 + 10 * c) + 1 → lasF R c ≤ x → MR g S R (mkC R C c v x) → FrC h g → mE M7_mark 6 [vR 20 0 0, vI (zI c), vI (zI v), vI (zI x)] [] g Q := by
  obtain ⟨w0, w1, w2, w3, w4⟩ := w
  intro n
  induction n with
  | zero =>
    intro x g hx hl hM hF
    have hl2 := hl
    unfold lasF at hl2
    refine w7_mark_6 (c7_ofC (j := 1) (k := 71 + 10 * c) rfl (by decide) hM (by omega) (by omega) ?_)
    show (zI _ < zI x → Q vU g) ∧ (¬ zI _ < zI x → _)
    rw [z_lt (by omega) (by omega)]
    refine ⟨fun _ => hq g (hM.eqv (fun _ _ => rfl) (fun k hk => ?_)) hF, fun _ => by omega⟩
    unfold mkC markF cov
    have e : x = R (71 + 10 * c) + 1 := by omega
    rw [e]
    by_cases q : 40 * R (70 + 10 * c) ≤ (k : Int) ∧ (k : Int) < 40 * R (70 + 10 * c) + 40 ∧ 40 * R (70 + 10 * c) + lasF R c ≤ (k : Int) ∧ (k : Int) ≤ 40 * R (70 + 10 * c) + R (71 + 10 * c)
    · rw [if_pos q, if_pos ⟨q, by omega⟩]
    · rw [if_neg q, if_neg (fun z => q z.1)]
  | succ n ih =>
    intro x g hx hl hM hF
    have hl2 := hl
    unfold lasF at hl2
    refine w7_mark_6 (c7_ofC (j := 1) (k := 71 + 10 * c) rfl (by decide) hM (by omega) (by omega) ?_)
    show (zI _ < zI x → Q vU g) ∧ (¬ zI _ < zI x → mC _ [_, .inl 0, .inl 39] g _)
    rw [z_lt (by omega) (by omega), z0, z39]
    refine ⟨fun _ => by omega, fun _ => ?_⟩
    refine c7_in (by omega) (by omega) (by omega) ?_
    show (zI _ = 0 → mE _ _ [_, _, _, vI (zI x + 1)] _ g Q) ∧ (¬ zI _ = 0 → _)
    rw [zb_ne, z1, z_add]
    have ms := fun k => mkC_s (C := C) (v := v) (k := k) hl (by omega) w0
    refine ⟨fun q => ?_, fun q => ?_⟩
    · refine ih (x + 1) g (by omega) (by omega) (hM.eqv (fun _ _ => rfl) (fun k hk => ?_)) hF
      rw [← ms k, if_neg q]
    · have q2 := Decidable.not_not.mp q
      refine c7_ofC (j := 0) (k := 70 + 10 * c) rfl (by decide) hM (by omega) (by omega) ?_
      show vp_in (40 * zI _ + zI x) 80 ∧ mE _ _ _ _ (pI g 27 0 0 (40 * zI _ + zI x).toNatClampNeg (zI v)) Q
      rw [z40, z_mul, z_add, z_clamp (by omega) (by omega)]
      refine ⟨z_in (by omega) (by omega) (by omega), ?_⟩
      refine ih (x + 1) _ (by omega) (by omega) (MR.eqv hM.cell (fun _ _ => rfl) (fun k hk => ?_)) (hF.tr (FrC.put (by omega)))
      rw [← ms k, if_pos q2]
theorem c7_mark {a1 a2 : Int32} {c : Nat} {v : Int} (e1 : a1 = zI c) (e2 : a2 = zI v) (hM : MR h S R C) (hc : c < 40) (w : okM R c) (hq : ∀ h2, MR h2 S R (markF R C c v) → FrC h h2 → Q vU h2) : mC M7_mark [.inr (.inr (some (20, 0, 0))), .inl a1, .inl a2] h Q := by
  subst e1; subst e2
  refine w7_mark (c7_lastCell rfl hM hc ?_)
  obtain ⟨w0, w1, w2, w3, w4⟩ := id w
  refine l7_mark hc w hq (R (72 + 10 * c)).toNat (lasF R c) h (by unfold lasF; omega) (Int.le_refl _) (hM.eqv (fun _ _ => rfl) (fun k hk => ?_)) FrC.rf
  unfold mkC
  rw [if_neg (by unfold cov; omega)]
theorem c7_isFree {a1 a2 : Int32} {L x : Int} (e1 : a1 = zI L) (e2 : a2 = zI x) (hM : MR h S R C) (hL : L = 0 ∨ L = 1) (hx : -1000 ≤ x ∧ x ≤ 1000) (hv : ∀ k, k < 80 → i32 (C k)) (hq : Q (vI (zI (if freeP C L x then 1 else 0))) h) : mC M7_isFree [.inr (.inr (some (20, 0, 0))), .inl a1, .inl a2] h Q := by
  subst e1; subst e2
  refine w7_isFree ?_
  rw [z0, z39]
  refine c7_in (by omega) (by omega) (by omega) ?_
  show (zI _ = 0 → Q (vI 1) h) ∧ (¬ zI _ = 0 → vp_in (40 * zI L + zI x) 80 ∧ ((zI 0 ≤ h.1 27 0 0 (40 * zI L + zI x).toNatClampNeg → Q (vI (zI 0)) h) ∧ (¬ zI 0 ≤ h.1 27 0 0 (40 * zI L + zI x).toNatClampNeg → Q (vI 1) h)))
  rw [zb_ne, z40, z1, z_mul, z_add]
  refine ⟨fun q => ?_, fun q => ?_⟩
  · rw [if_pos (Or.inl q)] at hq; exact hq
  · have q2 := Decidable.not_not.mp q
    rw [z_clamp (by omega) (by omega)]
    have hk : (40 * L + x).toNat < 80 := by omega
    have := hv _ hk
    rw [hM.2.1 _ hk, z_le (by omega) this]
    refine ⟨z_in (by omega) (by omega) (by omega), fun y => ?_, fun y => ?_⟩
    · rw [if_neg (fun z => z.elim (fun z => z q2) (fun z => by omega))] at hq; exact hq
    · rw [if_pos (Or.inr (by omega))] at hq; exact hq
end REF
