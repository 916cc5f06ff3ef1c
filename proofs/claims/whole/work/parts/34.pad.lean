/-! the pad: signs, the reading of orders; the class's reading -/
def sgF (P : rw_) (n i : Nat) : Int := if i < n then P i else 0
def dgF (P : rw_) (n i : Nat) : Int := sgF P n i - 48
def dueF (d : Int) (s : Int) : Int :=
  if d = 0 then (if s = 99 then 1 else if s = 119 ∨ s = 116 then 5 else -1)
  else if d = 1 then (if 48 ≤ s ∧ s ≤ 49 then 2 else -1)
  else if d = 2 then (if 49 ≤ s ∧ s ≤ 52 then 3 else -1)
  else if d = 3 then (if 49 ≤ s ∧ s ≤ 52 then 4 else -1)
  else if d = 4 then (if 49 ≤ s ∧ s ≤ 57 then 7 else -1)
  else if d = 5 then (if s = 48 then 7 else if 49 ≤ s ∧ s ≤ 57 then 6 else -1)
  else if d = 6 then (if 48 ≤ s ∧ s ≤ 57 then 7 else if s = 59 then 0 else -1)
  else if s = 59 then 0 else -1
theorem due_rng {d s : Int} : -1 ≤ dueF d s ∧ dueF d s ≤ 7 := by
  unfold dueF
  (repeat' split) <;> omega
def ffF (P : rw_) (n : Nat) : Nat → Nat → Int → Int
  | 0, _, d => if d = 7 ∨ d = 6 then -6 else (n : Int)
  | f + 1, at_, d => if dueF d (sgF P n at_) = -1 then (at_ : Int) else ffF P n f (at_ + 1) (dueF d (sgF P n at_))
theorem ff_s {P : rw_} {n f at_ : Nat} {d : Int} : ffF P n (f + 1) at_ d = if dueF d (sgF P n at_) = -1 then (at_ : Int) else ffF P n f (at_ + 1) (dueF d (sgF P n at_)) := rfl
theorem ff_0 {P : rw_} {n at_ : Nat} {d : Int} : ffF P n 0 at_ d = if d = 7 ∨ d = 6 then -6 else (n : Int) := rfl
/-- the class's pad -/
def CP (h : mH) (P : rw_) (n : Nat) : Prop := n ≤ 60 ∧ h.1 9 0 0 1 = zI n ∧ (∀ i, i < n → h.1 10 0 0 i = zI (P i)) ∧ ∀ i, i < n → 33 ≤ P i ∧ P i ≤ 126
theorem CP.fr {h h2 : mH} {P : rw_} {n : Nat} (c : CP h P n) (e9 : h2.1 9 0 0 1 = h.1 9 0 0 1) (e10 : ∀ i, h2.1 10 0 0 i = h.1 10 0 0 i) : CP h2 P n := ⟨c.1, e9.trans c.2.1, fun i hi => (e10 i).trans (c.2.2.1 i hi), c.2.2.2⟩
theorem zs : (48 : Int32) = zI 48 ∧ (49 : Int32) = zI 49 ∧ (52 : Int32) = zI 52 ∧ (57 : Int32) = zI 57 ∧ (59 : Int32) = zI 59 ∧ (60 : Int32) = zI 60 ∧ (99 : Int32) = zI 99 ∧ (116 : Int32) = zI 116 ∧ (119 : Int32) = zI 119 ∧ (33 : Int32) = zI 33 ∧ (126 : Int32) = zI 126 ∧ (150 : Int32) = zI 150 := by decide
theorem sg_rng {P : rw_} {n : Nat} (hb : ∀ i, i < n → 33 ≤ P i ∧ P i ≤ 126) (i : Nat) : (i < n ∧ 33 ≤ sgF P n i ∧ sgF P n i ≤ 126) ∨ (n ≤ i ∧ sgF P n i = 0) := by
  unfold sgF
  by_cases q : i < n
  · rw [if_pos q]; have := hb i q; left; omega
  · rw [if_neg q]; right; omega
section PADC
variable {h : mH} {Q : mV → mH → Prop} {P : rw_} {n : Nat}
theorem c3_signAt {i : Nat} (hi : i < 1000) (hC : CP h P n) (hq : Q (vI (zI (sgF P n i))) h) : mC M3_signAt [.inr (.inr (some (9, 0, 0))), .inl (zI i)] h Q := by
  obtain ⟨c1, c2, c3, c4⟩ := hC
  refine w3_signAt ?_
  unfold sgF at hq
  rw [c2, z0, zs.2.2.2.2.2.1, z_lt (by omega) (by omega), z_le (by omega) (by omega), z_le (by omega) (by omega)]
  refine ⟨fun _ => by omega, fun _ => ⟨fun q => ?_, fun q => ⟨fun _ => by omega, fun _ => ⟨z_in (by omega) (by omega) (by omega), ?_⟩⟩⟩⟩
  · rw [if_neg (by omega)] at hq; exact hq
  · rw [if_pos (by omega)] at hq
    rw [z_clamp (by omega) (by omega), Int.toNat_natCast, c3 i (by omega)]
    exact hq
theorem c3_digitAt {a1 : Int32} {i : Nat} (e1 : a1 = zI i) (hi : i < 1000) (hC : CP h P n) (hq : Q (vI (zI (dgF P n i))) h) : mC M3_digitAt [.inr (.inr (some (9, 0, 0))), .inl a1] h Q := by
  subst e1
  refine w3_digitAt (c3_signAt hi hC ?_)
  show Q (vI (zI _ - 48)) h
  rw [zs.1, z_sub]
  exact hq
theorem c3_numberAt {a1 : Int32} {i : Nat} (e1 : a1 = zI i) (hi : i < 900) (hC : CP h P n) (hq : Q (vI (zI (if 0 ≤ dgF P n (i + 1) ∧ dgF P n (i + 1) ≤ 9 then dgF P n i * 10 + dgF P n (i + 1) else dgF P n i))) h) : mC M3_numberAt [.inr (.inr (some (9, 0, 0))), .inl a1] h Q := by
  subst e1
  have r := sg_rng hC.2.2.2 (i + 1)
  refine w3_numberAt (c3_digitAt (i := i + 1) (by rw [z1, z_add, show ((i + 1 : Nat) : Int) = (i : Int) + 1 by omega]) (by omega) hC ?_)
  show mC _ [.inl (zI _), .inl 0, .inl 9] h (kI (fun x22 h21 => (x22 = 0 → mC M3_digitAt [.inr (.inr (some (9, 0, 0))), .inl (zI i)] h21 (kI (fun x24 h23 => Q (vI x24) h23))) ∧ (¬ x22 = 0 → mC M3_digitAt [.inr (.inr (some (9, 0, 0))), .inl (zI i)] h21 (kI (fun x26 h25 => Q (vI ((x26 * 10) + zI (dgF P n (i + 1)))) h25)))))
  rw [z0, zc.2.2.2.2.2.2.2.1]
  refine c6_isWithin (by unfold dgF; omega) (by omega) (by omega) ?_
  show (zI _ = zI 0 → mC M3_digitAt [.inr (.inr (some (9, 0, 0))), .inl (zI i)] h (kI (fun x24 h23 => Q (vI x24) h23))) ∧ (¬ zI _ = zI 0 → mC M3_digitAt [.inr (.inr (some (9, 0, 0))), .inl (zI i)] h (kI (fun x26 h25 => Q (vI ((x26 * 10) + zI (dgF P n (i + 1)))) h25)))
  rw [zb_ne0]
  refine ⟨fun q => c3_digitAt rfl (by omega) hC ?_, fun q => c3_digitAt rfl (by omega) hC ?_⟩
  · rw [if_neg q] at hq; exact hq
  · rw [if_pos (Decidable.not_not.mp q)] at hq
    show Q (vI (zI _ * 10 + zI _)) h
    rw [z10, z_mul, z_add]
    exact hq
theorem c3_beginsOrder {i : Nat} (hi : i < 1000) (hC : CP h P n) (hq : Q (vI (zI (if i = 0 ∨ sgF P n (i - 1) = 59 then 1 else 0))) h) : mC M3_beginsOrder [.inr (.inr (some (9, 0, 0))), .inl (zI i)] h Q := by
  have r := sg_rng hC.2.2.2 (i - 1)
  refine w3_beginsOrder ?_
  rw [z0, z1, zs.2.2.2.2.1, z_eq (by omega) (by omega), z_sub]
  refine ⟨fun q => ?_, fun q => ?_⟩
  · rw [if_pos (by omega)] at hq; exact hq
  · rw [show (i : Int) - 1 = ((i - 1 : Nat) : Int) by omega]
    refine c3_signAt (by omega) hC ?_
    show (¬ zI _ = zI 59 → Q (vI (zI 0)) h) ∧ (zI _ = zI 59 → Q (vI (zI 1)) h)
    rw [z_eq (by omega) (by omega)]
    refine ⟨fun q2 => ?_, fun q2 => ?_⟩
    · rw [if_neg (by omega)] at hq; exact hq
    · rw [if_pos (by omega)] at hq; exact hq
theorem c3_dueAfter {d s : Int} (hd : 0 ≤ d ∧ d ≤ 7) (hs : i32 s) (hq : Q (vI (zI (dueF d s))) h) : mC M3_dueAfter [.inl (zI d), .inl (zI s)] h Q := by
  have wi : ∀ (lo hi y : Int), i32 lo → i32 hi → (if lo ≤ s ∧ s ≤ hi then y else -1) = dueF d s → mC M6_isWithin [.inl (zI s), .inl (zI lo), .inl (zI hi)] h (kI (fun x34 h33 => (x34 = zI 0 → Q (vI (zI (-1))) h33) ∧ (¬ x34 = zI 0 → Q (vI (zI y)) h33))) := by
    intro lo hi y h1 h2 e
    refine c6_isWithin hs h1 h2 ?_
    show (zI _ = zI 0 → Q (vI (zI (-1))) h) ∧ (¬ zI _ = zI 0 → Q (vI (zI y)) h)
    rw [zb_ne0]
    refine ⟨fun q => ?_, fun q => ?_⟩
    · rw [if_neg q] at e; rw [e]; exact hq
    · rw [if_pos (Decidable.not_not.mp q)] at e; rw [e]; exact hq
  refine w3_dueAfter ?_
  rw [zm1, z0, z1, zc.1, zc.2.1, zc.2.2.1, zc.2.2.2.1, zc.2.2.2.2.1, zc.2.2.2.2.2.1, zs.1, zs.2.1, zs.2.2.1, zs.2.2.2.1, zs.2.2.2.2.1, zs.2.2.2.2.2.2.1, zs.2.2.2.2.2.2.2.1, zs.2.2.2.2.2.2.2.2.1]
  simp (disch := omega) only [z_eq]
  refine ⟨fun q => ?_, fun q => ?_, fun q => ?_, fun q => ?_, fun q => ?_, fun q => ?_, fun q => ?_, fun q => ?_, fun _ _ _ _ _ _ _ _ => by omega⟩
  · subst q
    unfold dueF at hq
    rw [if_pos rfl] at hq
    refine ⟨fun q1 => ⟨fun q2 => ?_, fun q2 => ⟨fun q3 => ?_, fun q3 => ?_⟩⟩, fun q1 => ?_⟩
    · rw [if_neg q1, if_pos (Or.inl q2)] at hq; exact hq
    · rw [if_neg q1, if_neg (by omega)] at hq; exact hq
    · rw [if_neg q1, if_pos (Or.inr q3)] at hq; exact hq
    · rw [if_pos q1] at hq; exact hq
  · subst q; exact wi _ _ _ (by omega) (by omega) rfl
  · subst q; exact wi _ _ _ (by omega) (by omega) rfl
  · subst q; exact wi _ _ _ (by omega) (by omega) rfl
  · subst q; exact wi _ _ _ (by omega) (by omega) rfl
  · subst q
    refine ⟨fun q1 => wi _ _ _ (by omega) (by omega) ?_, fun q1 => ?_⟩
    · show _ = (if s = 48 then 7 else if 49 ≤ s ∧ s ≤ 57 then 6 else -1)
      rw [if_neg q1]
    · have e : dueF 5 s = 7 := by
        show (if s = 48 then 7 else if 49 ≤ s ∧ s ≤ 57 then 6 else -1) = (7 : Int)
        rw [if_pos q1]
      rw [e] at hq; exact hq
  · subst q
    have e : dueF 6 s = (if 48 ≤ s ∧ s ≤ 57 then 7 else if s = 59 then 0 else -1) := rfl
    rw [e] at hq
    refine c6_isWithin hs (by omega) (by omega) ?_
    show (zI _ = zI 0 → (¬ s = 59 → Q (vI (zI (-1))) h) ∧ (s = 59 → Q (vI (zI 0)) h)) ∧ (¬ zI _ = zI 0 → Q (vI (zI 7)) h)
    rw [zb_ne0]
    refine ⟨fun q1 => ⟨fun q2 => ?_, fun q2 => ?_⟩, fun q1 => ?_⟩
    · rw [if_neg q1, if_neg q2] at hq; exact hq
    · rw [if_neg q1, if_pos q2] at hq; exact hq
    · rw [if_pos (Decidable.not_not.mp q1)] at hq; exact hq
  · subst q
    have e : dueF 7 s = (if s = 59 then 0 else -1) := rfl
    rw [e] at hq
    refine ⟨fun q1 => ?_, fun q1 => ?_⟩
    · rw [if_neg q1] at hq; exact hq
    · rw [if_pos q1] at hq; exact hq
theorem c3_firstFault (hC : CP h P n) (hq : Q (vI (zI (ffF P n n 0 0))) h) : mC M3_firstFault [.inr (.inr (some (9, 0, 0)))] h Q := by
  refine w3_firstFault ?_
  have c1 := hC.1
  have loop : ∀ (f at_ : Nat) (d : Int), at_ + f = n → 0 ≤ d → d ≤ 7 → ffF P n f at_ d = ffF P n n 0 0 → mE M3_firstFault 4 [vR 9 0 0, vI (zI d), vI (zI at_)] [] h Q := by
    intro f
    induction f with
    | zero =>
      intro at_ d ha h0 h7 e
      refine w3_firstFault_4 ?_
      rw [ff_0] at e
      rw [hC.2.1, zm6, zc.2.2.2.2.1, zc.2.2.2.2.2.1, z_le (by omega) (by omega), z_eq (by omega) (by omega), z_eq (by omega) (by omega)]
      refine ⟨fun _ => ⟨fun q => ?_, fun q => ⟨fun q2 => ?_, fun q2 => ?_⟩⟩, fun _ => by omega⟩
      · rw [if_pos (Or.inl q)] at e; rw [e]; exact hq
      · rw [if_neg (by omega)] at e; rw [e]; exact hq
      · rw [if_pos (Or.inr q2)] at e; rw [e]; exact hq
    | succ f ih =>
      intro at_ d ha h0 h7 e
      have r := sg_rng hC.2.2.2 at_
      have dr := due_rng (d := d) (s := sgF P n at_)
      refine w3_firstFault_4 ?_
      rw [ff_s] at e
      rw [hC.2.1, zm1, z_le (by omega) (by omega)]
      refine ⟨fun _ => by omega, fun _ => c3_signAt (by omega) hC ?_⟩
      refine c3_dueAfter ⟨h0, h7⟩ (by omega) ?_
      show (¬ zI _ = zI (-1) → mE M3_firstFault 4 [vR 9 0 0, vI _, vI (zI at_ + 1)] [] h Q) ∧ (zI _ = zI (-1) → Q (vI (zI at_)) h)
      rw [z_eq (by omega) (by omega)]
      refine ⟨fun q => ?_, fun q => ?_⟩
      · rw [if_neg q] at e
        have e2 := ih (at_ + 1) _ (by omega) (by omega) (by omega) e
        rw [show ((at_ + 1 : Nat) : Int) = (at_ : Int) + 1 by omega, ← z_add, ← z1] at e2
        exact e2
      · rw [if_pos q] at e; rw [e]; exact hq
  exact loop n 0 0 (Nat.zero_add _) (by omega) (by omega) rfl
end PADC
