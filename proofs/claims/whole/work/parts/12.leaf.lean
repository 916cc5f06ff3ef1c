/-! the class: small methods -/
section LEAF
variable {r : Nat} {h : mH} {Q : mV → mH → Prop} {R C : rw_}
theorem c4_carN {c : Nat} {n : Int} (hn : h.1 0 r 0 4 = zI n) (h1 : (c : Int) < n) (h2 : n ≤ 40) (hq : Q (vR 5 r c) h) : mC M4_carNumbered [.inr (.inr (some (0, r, 0))), .inl (zI c)] h Q := by
  refine w4_carNumbered ?_
  rw [hn]
  simp (disch := omega) only [z_lit, z_lt, z_le, z_clamp, Int.toNat_natCast]
  exact ⟨fun _ => by omega, fun _ => ⟨fun _ => by omega, fun _ => ⟨fun _ => by omega, fun _ => ⟨z_in (by omega) (by omega) (by omega), hq⟩⟩⟩⟩
theorem c4_carNo {a n : Int} (hn : h.1 0 r 0 4 = zI n) (ha : -2147483648 ≤ a ∧ a < 2147483648) (h1 : a < 0 ∨ n ≤ a) (h2 : 0 ≤ n ∧ n ≤ 40) (hq : Q vN h) : mC M4_carNumbered [.inr (.inr (some (0, r, 0))), .inl (zI a)] h Q := by
  refine w4_carNumbered ?_
  rw [hn]
  simp (disch := omega) only [z_lit, z_lt, z_le]
  exact ⟨fun _ => hq, fun _ => ⟨fun _ => hq, fun _ => ⟨fun _ => hq, fun _ => by omega⟩⟩⟩
theorem c4_loopN {l : Nat} {n : Int} (hn : h.1 0 r 0 5 = zI n) (h1 : (l : Int) < n) (h2 : n ≤ 6) (hq : Q (vR 6 r l) h) : mC M4_loopNumbered [.inr (.inr (some (0, r, 0))), .inl (zI l)] h Q := by
  refine w4_loopNumbered ?_
  rw [hn]
  simp (disch := omega) only [z_lit, z_lt, z_le, z_clamp, Int.toNat_natCast]
  exact ⟨fun _ => by omega, fun _ => ⟨fun _ => by omega, fun _ => ⟨fun _ => by omega, fun _ => ⟨z_in (by omega) (by omega) (by omega), hq⟩⟩⟩⟩
theorem c4_loopNo {a n : Int} (hn : h.1 0 r 0 5 = zI n) (ha : -2147483648 ≤ a ∧ a < 2147483648) (h1 : a < 0 ∨ n ≤ a) (h2 : 0 ≤ n ∧ n ≤ 6) (hq : Q vN h) : mC M4_loopNumbered [.inr (.inr (some (0, r, 0))), .inl (zI a)] h Q := by
  refine w4_loopNumbered ?_
  rw [hn]
  simp (disch := omega) only [z_lit, z_lt, z_le]
  exact ⟨fun _ => hq, fun _ => ⟨fun _ => hq, fun _ => ⟨fun _ => hq, fun _ => by omega⟩⟩⟩
def tkF (C : rw_) (L x : Int) : Int := if 0 ≤ x ∧ x ≤ 39 then C (40 * L + x).toNat else -6
theorem c4_takerOf {L x : Int} (hL : 0 ≤ L ∧ L ≤ 1) (hx : -1000 ≤ x ∧ x ≤ 1000) (hC : ∀ k, k < 80 → h.1 3 r 0 k = zI (C k)) (hq : Q (vI (zI (tkF C L x))) h) : mC M4_takerOf [.inr (.inr (some (0, r, 0))), .inl (zI L), .inl (zI x)] h Q := by
  refine w4_takerOf ?_
  simp (disch := omega) only [z_lit, z_neg, z_mul, z_add, z_lt, z_le]
  unfold tkF at hq
  have e6 : ¬ (0 ≤ x ∧ x ≤ 39) → Q (vI (zI (-6))) h := fun n => by rw [if_neg n] at hq; exact hq
  refine ⟨fun _ => e6 (by omega), fun _ => ⟨fun _ => e6 (by omega), fun _ => ⟨fun _ => by omega, fun _ => ⟨fun _ => by omega, fun _ => ⟨z_in (by omega) (by omega) (by omega), ?_⟩⟩⟩⟩⟩
  rw [z_clamp (by omega) (by omega), hC _ (by omega)]
  rw [if_pos (by omega)] at hq
  rw [show L * (40 : Nat) + x = 40 * L + x by omega]
  exact hq
def upC (C : rw_) (L x v : Int) : rw_ := fun k => if (k : Int) = 40 * L + x ∧ 0 ≤ x ∧ x ≤ 39 then v else C k
theorem c4_take {L x v : Int} (hL : 0 ≤ L ∧ L ≤ 1) (hx : -1000 ≤ x ∧ x ≤ 1000) (hC : ∀ k, k < 80 → h.1 3 r 0 k = zI (C k)) (hq : ∀ h2, (∀ k, k < 80 → h2.1 3 r 0 k = zI (upC C L x v k)) → (∀ k r2 i s, ¬ (k = 3 ∧ r2 = r) → h2.1 k r2 i s = h.1 k r2 i s) → h2.2 = h.2 → Q vU h2) : mC M4_take [.inr (.inr (some (0, r, 0))), .inl (zI L), .inl (zI x), .inl (zI v)] h Q := by
  refine w4_take ?_
  simp (disch := omega) only [z_lit, z_neg, z_mul, z_add, z_lt, z_le]
  have e6 : ¬ (0 ≤ x ∧ x ≤ 39) → Q vU h := fun n => hq h (fun k hk => by rw [hC k hk, upC, if_neg (by omega)]) (fun _ _ _ _ _ => rfl) rfl
  refine ⟨fun _ => e6 (by omega), fun _ => ⟨fun _ => e6 (by omega), fun _ => ⟨fun _ => by omega, fun _ => ⟨fun _ => by omega, fun _ => ⟨z_in (by omega) (by omega) (by omega), ?_⟩⟩⟩⟩⟩
  rw [z_clamp (by omega) (by omega)]
  refine hq _ (fun k hk => ?_) (fun k r2 i s n => pI_ne (fun z => n ⟨z.1, z.2.2.1⟩)) rfl
  by_cases e : k = (L * (40 : Nat) + x).toNat
  · rw [e, pI_at, upC, if_pos (by omega)]
  · rw [pI_ne (fun z => e z.2.1), hC k hk, upC, if_neg (by omega)]
theorem c4_listener (hS : RPs h r R) (hW : WF R) (hq : Q (vI (zI (lstF R))) h) : mC M4_listener [.inr (.inr (some (0, r, 0)))] h Q := by
  refine w4_listener ?_
  obtain ⟨e1, e2, e3, e4, e5⟩ := hS
  obtain ⟨⟨b1, b2, b3, b4, b5, b6, b7, b8⟩, -⟩ := hW
  rw [e2, e3, e5]
  unfold lstF at hq
  have ha : ∀ a : Int32, zI a.toInt = a := fun a => (z_of a).symm
  simp (disch := omega) only [z_lit, z_neg, z_le, z_eq]
  refine ⟨fun _ => ?_, fun _ => ⟨fun _ => by omega, fun _ => ⟨by omega, by omega, ?_⟩⟩⟩
  · rw [if_pos (by omega)] at hq; exact hq
  · rw [if_neg (by omega), ha] at hq; exact hq
end LEAF
