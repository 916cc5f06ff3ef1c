/-! the constructors: Road -/
def CarO (o : nO) (x : Int32) : Prop := o.1 = .inl 0 ∧ o.2 0 = vI x ∧ ∀ a, 1 ≤ a → a < 11 → o.2 a = vI 0
def LopO (o : nO) : Prop := o.1 = .inl 2 ∧ ∀ a, a < 9 → o.2 a = vI 0
def RdO (o : nO) (c : Nat) : Prop := o.1 = .inl 4 ∧ (o.2 0 = vQ c ∧ o.2 1 = vQ (c + 1) ∧ o.2 2 = vQ (c + 2) ∧ o.2 3 = vQ (c + 3)) ∧ (o.2 4 = vI 0 ∧ o.2 5 = vI 0 ∧ o.2 6 = vI 0) ∧ o.2 7 = vI 1 ∧ o.2 8 = vI 1
/-- the road at q, its rows from c on: so many cars, loops, takers made -/
def RD (g : Nat → nO) (q c n1 n2 n3 : Nat) : Prop := RdO (g q) c ∧ ((g c).1 = .inr (.object RX0, 40) ∧ ∀ j, j < n1 → (g c).2 j = vQ (c + 4 + j)) ∧ ((g (c + 1)).1 = .inr (.object RX2, 6) ∧ ∀ j, j < n2 → (g (c + 1)).2 j = vQ (c + 44 + j)) ∧ ((g (c + 2)).1 = .inr (.int, 80) ∧ ∀ j, j < n3 → (g (c + 2)).2 j = vI (-6)) ∧ ((g (c + 3)).1 = .inr (.object RX0, 40) ∧ ∀ j, (g (c + 3)).2 j = vN) ∧ (∀ j, j < n1 → CarO (g (c + 4 + j)) (nI j)) ∧ ∀ j, j < n2 → LopO (g (c + 44 + j))
def RdI (h0 : nH) (q n1 n2 n3 : Nat) (h : nH) : Prop := h.2 = h0.2 + 4 + n1 + n2 ∧ (∀ y, y < h0.2 → y ≠ q → h.1 y = h0.1 y) ∧ RD h.1 q h0.2 n1 n2 n3
theorem nSet_eq {h : nH} {q j : Nat} {v : mV} : (nSet h q j v).1 q = ((h.1 q).1, fun a => if a = j then v else (h.1 q).2 a) := by simp only [nSet, nUp, if_true]
theorem arr_step {X : nH} {o : nO} {c i : Nat} {k : Nat ⊕ (FieldType × Nat)} {v : mV} {f : Nat → mV} (hX : X.1 c = o) (H1 : o.1 = k) (H2 : ∀ j, j < i → o.2 j = f j) (hv : v = f i) : ((nSet X c i v).1 c).1 = k ∧ ∀ j, j < i + 1 → ((nSet X c i v).1 c).2 j = f j := by
  refine ⟨by rw [nSet_k, hX]; exact H1, fun j hj => ?_⟩
  by_cases e : j = i
  · rw [nSet_at e, hv, e]
  · rw [nSet_ot e, hX]
    exact H2 j (by omega)
theorem zt0 {a : Nat} (h1 : 1 ≤ a) : zV (tyX0 a) = vI 0 := by
  unfold tyX0
  split <;> first | rfl | omega
theorem zt2 {a : Nat} : zV (tyX2 a) = vI 0 := by
  unfold tyX2
  split <;> rfl
theorem RdI_car {h0 h : nH} {q i k : Nat} {x : Int32} (I : RdI h0 q i 0 0 h) (hq : q < h0.2) (hx : x = nI i) (hk : k = i) : RdI h0 q (i + 1) 0 0 (nSet (nSet (nPush h (.inl 0, fun j => zV (tyX0 j))) h.2 0 (vI x)) h0.2 k (vQ h.2)) := by
  obtain ⟨e, fr, ro, ca, lo, ta, mo, cs, ls⟩ := I
  subst hx hk
  have F : ∀ y, y ≠ h0.2 → y ≠ h.2 → (nSet (nSet (nPush h (.inl 0, fun j => zV (tyX0 j))) h.2 0 (vI (nI k))) h0.2 k (vQ h.2)).1 y = h.1 y := fun y a b => by rw [nSet_ne a, nSet_ne b, nPush_ne b]
  refine ⟨?_, fun y h1 h2 => ?_, ?_, ?_, ?_, ?_, ?_, fun j hj => ?_, fun j hj => by omega⟩
  · show h.2 + 1 = _
    omega
  · rw [F y (by omega) (by omega)]
    exact fr y h1 h2
  · rw [F q (by omega) (by omega)]
    exact ro
  · exact arr_step (f := fun j => vQ (h0.2 + 4 + j)) (by rw [nSet_ne (by omega), nPush_ne (by omega)]) ca.1 ca.2 (by show vQ h.2 = vQ _; rw [e]; rfl)
  · rw [F _ (by omega) (by omega)]
    exact lo
  · rw [F _ (by omega) (by omega)]
    exact ta
  · rw [F _ (by omega) (by omega)]
    exact mo
  · by_cases z : j = k
    · rw [show h0.2 + 4 + j = h.2 by omega, nSet_ne (by omega), nSet_eq, nPush_eq rfl, z]
      refine ⟨rfl, rfl, fun a h1 h2 => ?_⟩
      show (if a = 0 then _ else _) = _
      rw [if_neg (by omega)]
      exact zt0 h1
    · rw [F _ (by omega) (by omega)]
      exact cs j (by omega)
theorem RdI_lop {h0 h : nH} {q i k : Nat} (I : RdI h0 q 40 i 0 h) (hq : q < h0.2) (hk : k = i) : RdI h0 q 40 (i + 1) 0 (nSet (nPush h (.inl 2, fun j => zV (tyX2 j))) (h0.2 + 1) k (vQ h.2)) := by
  obtain ⟨e, fr, ro, ca, lo, ta, mo, cs, ls⟩ := I
  subst hk
  have F : ∀ y, y ≠ h0.2 + 1 → y ≠ h.2 → (nSet (nPush h (.inl 2, fun j => zV (tyX2 j))) (h0.2 + 1) k (vQ h.2)).1 y = h.1 y := fun y a b => by rw [nSet_ne a, nPush_ne b]
  refine ⟨?_, fun y h1 h2 => ?_, ?_, ?_, ?_, ?_, ?_, fun j hj => ?_, fun j hj => ?_⟩
  · show h.2 + 1 = _
    omega
  · rw [F y (by omega) (by omega)]
    exact fr y h1 h2
  · rw [F q (by omega) (by omega)]
    exact ro
  · rw [F _ (by omega) (by omega)]
    exact ca
  · exact arr_step (f := fun j => vQ (h0.2 + 44 + j)) (by rw [nPush_ne (by omega)]) lo.1 lo.2 (by show vQ h.2 = vQ _; rw [e])
  · rw [F _ (by omega) (by omega)]
    exact ta
  · rw [F _ (by omega) (by omega)]
    exact mo
  · rw [F _ (by omega) (by omega)]
    exact cs j hj
  · by_cases z : j = k
    · rw [show h0.2 + 44 + j = h.2 by omega, nSet_ne (by omega), nPush_eq rfl]
      exact ⟨rfl, fun a _ => zt2⟩
    · rw [F _ (by omega) (by omega)]
      exact ls j (by omega)
theorem RdI_tak {h0 h : nH} {q i k : Nat} (I : RdI h0 q 40 6 i h) (hq : q < h0.2) (hk : k = i) : RdI h0 q 40 6 (i + 1) (nSet h (h0.2 + 2) k (vI (-6))) := by
  obtain ⟨e, fr, ro, ca, lo, ta, mo, cs, ls⟩ := I
  subst hk
  have F : ∀ y, y ≠ h0.2 + 2 → (nSet h (h0.2 + 2) k (vI (-6))).1 y = h.1 y := fun y a => by rw [nSet_ne a]
  refine ⟨e, fun y h1 h2 => ?_, ?_, ?_, ?_, ?_, ?_, fun j hj => ?_, fun j hj => ?_⟩
  · rw [F y (by omega)]
    exact fr y h1 h2
  · rw [F q (by omega)]
    exact ro
  · rw [F _ (by omega)]
    exact ca
  · rw [F _ (by omega)]
    exact lo
  · exact arr_step (f := fun _ => vI (-6)) rfl ta.1 ta.2 rfl
  · rw [F _ (by omega)]
    exact mo
  · rw [F _ (by omega)]
    exact cs j hj
  · rw [F _ (by omega)]
    exact ls j hj
def rd0 (h : nH) (q : Nat) : nH := nSet (nSet (nSet (nPush (nSet (nPush (nSet (nPush (nSet (nPush h (.inr (.object RX0, 40), fun _ => vN)) q 0 (vQ h.2)) (.inr (.object RX2, 6), fun _ => vN)) q 1 (vQ (h.2 + 1))) (.inr (.int, 80), fun _ => vI 0)) q 2 (vQ (h.2 + 2))) (.inr (.object RX0, 40), fun _ => vN)) q 3 (vQ (h.2 + 3))) q 7 (vI 1)) q 8 (vI 1)
theorem RdI_0 {h : nH} {q : Nat} (hq : q < h.2) (hk : (h.1 q).1 = .inl 4) (hz : ∀ a, 4 ≤ a → a < 9 → (h.1 q).2 a = vI 0) : RdI h q 0 0 0 (rd0 h q) := by
  have h4 := hz 4 (by omega) (by omega)
  have h5 := hz 5 (by omega) (by omega)
  have h6 := hz 6 (by omega) (by omega)
  unfold rd0
  refine ⟨rfl, fun y h1 h2 => ?_, ⟨?_, ⟨?_, ?_, ?_, ?_⟩, ⟨?_, ?_, ?_⟩, ?_, ?_⟩, ⟨?_, fun j hj => by omega⟩, ⟨?_, fun j hj => by omega⟩, ⟨?_, fun j hj => by omega⟩, ⟨?_, fun j => ?_⟩, fun j hj => by omega, fun j hj => by omega⟩
  all_goals
    (simp (disch := first | omega | rfl | (simp only [nSet_n, nPush_n]; omega)) only [nSet_k', nSet_ne, nPush_ne, nPush_eq, nSet_at, nSet_ot, nSet_n, nPush_n])
  all_goals first | assumption | (rw [nPush_eq] <;> rfl)
