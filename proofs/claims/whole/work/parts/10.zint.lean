/-! numbers: an Int32 as the image of an Int -/
def zI (z : Int) : Int32 := Int32.ofInt z
theorem z_nI (n : Nat) : nI n = zI (n : Int) := by
  show Int32.ofNat n = Int32.ofInt n
  rw [Int32.ofInt_eq_ofNat]
theorem z_lit (n : Nat) : (OfNat.ofNat n : Int32) = zI (n : Int) := z_nI n
theorem z_add (a b : Int) : zI a + zI b = zI (a + b) := (Int32.ofInt_add a b).symm
theorem z_sub (a b : Int) : zI a - zI b = zI (a - b) := (Int32.ofInt_sub a b).symm
theorem z_mul (a b : Int) : zI a * zI b = zI (a * b) := (Int32.ofInt_mul a b).symm
theorem z_neg (a : Int) : -zI a = zI (-a) := (Int32.ofInt_neg a).symm
theorem z_toInt {a : Int} (h1 : -2147483648 ≤ a) (h2 : a < 2147483648) : (zI a).toInt = a := by
  unfold zI
  rw [Int32.toInt_ofInt]
  rw [Int.bmod_def, show ((Int32.size : Nat) : Int) = 4294967296 from rfl]
  omega
theorem z_of (x : Int32) : x = zI x.toInt := by
  unfold zI
  rw [Int32.ofInt_toInt]
theorem z_ex (x : Int32) : ∃ z : Int, -2147483648 ≤ z ∧ z < 2147483648 ∧ x = zI z := ⟨x.toInt, by have := Int32.minValue_le_toInt x; simp at this; omega, by have := Int32.toInt_lt x; omega, z_of x⟩
theorem z_lt {a b : Int} (h1 : -2147483648 ≤ a ∧ a < 2147483648) (h2 : -2147483648 ≤ b ∧ b < 2147483648) : (zI a < zI b) ↔ a < b := by
  rw [Int32.lt_iff_toInt_lt, z_toInt h1.1 h1.2, z_toInt h2.1 h2.2]
theorem z_le {a b : Int} (h1 : -2147483648 ≤ a ∧ a < 2147483648) (h2 : -2147483648 ≤ b ∧ b < 2147483648) : (zI a ≤ zI b) ↔ a ≤ b := by
  rw [Int32.le_iff_toInt_le, z_toInt h1.1 h1.2, z_toInt h2.1 h2.2]
theorem z_eq {a b : Int} (h1 : -2147483648 ≤ a ∧ a < 2147483648) (h2 : -2147483648 ≤ b ∧ b < 2147483648) : (zI a = zI b) ↔ a = b := by
  constructor
  · intro e
    have e2 := congrArg Int32.toInt e
    rwa [z_toInt h1.1 h1.2, z_toInt h2.1 h2.2] at e2
  · intro e; rw [e]
theorem z_clamp {a : Int} (h1 : 0 ≤ a) (h2 : a < 2147483648) : (zI a).toNatClampNeg = a.toNat := by
  show (zI a).toInt.toNat = _
  rw [z_toInt (by omega) h2]
theorem z_in {a : Int} {n : Nat} (h1 : 0 ≤ a) (h2 : a < n) (hn : n < 2147483648) : vp_in (zI a) n := by
  rw [vp_in_iff, z_toInt (by omega) (by omega)]
  exact ⟨h1, h2⟩
theorem z_01 {a : Int} (h : a = 0 ∨ a = 1) : zI a = 0 ∨ zI a = 1 := by
  rcases h with rfl | rfl
  · exact Or.inl rfl
  · exact Or.inr rfl
