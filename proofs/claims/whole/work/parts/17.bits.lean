/-! bits of small sets -/
theorem bit_set : ∀ l : Fin 6, ∀ a : Fin 64, a.val < 2 ^ l.val → (zI (a.val : Int) ||| ((1 : Int32) <<< (zI (l.val : Int) &&& 31))) = zI ((a.val + 2 ^ l.val : Nat) : Int) := by decide +kernel
theorem bit_or : ∀ l : Fin 6, ∀ a : Fin 64, a.val < 2 ^ l.val → (zI (a.val : Int) ||| zI ((2 ^ l.val : Nat) : Int)) = zI ((a.val + 2 ^ l.val : Nat) : Int) := by decide +kernel
theorem bit_or0 : ∀ a : Fin 64, (zI (a.val : Int) ||| 0) = zI (a.val : Int) := by decide +kernel
theorem bit_shl : ∀ l : Fin 6, ((1 : Int32) <<< (zI (l.val : Int) &&& 31)) = zI ((2 ^ l.val : Nat) : Int) := by decide +kernel
theorem bit_dif : ∀ a : Fin 64, ∀ b : Fin 64, (zI (a.val : Int) &&& (zI (b.val : Int) ^^^ (-1))) = zI ((a.val &&& (63 ^^^ b.val) : Nat) : Int) := by decide +kernel
theorem bit_shr : ∀ l : Fin 6, ∀ a : Fin 64, (zI (a.val : Int) >>> (zI (l.val : Int) &&& 31)) = zI ((a.val >>> l.val : Nat) : Int) := by decide +kernel
theorem bit_and1 : ∀ a : Fin 64, (zI (a.val : Int) &&& 1) = zI ((a.val % 2 : Nat) : Int) := by decide +kernel
theorem bit_mix : ∀ a : Fin 64, ∀ b : Fin 64, ((zI (a.val : Int) &&& (zI (b.val : Int) ^^^ (-1))) &&& 1) = zI (if a.val % 2 = 1 ∧ b.val % 2 = 0 then 1 else 0) := by decide +kernel
theorem tb_mod (a l : Nat) : a.testBit l = true ↔ (a >>> l) % 2 = 1 := by
  rw [Nat.testBit_eq_decide_div_mod_eq, Nat.shiftRight_eq_div_pow]; simp
theorem pb_class {a b l : Nat} (ha : a < 64) (hb : b < 64) (hl : l < 6) : (((zI (a : Int) &&& (zI (b : Int) ^^^ (-1))) >>> (zI (l : Int) &&& 31)) &&& 1) = zI (pbF a b l) := by
  have h1 := bit_dif ⟨a, ha⟩ ⟨b, hb⟩
  have hc : a &&& (63 ^^^ b) < 64 := Nat.lt_of_le_of_lt Nat.and_le_left ha
  have h2 := bit_shr ⟨l, hl⟩ ⟨a &&& (63 ^^^ b), hc⟩
  have hd : (a &&& (63 ^^^ b)) >>> l < 64 := by rw [Nat.shiftRight_eq_div_pow]; exact Nat.lt_of_le_of_lt (Nat.div_le_self _ _) hc
  have h3 := bit_and1 ⟨(a &&& (63 ^^^ b)) >>> l, hd⟩
  dsimp only at h1 h2 h3
  rw [h1, h2, h3]
  have e : (a &&& (63 ^^^ b)).testBit l = (a.testBit l && !b.testBit l) := by
    rw [Nat.testBit_and, Nat.testBit_xor]
    have : (63 : Nat).testBit l = true := by
      rcases (by omega : l = 0 ∨ l = 1 ∨ l = 2 ∨ l = 3 ∨ l = 4 ∨ l = 5) with rfl | rfl | rfl | rfl | rfl | rfl <;> decide
    rw [this]; simp
  unfold pbF
  rw [Int.toNat_natCast, Int.toNat_natCast, ← e]
  by_cases q : (a &&& (63 ^^^ b)).testBit l = true
  · rw [if_pos q, (tb_mod _ _).mp q]; rfl
  · rw [if_neg q]
    have : ¬ ((a &&& (63 ^^^ b)) >>> l) % 2 = 1 := fun z => q ((tb_mod _ _).mpr z)
    rw [show ((a &&& (63 ^^^ b)) >>> l) % 2 = 0 by omega]; rfl
theorem pb_ref {a b l : Nat} (ha : a < 64) (hb : b < 64) (hl : l < 6) : (((zI (a : Int) >>> (zI (l : Int) &&& 31)) &&& ((zI (b : Int) >>> (zI (l : Int) &&& 31)) ^^^ (-1))) &&& 1) = zI (pbF a b l) := by
  have h1 := bit_shr ⟨l, hl⟩ ⟨a, ha⟩
  have h2 := bit_shr ⟨l, hl⟩ ⟨b, hb⟩
  have ha2 : a >>> l < 64 := by rw [Nat.shiftRight_eq_div_pow]; exact Nat.lt_of_le_of_lt (Nat.div_le_self _ _) ha
  have hb2 : b >>> l < 64 := by rw [Nat.shiftRight_eq_div_pow]; exact Nat.lt_of_le_of_lt (Nat.div_le_self _ _) hb
  have h3 := bit_mix ⟨a >>> l, ha2⟩ ⟨b >>> l, hb2⟩
  dsimp only at h1 h2 h3
  rw [h1, h2, h3]
  unfold pbF
  rw [Int.toNat_natCast, Int.toNat_natCast]
  have qa := tb_mod a l
  have qb := tb_mod b l
  congr 1
  by_cases z : (a >>> l) % 2 = 1
  · by_cases y : (b >>> l) % 2 = 1
    · rw [qa.mpr z, qb.mpr y, if_neg (by omega)]; rfl
    · have : b.testBit l = false := by
        cases hh : b.testBit l
        · rfl
        · exact absurd (qb.mp hh) y
      rw [qa.mpr z, this, if_pos (by omega)]; rfl
  · have : a.testBit l = false := by
      cases hh : a.testBit l
      · rfl
      · exact absurd (qa.mp hh) z
    rw [this, if_neg (by omega)]; rfl
theorem ovF_lt (R : rw_) (c : Nat) : ∀ l, ovF R c l < 2 ^ l
  | 0 => Nat.one_pos
  | l + 1 => by
    have := ovF_lt R c l
    unfold ovF
    rw [Nat.pow_succ]
    split <;> omega
theorem pow6 {l : Nat} (hl : l ≤ 6) : 2 ^ l ≤ 64 := Nat.pow_le_pow_right (n := 2) (by decide) hl
