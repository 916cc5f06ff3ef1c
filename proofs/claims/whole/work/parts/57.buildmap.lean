/-! from the second machine's heap to the first's -/
def rq (r : Nat) : Nat := if r = 0 then 1 else if r = 1 then 52 else if r < 9 then 109 + 51 * (r - 2) else 469 + 51 * (r - 9)
theorem rq_c (r : Nat) : (r = 0 ∧ rq r = 1) ∨ (r = 1 ∧ rq r = 52) ∨ (2 ≤ r ∧ r < 9 ∧ rq r = 109 + 51 * (r - 2)) ∨ (9 ≤ r ∧ rq r = 469 + 51 * (r - 9)) := by
  unfold rq
  split
  · exact Or.inl ⟨by assumption, rfl⟩
  · split
    · exact Or.inr (Or.inl ⟨by assumption, rfl⟩)
    · split
      · exact Or.inr (Or.inr (Or.inl ⟨by omega, by assumption, rfl⟩))
      · exact Or.inr (Or.inr (Or.inr ⟨by omega, rfl⟩))
def of_ (k r i : Nat) : Nat := match k with
  | 0 => rq r
  | 1 => rq r + 1
  | 2 => rq r + 2
  | 3 => rq r + 3
  | 4 => rq r + 4
  | 5 => rq r + 5 + i
  | 6 => if r = 11 then 103 else rq r + 45 + i
  | 7 => 0
  | 8 => 104
  | 9 => 105
  | 10 => 106
  | 11 => 107
  | 12 => 108
  | 13 => 466
  | 14 => 467
  | 15 => 468
  | k => 551 + k
theorem ok_30 {k r i : Nat} (h : okId k r i) : k = 0 ∨ k = 1 ∨ k = 2 ∨ k = 3 ∨ k = 4 ∨ k = 5 ∨ k = 6 ∨ k = 7 ∨ k = 8 ∨ k = 9 ∨ k = 10 ∨ k = 11 ∨ k = 12 ∨ k = 13 ∨ k = 14 ∨ k = 15 ∨ k = 16 ∨ k = 17 ∨ k = 18 ∨ k = 19 ∨ k = 20 ∨ k = 21 ∨ k = 22 ∨ k = 23 ∨ k = 24 ∨ k = 25 ∨ k = 26 ∨ k = 27 ∨ k = 28 ∨ k = 29 := by
  have := ok_rng h
  omega
def ofR (k r i d : Nat) : Prop := k ≤ 6 ∧ r < 11 ∧ d < 51 ∧ of_ k r i = rq r + d ∧ ((d = k ∧ k < 5 ∧ i = 0) ∨ (k = 5 ∧ d = 5 + i ∧ i < 40) ∨ (k = 6 ∧ d = 45 + i))
def ofC (k r i : Nat) : Prop := i = 0 ∧ ((k = 6 ∧ r = 11 ∧ of_ k r i = 103) ∨ (r = 0 ∧ ((k = 7 ∧ of_ k r i = 0) ∨ (8 ≤ k ∧ k ≤ 12 ∧ of_ k r i = 96 + k) ∨ (13 ≤ k ∧ k ≤ 15 ∧ of_ k r i = 453 + k) ∨ (20 ≤ k ∧ k < 30 ∧ of_ k r i = 551 + k))))
theorem of_cases {k r i : Nat} (h : okId k r i) : (∃ d, ofR k r i d) ∨ ofC k r i := by
  rcases ok_30 h with e | e | e | e | e | e | e | e | e | e | e | e | e | e | e | e | e | e | e | e | e | e | e | e | e | e | e | e | e | e <;> subst e
  · obtain ⟨h1, h2⟩ : r < 11 ∧ i = 0 := h
    exact Or.inl ⟨0, by omega, h1, by omega, rfl, Or.inl ⟨rfl, by omega, h2⟩⟩
  · obtain ⟨h1, h2⟩ : r < 11 ∧ i = 0 := h
    exact Or.inl ⟨1, by omega, h1, by omega, rfl, Or.inl ⟨rfl, by omega, h2⟩⟩
  · obtain ⟨h1, h2⟩ : r < 11 ∧ i = 0 := h
    exact Or.inl ⟨2, by omega, h1, by omega, rfl, Or.inl ⟨rfl, by omega, h2⟩⟩
  · obtain ⟨h1, h2⟩ : r < 11 ∧ i = 0 := h
    exact Or.inl ⟨3, by omega, h1, by omega, rfl, Or.inl ⟨rfl, by omega, h2⟩⟩
  · obtain ⟨h1, h2⟩ : r < 11 ∧ i = 0 := h
    exact Or.inl ⟨4, by omega, h1, by omega, rfl, Or.inl ⟨rfl, by omega, h2⟩⟩
  · obtain ⟨h1, h2⟩ : r < 11 ∧ i < 40 := h
    exact Or.inl ⟨5 + i, by omega, h1, by omega, Nat.add_assoc _ _ _, Or.inr (Or.inl ⟨rfl, rfl, h2⟩)⟩
  · have h : (r < 11 ∧ i < 6) ∨ (r = 11 ∧ i = 0) := h
    rcases h with ⟨h1, h2⟩ | ⟨h1, h2⟩
    · refine Or.inl ⟨45 + i, by omega, h1, by omega, ?_, Or.inr (Or.inr ⟨rfl, rfl⟩)⟩
      show (if r = 11 then 103 else rq r + 45 + i) = _
      rw [if_neg (by omega), Nat.add_assoc]
    · refine Or.inr ⟨h2, Or.inl ⟨rfl, h1, ?_⟩⟩
      show (if r = 11 then 103 else rq r + 45 + i) = _
      rw [if_pos h1]
  · obtain ⟨-, h1, h2⟩ : _ < 30 ∧ r = 0 ∧ i = 0 := h
    exact Or.inr ⟨h2, Or.inr ⟨h1, Or.inl ⟨rfl, rfl⟩⟩⟩
  · obtain ⟨-, h1, h2⟩ : _ < 30 ∧ r = 0 ∧ i = 0 := h
    exact Or.inr ⟨h2, Or.inr ⟨h1, Or.inr (Or.inl ⟨by omega, by omega, rfl⟩)⟩⟩
  · obtain ⟨-, h1, h2⟩ : _ < 30 ∧ r = 0 ∧ i = 0 := h
    exact Or.inr ⟨h2, Or.inr ⟨h1, Or.inr (Or.inl ⟨by omega, by omega, rfl⟩)⟩⟩
  · obtain ⟨-, h1, h2⟩ : _ < 30 ∧ r = 0 ∧ i = 0 := h
    exact Or.inr ⟨h2, Or.inr ⟨h1, Or.inr (Or.inl ⟨by omega, by omega, rfl⟩)⟩⟩
  · obtain ⟨-, h1, h2⟩ : _ < 30 ∧ r = 0 ∧ i = 0 := h
    exact Or.inr ⟨h2, Or.inr ⟨h1, Or.inr (Or.inl ⟨by omega, by omega, rfl⟩)⟩⟩
  · obtain ⟨-, h1, h2⟩ : _ < 30 ∧ r = 0 ∧ i = 0 := h
    exact Or.inr ⟨h2, Or.inr ⟨h1, Or.inr (Or.inl ⟨by omega, by omega, rfl⟩)⟩⟩
  · obtain ⟨-, h1, h2⟩ : _ < 30 ∧ r = 0 ∧ i = 0 := h
    exact Or.inr ⟨h2, Or.inr ⟨h1, Or.inr (Or.inr (Or.inl ⟨by omega, by omega, rfl⟩))⟩⟩
  · obtain ⟨-, h1, h2⟩ : _ < 30 ∧ r = 0 ∧ i = 0 := h
    exact Or.inr ⟨h2, Or.inr ⟨h1, Or.inr (Or.inr (Or.inl ⟨by omega, by omega, rfl⟩))⟩⟩
  · obtain ⟨-, h1, h2⟩ : _ < 30 ∧ r = 0 ∧ i = 0 := h
    exact Or.inr ⟨h2, Or.inr ⟨h1, Or.inr (Or.inr (Or.inl ⟨by omega, by omega, rfl⟩))⟩⟩
  · exact absurd h (fun z => z)
  · exact absurd h (fun z => z)
  · exact absurd h (fun z => z)
  · exact absurd h (fun z => z)
  · obtain ⟨-, h1, h2⟩ : _ < 30 ∧ r = 0 ∧ i = 0 := h
    exact Or.inr ⟨h2, Or.inr ⟨h1, Or.inr (Or.inr (Or.inr ⟨by omega, by omega, rfl⟩))⟩⟩
  · obtain ⟨-, h1, h2⟩ : _ < 30 ∧ r = 0 ∧ i = 0 := h
    exact Or.inr ⟨h2, Or.inr ⟨h1, Or.inr (Or.inr (Or.inr ⟨by omega, by omega, rfl⟩))⟩⟩
  · obtain ⟨-, h1, h2⟩ : _ < 30 ∧ r = 0 ∧ i = 0 := h
    exact Or.inr ⟨h2, Or.inr ⟨h1, Or.inr (Or.inr (Or.inr ⟨by omega, by omega, rfl⟩))⟩⟩
  · obtain ⟨-, h1, h2⟩ : _ < 30 ∧ r = 0 ∧ i = 0 := h
    exact Or.inr ⟨h2, Or.inr ⟨h1, Or.inr (Or.inr (Or.inr ⟨by omega, by omega, rfl⟩))⟩⟩
  · obtain ⟨-, h1, h2⟩ : _ < 30 ∧ r = 0 ∧ i = 0 := h
    exact Or.inr ⟨h2, Or.inr ⟨h1, Or.inr (Or.inr (Or.inr ⟨by omega, by omega, rfl⟩))⟩⟩
  · obtain ⟨-, h1, h2⟩ : _ < 30 ∧ r = 0 ∧ i = 0 := h
    exact Or.inr ⟨h2, Or.inr ⟨h1, Or.inr (Or.inr (Or.inr ⟨by omega, by omega, rfl⟩))⟩⟩
  · obtain ⟨-, h1, h2⟩ : _ < 30 ∧ r = 0 ∧ i = 0 := h
    exact Or.inr ⟨h2, Or.inr ⟨h1, Or.inr (Or.inr (Or.inr ⟨by omega, by omega, rfl⟩))⟩⟩
  · obtain ⟨-, h1, h2⟩ : _ < 30 ∧ r = 0 ∧ i = 0 := h
    exact Or.inr ⟨h2, Or.inr ⟨h1, Or.inr (Or.inr (Or.inr ⟨by omega, by omega, rfl⟩))⟩⟩
  · obtain ⟨-, h1, h2⟩ : _ < 30 ∧ r = 0 ∧ i = 0 := h
    exact Or.inr ⟨h2, Or.inr ⟨h1, Or.inr (Or.inr (Or.inr ⟨by omega, by omega, rfl⟩))⟩⟩
  · obtain ⟨-, h1, h2⟩ : _ < 30 ∧ r = 0 ∧ i = 0 := h
    exact Or.inr ⟨h2, Or.inr ⟨h1, Or.inr (Or.inr (Or.inr ⟨by omega, by omega, rfl⟩))⟩⟩
theorem rq_inj {r r2 d d2 : Nat} (h1 : r < 11) (h2 : r2 < 11) (hd : d < 51) (hd2 : d2 < 51) (e : rq r + d = rq r2 + d2) : r = r2 ∧ d = d2 := by
  rcases rq_c r with ⟨a, b⟩ | ⟨a, b⟩ | ⟨a, c, b⟩ | ⟨a, b⟩ <;> rcases rq_c r2 with ⟨a2, b2⟩ | ⟨a2, b2⟩ | ⟨a2, c2, b2⟩ | ⟨a2, b2⟩ <;> rw [b, b2] at e <;> omega
theorem rq_const {r d k r2 i : Nat} (h1 : r < 11) (hd : d < 51) (C : ofC k r2 i) (e : rq r + d = of_ k r2 i) : False := by
  obtain ⟨-, C⟩ := C
  rcases rq_c r with ⟨a, b⟩ | ⟨a, b⟩ | ⟨a, c, b⟩ | ⟨a, b⟩ <;> rw [b] at e <;> omega
theorem of_inj {k r i k2 r2 i2 : Nat} (h1 : okId k r i) (h2 : okId k2 r2 i2) (e : of_ k r i = of_ k2 r2 i2) : k = k2 ∧ r = r2 ∧ i = i2 := by
  rcases of_cases h1 with ⟨d, a1, a2, a3, a4, a5⟩ | C1 <;> rcases of_cases h2 with ⟨d2, b1, b2, b3, b4, b5⟩ | C2
  · rw [a4, b4] at e
    obtain ⟨e1, e2⟩ := rq_inj a2 b2 a3 b3 e
    omega
  · rw [a4] at e
    exact (rq_const a2 a3 C2 e).elim
  · rw [b4] at e
    exact (rq_const b2 b3 C1 e.symm).elim
  · obtain ⟨i1, C1⟩ := C1
    obtain ⟨i2, C2⟩ := C2
    omega
theorem of_lt {k r i : Nat} (h : okId k r i) : of_ k r i < 581 := by
  rcases of_cases h with ⟨d, a1, a2, a3, a4, a5⟩ | C
  · rw [a4]
    rcases rq_c r with ⟨a, b⟩ | ⟨a, b⟩ | ⟨a, c, b⟩ | ⟨a, b⟩ <;> omega
  · obtain ⟨-, C⟩ := C
    omega
/-- the first machine's addresses -/
def G1 (G : nG) : mG := (fun k r i => G.1 + of_ k r i, G.2.2.1, G.2.2.2, fun k => G.2.1 (kt k))
theorem G1_inj (G : nG) : InjG (G1 G) := fun k r i k2 r2 i2 h1 h2 e => of_inj h1 h2 (Nat.add_left_cancel (show G.1 + of_ k r i = G.1 + of_ k2 r2 i2 from e))
theorem kt_in : ∀ k, k < 30 → kt k ∈ ATs := by decide +kernel
theorem G1_kn {G : nG} {s : State} (h : nKn G s) (hn : ∀ w ∈ NW, va_Nw w s) : Kn (G1 G) s := ⟨h.1, fun k _ _ h3 => (h.2.2.1 _ (kt_in k h3)).1, (h.2.2.1 _ (kt_in 4 (by decide))).2, hn⟩
/-- what the constructors leave, to the first machine -/
def hI_ : mH := (fun k _ _ s => if k = 0 then (if s = 7 ∨ s = 8 then 1 else 0) else if k = 3 then -6 else if k = 21 then (if s < 2 then 1 else 0) else 0, fun _ _ => none)
theorem ini_hI : Ini hI_ := by
  refine ⟨⟨rfl, rfl, rfl, rfl, rfl⟩, fun k _ => rfl, ⟨rfl, rfl, rfl⟩, fun s _ => rfl, fun k _ => rfl, fun k s h1 h2 h3 _ => ?_⟩
  show (if k = 0 then (if s = 7 ∨ s = 8 then (1 : Int32) else 0) else if k = 3 then -6 else if k = 21 then (if s < 2 then 1 else 0) else 0) = 0
  rw [if_neg (by omega), if_neg (by omega), if_neg (by omega)]
theorem vh_hI : VH hI_ := fun r j p h => by cases h
