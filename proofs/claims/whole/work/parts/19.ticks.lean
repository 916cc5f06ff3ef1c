/-! the order of moving, a tick -/
theorem ins_0 {R : rw_} {O : Nat → Nat} {c : Nat} : insF R O c 0 = upN O 0 c := rfl
theorem ins_s {R : rw_} {O : Nat → Nat} {c k : Nat} : insF R O c (k + 1) = if R (71 + 10 * O k) < R (71 + 10 * c) then insF R (upN O (k + 1) (O k)) c k else upN O (k + 1) c := rfl
theorem upN_at {O : Nat → Nat} {k v : Nat} : upN O k v k = v := by simp [upN]
theorem upN_ne {O : Nat → Nat} {k v j : Nat} (h : j ≠ k) : upN O k v j = O j := by simp [upN, h]
/-- with a hole at k: all others of the first n + 1 apart, none of them c -/
def apO (O : Nat → Nat) (c n k : Nat) : Prop := (∀ i j, i ≤ n → j ≤ n → i ≠ k → j ≠ k → i ≠ j → O i ≠ O j) ∧ ∀ i, i ≤ n → i ≠ k → O i ≠ c
theorem ins_ap {R : rw_} {c n : Nat} : ∀ {k : Nat} {O : Nat → Nat}, k ≤ n → apO O c n k → (∀ i j, i ≤ n → j ≤ n → i ≠ j → insF R O c k i ≠ insF R O c k j) ∧ ∀ i, i ≤ n → insF R O c k i = c ∨ ∃ j, j ≤ n ∧ j ≠ k ∧ insF R O c k i = O j := by
  have put : ∀ {k : Nat} {O : Nat → Nat}, k ≤ n → apO O c n k → (∀ i j, i ≤ n → j ≤ n → i ≠ j → upN O k c i ≠ upN O k c j) ∧ ∀ i, i ≤ n → upN O k c i = c ∨ ∃ j, j ≤ n ∧ j ≠ k ∧ upN O k c i = O j := by
    intro k O hk h
    refine ⟨fun i j hi hj hij => ?_, fun i hi => ?_⟩
    · by_cases a : i = k
      · rw [a, upN_at, upN_ne (by omega)]
        exact fun z => h.2 j hj (by omega) z.symm
      · by_cases b : j = k
        · rw [b, upN_at, upN_ne a]
          exact h.2 i hi a
        · rw [upN_ne a, upN_ne b]
          exact h.1 i j hi hj a b hij
    · by_cases a : i = k
      · rw [a, upN_at]; exact Or.inl rfl
      · rw [upN_ne a]; exact Or.inr ⟨i, hi, a, rfl⟩
  intro k
  induction k with
  | zero => intro O hk h; rw [ins_0]; exact put hk h
  | succ k ih =>
    intro O hk h
    rw [ins_s]
    split
    · have h2 : apO (upN O (k + 1) (O k)) c n k := by
        refine ⟨fun i j hi hj a b hij => ?_, fun i hi a => ?_⟩
        · by_cases y : i = k + 1
          · rw [y, upN_at, upN_ne (by omega)]
            exact h.1 k j (by omega) hj (by omega) (by omega) (by omega)
          · by_cases z : j = k + 1
            · rw [z, upN_at, upN_ne y]
              exact h.1 i k hi (by omega) (by omega) (by omega) (by omega)
            · rw [upN_ne y, upN_ne z]
              exact h.1 i j hi hj y z hij
        · by_cases y : i = k + 1
          · rw [y, upN_at]; exact h.2 k (by omega) (by omega)
          · rw [upN_ne y]; exact h.2 i hi y
      obtain ⟨a, b⟩ := ih (by omega) h2
      refine ⟨a, fun i hi => ?_⟩
      rcases b i hi with z | ⟨j, z1, z2, z3⟩
      · exact Or.inl z
      · by_cases y : j = k + 1
        · rw [y, upN_at] at z3; exact Or.inr ⟨k, by omega, by omega, z3⟩
        · rw [upN_ne y] at z3; exact Or.inr ⟨j, z1, y, z3⟩
    · exact put hk h
theorem ord_s {R : rw_} {c : Nat} : ordF R (c + 1) = if R (75 + 10 * c) = 0 then (insF R (ordF R c).1 c (ordF R c).2, (ordF R c).2 + 1) else ordF R c := rfl
theorem ord_ok (R : rw_) : ∀ c : Nat, (ordF R c).2 ≤ c ∧ (∀ j, j < (ordF R c).2 → (ordF R c).1 j < c ∧ R (75 + 10 * (ordF R c).1 j) = 0) ∧ ∀ i j, i < (ordF R c).2 → j < (ordF R c).2 → i ≠ j → (ordF R c).1 i ≠ (ordF R c).1 j
  | 0 => ⟨Nat.le_refl 0, fun j hj => absurd hj (Nat.not_lt_zero j), fun i j hi => absurd hi (Nat.not_lt_zero i)⟩
  | c + 1 => by
    obtain ⟨h1, h2, h3⟩ := ord_ok R c
    rw [ord_s]
    split
    next hg =>
      have ha : apO (ordF R c).1 c (ordF R c).2 (ordF R c).2 := ⟨fun i j hi hj a b hij => h3 i j (by omega) (by omega) hij, fun i hi a => by have := (h2 i (by omega)).1; omega⟩
      obtain ⟨a, b⟩ := ins_ap (R := R) (Nat.le_refl _) ha
      refine ⟨by show (ordF R c).2 + 1 ≤ c + 1; omega, fun j hj => ?_, fun i j hi hj hij => a i j (by have : i < (ordF R c).2 + 1 := hi; omega) (by have : j < (ordF R c).2 + 1 := hj; omega) hij⟩
      rcases b j (by have : j < (ordF R c).2 + 1 := hj; omega) with z | ⟨i, z1, z2, z3⟩
      · show insF R (ordF R c).1 c (ordF R c).2 j < c + 1 ∧ R (75 + 10 * insF R (ordF R c).1 c (ordF R c).2 j) = 0
        rw [z]; exact ⟨by omega, hg⟩
      · show insF R (ordF R c).1 c (ordF R c).2 j < c + 1 ∧ R (75 + 10 * insF R (ordF R c).1 c (ordF R c).2 j) = 0
        rw [z3]
        have := h2 i (by omega)
        exact ⟨by omega, this.2⟩
    next hg =>
      exact ⟨by omega, fun j hj => by have := h2 j hj; exact ⟨by omega, this.2⟩, h3⟩
theorem mov_s {R C : rw_} {O : Nat → Nat} {k : Nat} : movN R C O (k + 1) = mvF (movN R C O k).1 (movN R C O k).2 (O k) := rfl
/-- cars that haven't moved yet are as they were -/
theorem mov_ne {R C : rw_} {O : Nat → Nat} : ∀ {k j : Nat}, (∀ i, i < k → ¬ (70 + 10 * O i ≤ j ∧ j < 80 + 10 * O i)) → (movN R C O k).1 j = R j
  | 0, _, _ => rfl
  | k + 1, j, h => by
    rw [mov_s, mvF_ne (h k (by omega))]
    exact mov_ne (fun i hi => h i (by omega))
theorem mov_ok {R C : rw_} {O : Nat → Nat} {n : Nat} (hW : WF R) (hL : LayOK R C) (h2 : ∀ j, j < n → (O j : Int) < R 4 ∧ R (75 + 10 * O j) = 0) (h3 : ∀ i j, i < n → j < n → i ≠ j → O i ≠ O j) : ∀ k, k ≤ n → WF (movN R C O k).1 ∧ LayOK (movN R C O k).1 (movN R C O k).2 ∧ (movN R C O k).1 4 = R 4 ∧ (movN R C O k).1 3 = R 3 ∧ ∀ j, k ≤ j → j < n → (movN R C O k).1 (75 + 10 * O j) = 0
  | 0, _ => ⟨hW, hL, rfl, rfl, fun j _ hj => (h2 j hj).2⟩
  | k + 1, hk => by
    obtain ⟨a, b, e4, e3, d⟩ := mov_ok hW hL h2 h3 k (by omega)
    have hc : (O k : Int) < (movN R C O k).1 4 := by rw [e4]; exact (h2 k (by omega)).1
    obtain ⟨a2, b2⟩ := mv_ok a b hc (d k (Nat.le_refl k) (by omega))
    rw [mov_s]
    refine ⟨a2, b2, ?_, ?_, fun j h1 h4 => ?_⟩
    · rw [mvF_ne (by omega)]; exact e4
    · rw [mvF_ne (by omega)]; exact e3
    · have hne := h3 k j (by omega) h4 (by omega)
      rw [mvF_ne (by omega)]
      exact d j (by omega) h4
theorem ord_rd {R : rw_} (hW : WF R) : (∀ j, j < (ordF R (R 4).toNat).2 → (((ordF R (R 4).toNat).1 j : Nat) : Int) < R 4 ∧ R (75 + 10 * (ordF R (R 4).toNat).1 j) = 0) ∧ (∀ i j, i < (ordF R (R 4).toNat).2 → j < (ordF R (R 4).toNat).2 → i ≠ j → (ordF R (R 4).toNat).1 i ≠ (ordF R (R 4).toNat).1 j) ∧ (ordF R (R 4).toNat).2 ≤ 40 := by
  obtain ⟨a, b, d⟩ := ord_ok R (R 4).toNat
  have hb := hW.c
  refine ⟨fun j hj => ?_, d, by omega⟩
  have := b j hj
  exact ⟨by omega, this.2⟩
theorem ma_ok {R C : rw_} (hW : WF R) (hL : LayOK R C) : WF (maF R C).1 ∧ LayOK (maF R C).1 (maF R C).2 ∧ (maF R C).1 4 = R 4 ∧ (maF R C).1 3 = R 3 := by
  obtain ⟨a, b, d⟩ := ord_rd hW
  obtain ⟨x1, x2, x3, x4, -⟩ := mov_ok hW hL a b _ (Nat.le_refl _)
  exact ⟨x1, x2, x3, x4⟩
theorem ma_low {R C : rw_} {j : Nat} (hj : j < 70) : (maF R C).1 j = R j := mov_ne (fun i hi => by omega)
theorem hea_ok {R C : rw_} {l : Nat} {s : Int} (hW : WF R) (hL : LayOK R C) (hl : (l : Int) < R 3) : WF (heaF R l s) ∧ LayOK (heaF R l s) C := by
  have h6 := hW.l.2
  have w := hW.2.2.1 l hl
  refine ⟨hW.setl hl ?_ (fun k hk => heaF_ne hk), hL.cong (heaF_ne (by omega)) (fun c hc => ⟨heaF_ne (by omega), heaF_ne (by omega), heaF_ne (by omega), heaF_ne (by omega)⟩)⟩
  unfold WFl at *
  rw [heaF_ne2 (k := 10 + 10 * l) (by omega) (by omega) (by omega), heaF_ne2 (k := 11 + 10 * l) (by omega) (by omega) (by omega), heaF_ne2 (k := 12 + 10 * l) (by omega) (by omega) (by omega), heaF_ne2 (k := 13 + 10 * l) (by omega) (by omega) (by omega), heaF_ne2 (k := 14 + 10 * l) (by omega) (by omega) (by omega)]
  obtain ⟨y0, y1, y2, y3, y4, y5, y6, y7, y8, y9⟩ := w
  refine ⟨y0, y1, y2, y3, y4, y5, y6, y7, y8, ?_⟩
  unfold heaF
  split
  · rw [up_ne (by omega), up_at]; exact Or.inr rfl
  · split
    · rw [up_at]; exact Or.inl rfl
    · rw [up_ne (by omega)]; exact y9
theorem LayOK.set2 {R C : rw_} (hL : LayOK R C) {v : Int} : LayOK (up R 2 v) C := hL.cong (up_ne (by omega)) (fun c hc => ⟨up_ne (by omega), up_ne (by omega), up_ne (by omega), up_ne (by omega)⟩)
theorem ps_ok {R C : rw_} (hW : WF R) (hL : LayOK R C) (l : Int) : WF (psF R C l).1 ∧ LayOK (psF R C l).1 (psF R C l).2 := by
  obtain ⟨a1, a2, a3, a4⟩ := ma_ok hW hL
  obtain ⟨b1, b2⟩ := pasN_ok a1 a2 (R 4).toNat (by have := hW.c; omega)
  have b3 := (pasN_4 a1.l.2 (R 4).toNat).2
  unfold psF
  split
  · obtain ⟨d1, d2⟩ := hea_ok (s := strF (pasN (maF R C).1 (R 4).toNat) (maF R C).2 l.toNat) b1 b2 (l := l.toNat) (by omega)
    exact ⟨d1.set2, d2.set2⟩
  · exact ⟨b1.set2, b2.set2⟩
theorem tk_ok {R C : rw_} (hW : WF R) (hL : LayOK R C) : ∀ n, WF (tkN R C n).1 ∧ LayOK (tkN R C n).1 (tkN R C n).2
  | 0 => ⟨hW, hL⟩
  | n + 1 => by
    obtain ⟨a, b⟩ := tk_ok hW hL n
    exact ps_ok a b _
section TICKS
variable {r : Nat} {h : mH} {Q : mV → mH → Prop} {R C : rw_}
/-- hear, on a loop by itself -/
theorem c2_hear {l : Nat} {s : Int} (hl : RPl h r R l) (hw : R (15 + 10 * l) = 0 ∨ R (15 + 10 * l) = 1) (hb : -2147483648 ≤ R (13 + 10 * l) ∧ R (13 + 10 * l) < 2147483648 ∧ -2147483648 ≤ R (14 + 10 * l) ∧ R (14 + 10 * l) < 2147483648) (hs : -2147483648 ≤ s ∧ s < 2147483648) (hq : ∀ h2, RPl h2 r (heaF R l s) l → (∀ k r2 i j, ¬ (k = 6 ∧ r2 = r ∧ i = l) → h2.1 k r2 i j = h.1 k r2 i j) → h2.2 = h.2 → Q vU h2) : mC M2_hear [.inr (.inr (some (6, r, l))), .inl (zI s)] h Q := by
  obtain ⟨c0, c1, c2, c3, c4, c5, c6, c7, c8⟩ := id hl
  have n1 : ∀ {v1 : Int32} (k r2 i j : Nat), ¬ (k = 6 ∧ r2 = r ∧ i = l) → (pI h 6 r l 8 v1).1 k r2 i j = h.1 k r2 i j := fun k r2 i j n => pI_ne (fun z => n ⟨z.1, z.2.2.1, z.2.2.2⟩)
  refine w2_hear ?_
  rw [c3, c4, c5, c6, c8, z0, z1, z_add, z_add]
  simp (disch := omega) only [z_lt, z_le, z_eq]
  have A : ¬ (R (15 + 10 * l) = 0 ∧ R (13 + 10 * l) ≤ s) → ¬ (R (15 + 10 * l) = 1 ∧ s < R (14 + 10 * l)) → Q vU (pI h 6 r l 8 (zI (R (19 + 10 * l) + 1))) := by
    intro q1 q2
    refine hq _ ?_ (fun k r2 i j n => n1 k r2 i j n) rfl
    unfold heaF
    rw [if_neg q1, if_neg q2]
    unfold RPl
    simp [pI, up, c0, c1, c2, c3, c4, c5, c6, c7]
  have B : R (15 + 10 * l) = 1 ∧ s < R (14 + 10 * l) → Q vU (pI (pI h 6 r l 8 (zI (R (19 + 10 * l) + 1))) 6 r l 5 (zI 0)) := by
    intro q2
    have q1 : ¬ (R (15 + 10 * l) = 0 ∧ R (13 + 10 * l) ≤ s) := by omega
    refine hq _ ?_ (fun k r2 i j n => by rw [pI_ne (fun z => n ⟨z.1, z.2.2.1, z.2.2.2⟩)]; exact n1 k r2 i j n) rfl
    unfold heaF
    rw [if_neg q1, if_pos q2]
    unfold RPl
    simp [pI, up, c0, c1, c2, c3, c4, c6, c7]
  have D : R (15 + 10 * l) = 0 ∧ R (13 + 10 * l) ≤ s → Q vU (pI (pI (pI h 6 r l 8 (zI (R (19 + 10 * l) + 1))) 6 r l 5 (zI 1)) 6 r l 6 (zI (R (16 + 10 * l) + 1))) := by
    intro q1
    refine hq _ ?_ (fun k r2 i j n => by rw [pI_ne (fun z => n ⟨z.1, z.2.2.1, z.2.2.2⟩), pI_ne (fun z => n ⟨z.1, z.2.2.1, z.2.2.2⟩)]; exact n1 k r2 i j n) rfl
    unfold heaF
    rw [if_pos q1]
    unfold RPl
    simp [pI, up, c0, c1, c2, c3, c4, c7]
  refine ⟨fun q => ⟨fun _ => A (by omega) (by omega), fun _ => ⟨fun _ => A (by omega) (by omega), fun _ => B (by omega)⟩⟩, fun q => ⟨fun _ => ⟨fun _ => A (by omega) (by omega), fun _ => by omega⟩, fun _ => D (by omega)⟩⟩
/-- the movers of a road, as far as n -/
def MvO (h : mH) (r : Nat) (O : Nat → Nat) (n : Nat) : Prop := ∀ j, j < n → h.2 r j = some (r, O j)
theorem l4_insertMover {c n : Nat} (hP : RP h r R C) (hW : WF R) (hc : (c : Int) < R 4) (hn : n < 40) (hq : ∀ h2, h2.1 = h.1 → MvO h2 r (insF R (ordF R c).1 c n) (n + 1) → Q vU h2) : ∀ (k : Nat) (O : Nat → Nat) (g : mH), k ≤ n → g.1 = h.1 → (∀ j, j ≤ n → j ≠ k → g.2 r j = some (r, O j)) → (∀ j, j ≤ n → j ≠ k → ((O j : Nat) : Int) < R 4) → insF R O c k = insF R (ordF R c).1 c n → mE M4_insertMover 7 [vR 0 r 0, vR 5 r c, vU, vI (zI k), vI (zI ((k : Int) - 1)), vU] [] g Q := by
  have gc := RPc.of hP hc
  have hb := hW.c
  intro k
  induction k with
  | zero =>
    intro O g hk hg hM hO hF
    refine w4_insertMover_7 ?_
    simp (disch := omega) only [z_lit, z_lt, z_le]
    refine ⟨fun _ => ⟨fun _ => by omega, fun _ => ⟨fun _ => by omega, fun _ => ⟨z_in (by omega) (by omega) (by omega), ?_⟩⟩⟩, fun _ => by omega⟩
    rw [z_clamp (by omega) (by omega)]
    refine hq _ hg (fun j hj => ?_)
    rw [← hF, ins_0]
    by_cases q : j = 0
    · rw [q, upN_at]; simp [pM]
    · rw [upN_ne q]
      simp only [pM]
      rw [if_neg (by omega)]
      exact hM j (by omega) q
  | succ k ih =>
    intro O g hk hg hM hO hF
    refine w4_insertMover_7 ?_
    have e1 : ((k + 1 : Nat) : Int) - 1 = (k : Int) := by omega
    rw [e1]
    simp (disch := omega) only [z_lit, z_neg, z_add, z_lt, z_le]
    refine ⟨fun _ => by omega, fun _ => ⟨fun _ => by omega, fun _ => ⟨z_in (by omega) (by omega) (by omega), fun q => ?_, fun r2 c2 q => ?_⟩⟩⟩
    · rw [z_clamp (by omega) (by omega), Int.toNat_natCast, hM k (by omega) (by omega)] at q
      cases q
    · rw [z_clamp (by omega) (by omega), Int.toNat_natCast, hM k (by omega) (by omega)] at q
      cases q
      have gk := RPc.of hP (hO k (by omega) (by omega))
      have wk := hW.2.1 _ (hO k (by omega) (by omega))
      have wc := hW.2.1 _ hc
      unfold WFc at wk wc
      rw [hg, gk.2.1, gc.2.1]
      rw [ins_s] at hF
      simp (disch := omega) only [z_lt]
      refine ⟨fun q => ⟨z_in (by omega) (by omega) (by omega), ?_⟩, fun q => ⟨fun _ => by omega, fun _ => ⟨fun _ => by omega, fun _ => ⟨z_in (by omega) (by omega) (by omega), ?_⟩⟩⟩⟩
      · rw [if_pos q] at hF
        have e2 : (k : Int) + -((1 : Nat) : Int) = (k : Int) - 1 := by omega
        rw [e2, z_clamp (by omega) (by omega)]
        refine ih (upN O (k + 1) (O k)) _ (by omega) hg (fun j hj hjk => ?_) (fun j hj hjk => ?_) hF
        · simp only [pM]
          by_cases y : j = k + 1
          · rw [y, upN_at]; exact if_pos ⟨trivial, by omega⟩
          · rw [upN_ne y, if_neg (by omega)]
            exact hM j hj y
        · by_cases y : j = k + 1
          · rw [y, upN_at]; exact hO k (by omega) (by omega)
          · rw [upN_ne y]; exact hO j hj y
      · rw [if_neg q] at hF
        rw [z_clamp (by omega) (by omega)]
        refine hq _ hg (fun j hj => ?_)
        rw [← hF]
        simp only [pM]
        by_cases y : j = k + 1
        · rw [y, upN_at]; exact if_pos ⟨trivial, by omega⟩
        · rw [upN_ne y, if_neg (by omega)]
          exact hM j (by omega) y
theorem c4_insertMover {c n : Nat} (hP : RP h r R C) (hW : WF R) (hc : (c : Int) < R 4) (hn : n < 40) (hM : MvO h r (ordF R c).1 n) (hO : ∀ j, j < n → (((ordF R c).1 j : Nat) : Int) < R 4) (hq : ∀ h2, h2.1 = h.1 → MvO h2 r (insF R (ordF R c).1 c n) (n + 1) → Q vU h2) : mC M4_insertMover [.inr (.inr (some (0, r, 0))), .inr (.inr (some (5, r, c))), .inl (zI n)] h Q := by
  refine w4_insertMover ?_
  rw [z1, z_sub]
  exact l4_insertMover hP hW hc hn hq n (ordF R c).1 h (Nat.le_refl n) rfl (fun j hj hjn => hM j (by omega)) (fun j hj hjn => hO j (by omega)) rfl
theorem RP.same1 {h h2 : mH} (hP : RP h r R C) (e : h2.1 = h.1) : RP h2 r R C := by
  unfold RP RPs RPc RPl at *
  rw [e]
  exact hP
theorem l4_orderMovers (hP : RP h r R C) (hW : WF R) (hq : ∀ h2, h2.1 = h.1 → MvO h2 r (ordF R (R 4).toNat).1 (ordF R (R 4).toNat).2 → Q (vI (zI ((ordF R (R 4).toNat).2 : Int))) h2) : ∀ (n c : Nat) (g : mH), c + n = (R 4).toNat → g.1 = h.1 → MvO g r (ordF R c).1 (ordF R c).2 → mE M4_orderMovers 4 [vR 0 r 0, vI (zI ((ordF R c).2 : Int)), vI (zI c), vU] [] g Q := by
  have hb := hW.c
  intro n
  induction n with
  | zero =>
    intro c g hc hg hM
    refine w4_orderMovers_4 ?_
    rw [hg, hP.c4]
    simp (disch := omega) only [z_le]
    rw [Nat.add_zero] at hc
    refine ⟨fun _ => ?_, fun _ => by omega⟩
    rw [hc] at hM ⊢
    exact hq g hg hM
  | succ n ih =>
    intro c g hc hg hM
    have hP2 := hP.same1 hg
    have hc4 : (c : Int) < R 4 := by omega
    have w := hW.2.1 c hc4
    unfold WFc at w
    obtain ⟨o1, o2, o3⟩ := ord_ok R c
    have ee : ((c + 1 : Nat) : Int) = (c : Int) + 1 := by omega
    refine w4_orderMovers_4 ?_
    rw [hg, hP.c4]
    simp (disch := omega) only [z_le]
    refine ⟨fun _ => by omega, fun _ => ?_⟩
    refine c4_carN hP2.c4 hc4 hb.2 ?_
    show (¬ g.1 5 r c 6 = 0 → _) ∧ (g.1 5 r c 6 = 0 → (40 ≤ zI _ → _) ∧ (¬ 40 ≤ zI _ → _))
    rw [hg, (RPc.of hP hc4).2.2.2.2.2.1, z1, z0, z_add, ← ee]
    simp (disch := omega) only [z_lit, z_eq, z_le]
    refine ⟨fun q => ?_, fun q => ⟨fun _ => by omega, fun _ => ?_⟩⟩
    · have e := ih (c + 1) g (by omega) hg
      rw [ord_s, if_neg q] at e
      exact e hM
    · refine c4_insertMover hP2 hW hc4 (by omega) hM (fun j hj => by have := (o2 j hj).1; omega) (fun g2 hg2 hM2 => ?_)
      have e := ih (c + 1) g2 (by omega) (hg2.trans hg)
      rw [ord_s, if_pos q] at e
      have e2 := e hM2
      rw [show (((ordF R c).2 + 1 : Nat) : Int) = ((ordF R c).2 : Int) + 1 by omega, ← z_add, ← z1] at e2
      exact e2
theorem c4_orderMovers (hP : RP h r R C) (hW : WF R) (hq : ∀ h2, h2.1 = h.1 → MvO h2 r (ordF R (R 4).toNat).1 (ordF R (R 4).toNat).2 → Q (vI (zI ((ordF R (R 4).toNat).2 : Int))) h2) : mC M4_orderMovers [.inr (.inr (some (0, r, 0)))] h Q :=
  w4_orderMovers (l4_orderMovers hP hW hq _ 0 h (Nat.zero_add _) rfl (fun j hj => absurd hj (Nat.not_lt_zero j)))
end TICKS
