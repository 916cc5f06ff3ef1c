/-! orders carried out -/
def orP (P : rw_) (n p : Nat) (X : rw_ × rw_) : (rw_ × rw_) × Int := if sgF P n p = 99 then spC X.1 X.2 (dgF P n (p + 1)) (dgF P n (p + 2)) (dgF P n (p + 3)) (dgF P n (p + 4)) else if sgF P n p = 119 then (((spW X.1 (nuE P n p)).1, X.2), (spW X.1 (nuE P n p)).2) else tkS X.1 X.2 (nuE P n p)
def crF (P : rw_) (n : Nat) : Nat → Nat → rw_ × rw_ → (rw_ × rw_) × Nat
  | 0, k, X => (X, k)
  | f + 1, k, X => if (orP P n (stF P n k) X).2 < 0 then ((orP P n (stF P n k) X).1, k) else crF P n f (k + 1) (orP P n (stF P n k) X).1
theorem cr_s {P : rw_} {n f k : Nat} {X : rw_ × rw_} : crF P n (f + 1) k X = if (orP P n (stF P n k) X).2 < 0 then ((orP P n (stF P n k) X).1, k) else crF P n f (k + 1) (orP P n (stF P n k) X).1 := rfl
def prF (P : rw_) (n m : Nat) : Prop := 1 ≤ m ∧ 3 * m ≤ n + 1 ∧ (∀ k, k < m → gdF P n (stF P n k)) ∧ (∀ k, k + 1 < m → enF P n (stF P n k) < n ∧ sgF P n (enF P n (stF P n k)) = 59) ∧ enF P n (stF P n (m - 1)) = n
/-- a row and its cells are right, the tick and the other numbers within B -/
def okX (B : Int) (X : rw_ × rw_) : Prop := WF X.1 ∧ LayOK X.1 X.2 ∧ 0 ≤ X.1 2 ∧ X.1 2 ≤ B ∧ nuX B X.1
theorem tkS_ok2 {B d : Int} {X : rw_ × rw_} (hX : okX B X) (hd : 0 ≤ d) {a : Int} (ha : 1 ≤ a → a ≤ 100 → a ≤ d) : okX (B + d) (tkS X.1 X.2 a).1 := by
  obtain ⟨x1, x2, x3, x4, x5⟩ := hX
  unfold tkS
  split
  next q =>
    have t := tk_ok x1 x2 a.toNat
    have t2 := (tk_lo x1 x2 a.toNat).2.2
    have a2 := ha q.1 q.2
    refine ⟨t.1, t.2, ?_, ?_, (tk_nu x1 x2 x5 _).mono (by omega)⟩
    · dsimp only; rw [t2]; omega
    · dsimp only; rw [t2]; omega
  next => exact ⟨x1, x2, x3, by dsimp only; omega, x5.mono (by omega)⟩
theorem tkS_ok {B : Int} {X : rw_ × rw_} (hX : okX B X) (hB : B ≤ 2000000000) (a : Int) : okX (B + 100) (tkS X.1 X.2 a).1 ∧ i32 (tkS X.1 X.2 a).2 := by
  refine ⟨tkS_ok2 hX (by omega) (fun _ z => z), ?_⟩
  obtain ⟨x1, x2, x3, x4, x5⟩ := hX
  unfold tkS
  split
  next q =>
    have t2 := (tk_lo x1 x2 a.toNat).2.2
    dsimp only; rw [t2]; omega
  next => dsimp only; omega
theorem ovA_2 {R : rw_} {l n : Nat} : ovA R l n 2 = R 2 := ovA_ne (fun c hc => by omega)
theorem spW_2 {R : rw_} {a : Int} : (spW R a).1 2 = R 2 := by
  unfold spW
  (repeat' split) <;> first | rfl | exact up_ne (by omega)
theorem spV_2 {R : rw_} {a v : Int} : (spV R a v).1 2 = R 2 := by
  unfold spV
  (repeat' split) <;> first | rfl | exact up_ne (by omega)
theorem spS_2 {R : rw_} {a v : Int} : (spS R a v).1 2 = R 2 := by
  unfold spS
  (repeat' split) <;> first | rfl | exact up_ne (by omega)
theorem spB_2 {R : rw_} {l u lo : Int} : (spB R l u lo).1 2 = R 2 := by
  unfold spB
  split
  · split
    · dsimp only; rw [up_ne (by omega), up_ne (by omega)]
    · rfl
  · rfl
theorem spL_2 {R : rw_} {L x m u lo : Int} : (spL R L x m u lo).1 2 = R 2 := by
  unfold spL
  split
  · split
    · dsimp only
      rw [ovA_2]
      unfold newL
      rw [up_ne (by omega), up_ne (by omega), up_ne (by omega), up_ne (by omega), up_ne (by omega), up_ne (by omega)]
    · rfl
  · rfl
theorem spC_2 {R C : rw_} {L len sp me : Int} : (spC R C L len sp me).1.1 2 = R 2 := by
  unfold spC
  split
  · split
    · split
      · dsimp only
        unfold newC
        rw [up_ne (by omega), up_ne (by omega), up_ne (by omega), up_ne (by omega), up_ne (by omega)]
      · rfl
    · rfl
  · rfl
theorem or_ok {B : Int} {P : rw_} {n p : Nat} {X : rw_ × rw_} (hX : okX B X) (hB : B ≤ 2000000000) : okX (B + 100) (orP P n p X).1 ∧ i32 (orP P n p X).2 := by
  obtain ⟨x1, x2, x3, x4, x5⟩ := id hX
  unfold orP
  split
  · have o := spC_ok x1 x2 (dgF P n (p + 1)) (dgF P n (p + 2)) (dgF P n (p + 3)) (dgF P n (p + 4))
    exact ⟨⟨o.1, o.2, by rw [spC_2]; exact x3, by rw [spC_2]; omega, (spC_nu x1 x2 x5 _ _ _ _).mono (by omega)⟩, spC_r x1 _ _ _ _⟩
  · split
    · have o := spW_ok x1 x2 (nuE P n p)
      exact ⟨⟨o.1, o.2, by dsimp only; rw [spW_2]; exact x3, by dsimp only; rw [spW_2]; omega, (spW_nu x1 x5 _).mono (by omega)⟩, spW_r x1 _⟩
    · exact tkS_ok hX hB _
section ORD
variable {P : rw_} {n : Nat}
theorem ffp_n {p : Nat} {d : Int} (hp : p ≤ n) (h6 : d ≠ 6) (h7 : d ≠ 7) (e : ffp P n p d = -6) : p < n ∧ dueF d (sgF P n p) ≠ -1 ∧ ffp P n (p + 1) (dueF d (sgF P n p)) = -6 := by
  by_cases q : dueF d (sgF P n p) = -1
  · have b := ffp_b (P := P) hp h6 h7 q
    omega
  · by_cases q2 : p < n
    · exact ⟨q2, q, by rw [← ffp_s q2 q]; exact e⟩
    · unfold ffp at e
      rw [show n - p = 0 by omega, ff_0, if_neg (by omega)] at e
      omega
theorem ffp_67 {p : Nat} {d : Int} (hp : p < n) (e : ffp P n p d = -6) : dueF d (sgF P n p) ≠ -1 ∧ ffp P n (p + 1) (dueF d (sgF P n p)) = -6 := by
  by_cases q : dueF d (sgF P n p) = -1
  · unfold ffp at e
    rw [show n - p = (n - (p + 1)) + 1 by omega, ff_s, if_pos q] at e
    omega
  · exact ⟨q, by rw [← ffp_s hp q]; exact e⟩
theorem ffp_7 {p : Nat} (hp : p ≤ n) (e : ffp P n p 7 = -6) : p = n ∨ (p < n ∧ sgF P n p = 59 ∧ ffp P n (p + 1) 0 = -6) := by
  by_cases q : p < n
  · right
    obtain ⟨a, b⟩ := ffp_67 q e
    rw [due_7] at a b
    by_cases y : sgF P n p = 59
    · rw [if_pos y] at b; exact ⟨q, y, b⟩
    · rw [if_neg y] at a; exact absurd rfl a
  · left; omega
theorem one_ok (hb : ∀ i, i < n → 33 ≤ P i ∧ P i ≤ 126) {p : Nat} (hp : p ≤ n) (e : ffp P n p 0 = -6) : gdF P n p ∧ enF P n p ≤ n ∧ (enF P n p = n ∨ (enF P n p < n ∧ sgF P n (enF P n p) = 59 ∧ ffp P n (enF P n p + 1) 0 = -6)) := by
  have ed : ∀ i, dgF P n i = sgF P n i - 48 := fun _ => rfl
  have e1 := ed (p + 1)
  have e2 := ed (p + 2)
  have e3 := ed (p + 3)
  have e4 := ed (p + 4)
  have r2 := sg_rng hb (p + 2)
  obtain ⟨a1, a2, a3⟩ := ffp_n hp (by decide) (by decide) e
  rw [due_0] at a2 a3
  by_cases k : sgF P n p = 99
  · rw [if_pos k] at a3
    obtain ⟨b1, b2, b3⟩ := ffp_n (by omega) (by decide) (by decide) a3
    rw [due_1] at b2 b3
    by_cases k1 : 0 + 48 ≤ sgF P n (p + 1) ∧ sgF P n (p + 1) ≤ 1 + 48
    · rw [if_pos k1] at b3
      obtain ⟨c1, c2, c3⟩ := ffp_n (by omega) (by decide) (by decide) b3
      rw [due_2] at c2 c3
      by_cases k2 : 1 + 48 ≤ sgF P n (p + 2) ∧ sgF P n (p + 2) ≤ 4 + 48
      · rw [if_pos k2] at c3
        obtain ⟨d1, d2, d3⟩ := ffp_n (by omega) (by decide) (by decide) c3
        rw [due_3] at d2 d3
        by_cases k3 : 1 + 48 ≤ sgF P n (p + 3) ∧ sgF P n (p + 3) ≤ 4 + 48
        · rw [if_pos k3] at d3
          obtain ⟨f1, f2, f3⟩ := ffp_n (by omega) (by decide) (by decide) d3
          rw [due_4] at f2 f3
          by_cases k4 : 1 + 48 ≤ sgF P n (p + 4) ∧ sgF P n (p + 4) ≤ 9 + 48
          · rw [if_pos k4] at f3
            have en : enF P n p = p + 5 := by unfold enF; rw [if_pos k]
            rw [en]
            exact ⟨Or.inl ⟨k, by omega, by omega, by omega, by omega⟩, by omega, ffp_7 (by omega) f3⟩
          · rw [if_neg k4] at f2; exact absurd rfl f2
        · rw [if_neg k3] at d2; exact absurd rfl d2
      · rw [if_neg k2] at c2; exact absurd rfl c2
    · rw [if_neg k1] at b2; exact absurd rfl b2
  · rw [if_neg k] at a2 a3
    by_cases kw : sgF P n p = 119 ∨ sgF P n p = 116
    · rw [if_pos kw] at a3
      obtain ⟨b1, b2, b3⟩ := ffp_n (by omega) (by decide) (by decide) a3
      rw [due_5] at b2 b3
      have d0 : 48 ≤ sgF P n (p + 1) ∧ sgF P n (p + 1) ≤ 57 := by
        by_cases y : 48 ≤ sgF P n (p + 1) ∧ sgF P n (p + 1) ≤ 57
        · exact y
        · rw [if_neg (by omega), if_neg (by omega)] at b2; exact absurd rfl b2
      have gd : gdF P n p := Or.inr ⟨kw, by omega, by omega⟩
      by_cases k0 : sgF P n (p + 1) = 48
      · rw [if_pos k0] at b3
        have en : enF P n p = p + 2 := by unfold enF; rw [if_neg k, if_neg (by omega)]
        rw [en]
        exact ⟨gd, by omega, ffp_7 (by omega) b3⟩
      · rw [if_neg k0, if_pos (by omega)] at b3
        by_cases y : p + 1 + 1 < n
        · obtain ⟨c1, c2⟩ := ffp_67 y b3
          rw [due_6] at c1 c2
          by_cases k2 : 48 ≤ sgF P n (p + 1 + 1) ∧ sgF P n (p + 1 + 1) ≤ 57
          · rw [if_pos k2] at c2
            have en : enF P n p = p + 3 := by unfold enF; rw [if_neg k, if_pos ⟨by omega, by rw [e2]; exact (by omega : 0 ≤ sgF P n (p + 1 + 1) - 48), by rw [e2]; exact (by omega : sgF P n (p + 1 + 1) - 48 ≤ 9)⟩]
            rw [en]
            exact ⟨gd, by omega, ffp_7 (by omega) c2⟩
          · rw [if_neg k2] at c1 c2
            have en : enF P n p = p + 2 := by unfold enF; rw [if_neg k, if_neg (fun z => k2 (by have : dgF P n (p + 1 + 1) = sgF P n (p + 1 + 1) - 48 := rfl; have z2 : 0 ≤ dgF P n (p + 1 + 1) ∧ dgF P n (p + 1 + 1) ≤ 9 := z.2; omega))]
            rw [en]
            by_cases k5 : sgF P n (p + 1 + 1) = 59
            · rw [if_pos k5] at c2
              exact ⟨gd, by omega, Or.inr ⟨by omega, k5, c2⟩⟩
            · rw [if_neg k5] at c1; exact absurd rfl c1
        · have en : enF P n p = p + 2 := by unfold enF; rw [if_neg k, if_neg (by omega)]
          rw [en]
          exact ⟨gd, by omega, Or.inl (by omega)⟩
    · rw [if_neg kw] at a2; exact absurd rfl a2
theorem pr_ex (hb : ∀ i, i < n → 33 ≤ P i ∧ P i ≤ 126) (e : ffF P n n 0 0 = -6) : ∃ m, prF P n m := by
  have walk : ∀ (f k : Nat), stF P n k + f = n → 3 * k ≤ stF P n k → ffp P n (stF P n k) 0 = -6 → (∀ j, j < k → gdF P n (stF P n j)) → (∀ j, j < k → enF P n (stF P n j) < n ∧ sgF P n (enF P n (stF P n j)) = 59) → ∃ m, prF P n m := by
    intro f
    induction f using Nat.strongRecOn with
    | _ f ih =>
      intro k hk h3 e hg hs
      obtain ⟨o1, o2, o3⟩ := one_ok hb (p := stF P n k) (by omega) e
      have ge := en_ge (P := P) (n := n) (p := stF P n k)
      have hg2 : ∀ j, j < k + 1 → gdF P n (stF P n j) := fun j hj => by
        by_cases y : j = k
        · rw [y]; exact o1
        · exact hg j (by omega)
      rcases o3 with o3 | ⟨o4, o5, o6⟩
      · exact ⟨k + 1, by omega, by omega, hg2, fun j hj => hs j (by omega), by rw [Nat.add_sub_cancel]; exact o3⟩
      · refine ih (n - stF P n (k + 1)) (by rw [st_s]; omega) (k + 1) (by rw [st_s]; omega) (by rw [st_s]; omega) (by rw [st_s]; exact o6) hg2 (fun j hj => ?_)
        by_cases y : j = k
        · rw [y]; exact ⟨o4, o5⟩
        · exact hs j (by omega)
  exact walk n 0 (Nat.zero_add _) (Nat.zero_le _) e (fun j hj => absurd hj (Nat.not_lt_zero _)) (fun j hj => absurd hj (Nat.not_lt_zero _))
theorem no_semi {p y : Nat} (g : gdF P n p) (h1 : p ≤ y) (h2 : y < enF P n p) : sgF P n y ≠ 59 := by
  have ed : ∀ i, dgF P n i = sgF P n i - 48 := fun _ => rfl
  have e1 := ed (p + 1)
  have e2 := ed (p + 2)
  have e3 := ed (p + 3)
  have e4 := ed (p + 4)
  unfold gdF at g
  unfold enF at h2
  have c : y = p ∨ y = p + 1 ∨ y = p + 2 ∨ y = p + 3 ∨ y = p + 4 := by
    revert h2
    (repeat' split) <;> (intro h2; omega)
  rcases c with rfl | rfl | rfl | rfl | rfl
  · omega
  · omega
  · revert h2
    (repeat' split) <;> (intro h2; omega)
  · revert h2
    (repeat' split) <;> (intro h2; omega)
  · revert h2
    (repeat' split) <;> (intro h2; omega)
end ORD
