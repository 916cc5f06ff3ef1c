/-! the reference: an order, the first fault -/
section RREAD
variable {h : mH} {Q : mV → mH → Prop} {R C : rw_} {S : Nat → rw_} {P : rw_} {n : Nat}
theorem stp {p p2 : Nat} {w w2 lo hi dj dn F : Int} (hS : SP S P n) (h0 : 0 ≤ lo) (hd : ∀ s, dueF dj s = if lo + 48 ≤ s ∧ s ≤ hi + 48 then dn else -1) (h6 : dj ≠ 6) (h7 : dj ≠ 7) (hn : 0 ≤ dn)
    (A : (w = 0 ∧ F = ffp P n p dj ∧ p ≤ n) ∨ (w = 1 ∧ F = (p : Int) ∧ p ≤ n)) (B : ((w = 0 ∧ lo ≤ dgF P n p ∧ dgF P n p ≤ hi) ∧ p2 = p + 1 ∧ w2 = 0) ∨ (¬ (w = 0 ∧ lo ≤ dgF P n p ∧ dgF P n p ≤ hi) ∧ p2 = p ∧ w2 = 1)) :
    (w2 = 0 ∧ F = ffp P n p2 dn ∧ p2 ≤ n ∧ w = 0 ∧ p2 = p + 1 ∧ lo ≤ dgF P n p ∧ dgF P n p ≤ hi) ∨ (w2 = 1 ∧ F = (p2 : Int) ∧ p2 ≤ n) := by
  have r := sg_rng hS.2.2.2 p
  have ed : dgF P n p = sgF P n p - 48 := rfl
  have e := hd (sgF P n p)
  rcases B with ⟨⟨b1, b2, b3⟩, rfl, rfl⟩ | ⟨b1, rfl, rfl⟩
  · left
    rcases A with ⟨a1, a2, a3⟩ | ⟨a1, a2, a3⟩
    · rw [if_pos (by omega)] at e
      have f := ffp_s (P := P) (n := n) (p := p) (d := dj) (by omega) (by omega)
      rw [e] at f
      exact ⟨rfl, a2.trans f, by omega, a1, rfl, b2, b3⟩
    · omega
  · right
    rcases A with ⟨a1, a2, a3⟩ | ⟨a1, a2, a3⟩
    · rw [if_neg (by omega)] at e
      exact ⟨rfl, a2.trans (ffp_b a3 h6 h7 e), a3⟩
    · exact ⟨rfl, a2, a3⟩
theorem stp1 {p p2 : Nat} {w w2 lo hi dj dn F : Int} (hS : SP S P n) (h0 : 0 ≤ lo) (hd : ∀ s, dueF dj s = if lo + 48 ≤ s ∧ s ≤ hi + 48 then dn else -1) (h6 : dj ≠ 6) (h7 : dj ≠ 7) (hn : 0 ≤ dn)
    (A : (w = 0 ∧ F = ffp P n p dj ∧ p ≤ n) ∨ (w = 1 ∧ F = (p : Int) ∧ p ≤ n)) (B : ((w = 0 ∧ lo ≤ dgF P n p ∧ dgF P n p ≤ hi) ∧ p2 = p + 1 ∧ w2 = 0) ∨ (¬ (w = 0 ∧ lo ≤ dgF P n p ∧ dgF P n p ≤ hi) ∧ p2 = p ∧ w2 = 1)) :
    (w2 = 0 ∧ F = ffp P n p2 dn ∧ p2 ≤ n) ∨ (w2 = 1 ∧ F = (p2 : Int) ∧ p2 ≤ n) := by
  rcases stp hS h0 hd h6 h7 hn A B with q | q
  · exact Or.inl ⟨q.1, q.2.1, q.2.2.1⟩
  · exact Or.inr q
theorem due_1 (s : Int) : dueF 1 s = if 0 + 48 ≤ s ∧ s ≤ 1 + 48 then 2 else -1 := rfl
theorem due_2 (s : Int) : dueF 2 s = if 1 + 48 ≤ s ∧ s ≤ 4 + 48 then 3 else -1 := rfl
theorem due_3 (s : Int) : dueF 3 s = if 1 + 48 ≤ s ∧ s ≤ 4 + 48 then 4 else -1 := rfl
theorem due_4 (s : Int) : dueF 4 s = if 1 + 48 ≤ s ∧ s ≤ 9 + 48 then 7 else -1 := rfl
theorem due_0 (s : Int) : dueF 0 s = if s = 99 then 1 else if s = 119 ∨ s = 116 then 5 else -1 := rfl
theorem due_5 (s : Int) : dueF 5 s = if s = 48 then 7 else if 49 ≤ s ∧ s ≤ 57 then 6 else -1 := rfl
theorem due_6 (s : Int) : dueF 6 s = if 48 ≤ s ∧ s ≤ 57 then 7 else if s = 59 then 0 else -1 := rfl
theorem due_7 (s : Int) : dueF 7 s = if s = 59 then 0 else -1 := rfl
theorem c7_readOne {g : mH} {k p : Nat} {w : Int} {O : rw_} (hp : p ≤ n) (hk : 3 * k ≤ p) (hS : SP S P n) (hM : MR g (pS S k p w O) R C)
    (hbad : ∀ h2 (r2 : Int) (p2 : Nat) O2, p2 ≤ n → ffp P n p 0 = p2 → MR h2 (pS S r2 p2 1 O2) R C → FrC g h2 → Q vU h2)
    (hgood : ∀ h2 O2 d, gdF P n p → enF P n p ≤ n → ffp P n p 0 = ffp P n (enF P n p) d → (d = 7 ∨ (d = 6 ∧ ¬ (48 ≤ sgF P n (enF P n p) ∧ sgF P n (enF P n p) ≤ 57))) → agF P n p O2 k → (∀ i, i < 5 * k → O2 i = O i) → MR h2 (pS S ((k + 1 : Nat) : Int) (enF P n p : Nat) 0 O2) R C → FrC g h2 → Q vU h2) : mC M7_readOne [.inr (.inr (some (20, 0, 0)))] g Q := by
  obtain ⟨i1, i2, i3, i4⟩ := pS_i hM
  have n60 := hS.1
  have r0 := sg_rng hS.2.2.2 p
  have r1 := sg_rng hS.2.2.2 (p + 1)
  have r2 := sg_rng hS.2.2.2 (p + 2)
  have ed : ∀ i, dgF P n i = sgF P n i - 48 := fun _ => rfl
  have e1 := ed (p + 1)
  have e2 := ed (p + 2)
  have d0 := due_0 (sgF P n p)
  have put1 : ∀ (j : Nat) (j1 : Int32) (v : Int) (h3 : mH) (p3 w3 : Int) (O3 : rw_), j1 = zI j → j ≤ 4 → MR h3 (pS S k p3 w3 O3) R C → vp_in (zI (5 * (k : Int)) + j1) 150 ∧ (zI (5 * (k : Int)) + j1).toNatClampNeg = 5 * k + j := by
    intro j j1 v h3 p3 w3 O3 ej hj hM3
    rw [ej, z_add, z_clamp (by omega) (by omega)]
    exact ⟨z_in (by omega) (by omega) (by omega), by omega⟩
  have fin1 : ∀ (h3 : mH) (p3 w3 : Int) (O3 : rw_), MR h3 (pS S k p3 w3 O3) R C → FrC g h3 → ∀ (j : Nat) (v : Int), MR (pI (pI h3 29 0 0 j (zI v)) 20 0 0 12 ((h3.1 20 0 0 12) + 1)) (pS S ((k + 1 : Nat) : Int) p3 w3 (up O3 j v)) R C ∧ FrC g (pI (pI h3 29 0 0 j (zI v)) 20 0 0 12 ((h3.1 20 0 0 12) + 1)) := by
    intro h3 p3 w3 O3 hM3 hF3 j v
    rw [(pS_i hM3).1, z1, z_add, show (k : Int) + 1 = ((k + 1 : Nat) : Int) by omega]
    exact ⟨pS_r (pS_o hM3), hF3.tr ((FrC.put (by omega)).tr (FrC.put (by omega)))⟩
  have hM1 : MR (pI (pI g 29 0 0 (5 * k) (zI (sgF P n p))) 20 0 0 14 (zI 0)) (pS S k p 0 (up O (5 * k) (sgF P n p))) R C := pS_w (pS_o hM)
  have hF1 : FrC g (pI (pI g 29 0 0 (5 * k) (zI (sgF P n p))) 20 0 0 14 (zI 0)) := (FrC.put (by omega)).tr (FrC.put (by omega))
  have main : sgF P n p = 99 ∨ sgF P n p = 119 ∨ sgF P n p = 116 → mE M7_readOne 54 [vR 20 0 0, vI (zI (5 * (k : Int))), vI (zI (sgF P n p))] [] (pI (pI g 29 0 0 (5 * k) (zI (sgF P n p))) 20 0 0 14 (zI 0)) Q := by
    intro kind
    have hpn : p < n := by omega
    generalize hg1 : pI (pI g 29 0 0 (5 * k) (zI (sgF P n p))) 20 0 0 14 (zI 0) = g1
    rw [hg1] at hM1 hF1
    obtain ⟨j1, j2, j3, j4⟩ := pS_i hM1
    have hM2 : MR (pI g1 20 0 0 13 ((g1.1 20 0 0 13) + 1)) (pS S k ((p + 1 : Nat) : Int) 0 (up O (5 * k) (sgF P n p))) R C := by
      rw [j2, z1, z_add, show (p : Int) + 1 = ((p + 1 : Nat) : Int) by omega]; exact pS_p hM1
    have hF2 : FrC g (pI g1 20 0 0 13 ((g1.1 20 0 0 13) + 1)) := hF1.tr (FrC.put (by omega))
    refine w7_readOne_54 ⟨fun q => ?_, fun q => ?_⟩
    · rw [zs.2.2.2.2.2.2.1, z_eq (by omega) (by omega)] at q
      rw [if_neg q, if_pos (by omega)] at d0
      have f0 := ffp_s (P := P) (n := n) (p := p) (d := 0) hpn (by omega)
      rw [d0] at f0
      have d5 := due_5 (sgF P n (p + 1))
      refine c7_number (by omega) hS hM2 (fun b h3 hM3 hF3 => ?_) (fun b1 b2 h3 hM3 hF3 => ?_) (fun b1 b2 h3 hM3 hF3 => ?_)
      · obtain ⟨v1, v2⟩ := put1 1 1 0 h3 _ _ _ z1 (by omega) hM3
        rw [if_neg (by omega), if_neg (by omega)] at d5
        obtain ⟨m1, m2⟩ := fin1 h3 _ _ _ hM3 (hF2.tr hF3) (5 * k + 1) (dgF P n (p + 1))
        show vp_in (zI (5 * (k : Int)) + 1) 150 ∧ (Q vU (pI (pI h3 29 0 0 ((zI (5 * (k : Int)) + 1).toNatClampNeg) (zI _)) 20 0 0 12 ((h3.1 20 0 0 12) + 1)))
        rw [v2]
        exact ⟨v1, hbad _ _ (p + 1) _ (by omega) (f0.trans (ffp_b (by omega) (by omega) (by omega) d5)) m1 m2⟩
      · obtain ⟨v1, v2⟩ := put1 1 1 0 h3 _ _ _ z1 (by omega) hM3
        obtain ⟨m1, m2⟩ := fin1 h3 _ _ _ hM3 (hF2.tr hF3) (5 * k + 1) (dgF P n (p + 1))
        have e12 : p + 1 + 1 = p + 2 := by omega
        rw [e12] at b2
        have en : enF P n p = p + 2 := by unfold enF; rw [if_neg q, if_neg b2]
        have nu : nuE P n p = dgF P n (p + 1) := by unfold nuE; rw [if_neg b2]
        have f5 := ffp_s (P := P) (n := n) (p := p + 1) (d := 5) (by omega) (by
          rw [d5]; (repeat' split) <;> omega)
        show vp_in (zI (5 * (k : Int)) + 1) 150 ∧ (Q vU (pI (pI h3 29 0 0 ((zI (5 * (k : Int)) + 1).toNatClampNeg) (zI _)) 20 0 0 12 ((h3.1 20 0 0 12) + 1)))
        rw [v2]
        refine ⟨v1, hgood _ _ (dueF 5 (sgF P n (p + 1))) (Or.inr ⟨by omega, b1⟩) (by omega) (by rw [en]; exact f0.trans f5) ?_ ⟨?_, fun z => absurd z q, fun _ => ?_⟩ (fun i hi => ?_) (by rw [en]; exact m1) m2⟩
        · rw [en, d5]
          by_cases y : sgF P n (p + 1) = 48
          · rw [if_pos y]; exact Or.inl rfl
          · rw [if_neg y, if_pos (by omega)]; exact Or.inr ⟨rfl, by omega⟩
        · rw [up_ne (by omega), up_at]
        · rw [up_at, nu]
        · rw [up_ne (by omega), up_ne (by omega)]
      · obtain ⟨v1, v2⟩ := put1 1 1 0 h3 _ _ _ z1 (by omega) hM3
        have e12 : p + 1 + 1 = p + 2 := by omega
        rw [e12] at b2
        obtain ⟨m1, m2⟩ := fin1 h3 _ _ _ hM3 (hF2.tr hF3) (5 * k + 1) (10 * dgF P n (p + 1) + dgF P n (p + 2))
        have en : enF P n p = p + 3 := by unfold enF; rw [if_neg q, if_pos b2]
        have nu : nuE P n p = 10 * dgF P n (p + 1) + dgF P n (p + 2) := by unfold nuE; rw [if_pos b2]
        rw [if_neg (by omega), if_pos (by omega)] at d5
        have d6 := due_6 (sgF P n (p + 2))
        rw [if_pos (by omega)] at d6
        have f5 := ffp_s (P := P) (n := n) (p := p + 1) (d := 5) (by omega) (by omega)
        have f6 := ffp_s (P := P) (n := n) (p := p + 2) (d := 6) (by omega) (by omega)
        rw [d5] at f5
        rw [d6] at f6
        show vp_in (zI (5 * (k : Int)) + 1) 150 ∧ (Q vU (pI (pI h3 29 0 0 ((zI (5 * (k : Int)) + 1).toNatClampNeg) (zI _)) 20 0 0 12 ((h3.1 20 0 0 12) + 1)))
        rw [v2]
        refine ⟨v1, hgood _ _ 7 (Or.inr ⟨by omega, b1⟩) (by omega) (by rw [en]; exact f0.trans (f5.trans f6)) (Or.inl rfl) ⟨?_, fun z => absurd z q, fun _ => ?_⟩ (fun i hi => ?_) (by rw [en]; exact m1) m2⟩
        · rw [up_ne (by omega), up_at]
        · rw [up_at, nu]
        · rw [up_ne (by omega), up_ne (by omega)]
    · rw [zs.2.2.2.2.2.2.1, z_eq (by omega) (by omega)] at q
      rw [if_pos q] at d0
      have f0 := ffp_s (P := P) (n := n) (p := p) (d := 0) hpn (by omega)
      rw [d0] at f0
      have A1 : ((0 : Int) = 0 ∧ ffp P n p 0 = ffp P n (p + 1) 1 ∧ p + 1 ≤ n) ∨ ((0 : Int) = 1 ∧ ffp P n p 0 = ((p + 1 : Nat) : Int) ∧ p + 1 ≤ n) := Or.inl ⟨rfl, f0, by omega⟩
      refine c7_one z0 z1 (by omega) (by omega) (by omega) (Or.inl rfl) hS hM2 (fun h3 p3 w3 st3 hM3 hF3 => ?_)
      have T3 := stp hS (by omega) due_1 (by decide) (by decide) (by decide) A1 st3
      have A3 := stp1 hS (by omega) due_1 (by decide) (by decide) (by decide) A1 st3
      obtain ⟨v1, v2⟩ := put1 1 1 0 h3 _ _ _ z1 (by omega) hM3
      show vp_in (zI (5 * (k : Int)) + 1) 150 ∧ mC M7_one _ (pI h3 29 0 0 ((zI (5 * (k : Int)) + 1).toNatClampNeg) (zI _)) _
      rw [v2]
      refine ⟨v1, c7_one z1 zc.2.2.1 (by omega) (by omega) (by omega) (by omega) hS (pS_o hM3) (fun h4 p4 w4 st4 hM4 hF4 => ?_)⟩
      have T4 := stp hS (by omega) due_2 (by decide) (by decide) (by decide) A3 st4
      have A4 := stp1 hS (by omega) due_2 (by decide) (by decide) (by decide) A3 st4
      obtain ⟨v3, v4⟩ := put1 2 2 0 h4 _ _ _ zc.1 (by omega) hM4
      show vp_in (zI (5 * (k : Int)) + 2) 150 ∧ mC M7_one _ (pI h4 29 0 0 ((zI (5 * (k : Int)) + 2).toNatClampNeg) (zI _)) _
      rw [v4]
      refine ⟨v3, c7_one z1 zc.2.2.1 (by omega) (by omega) (by omega) (by omega) hS (pS_o hM4) (fun h5 p5 w5 st5 hM5 hF5 => ?_)⟩
      have T5 := stp hS (by omega) due_3 (by decide) (by decide) (by decide) A4 st5
      have A5 := stp1 hS (by omega) due_3 (by decide) (by decide) (by decide) A4 st5
      obtain ⟨v5, v6⟩ := put1 3 3 0 h5 _ _ _ zc.2.1 (by omega) hM5
      show vp_in (zI (5 * (k : Int)) + 3) 150 ∧ mC M7_one _ (pI h5 29 0 0 ((zI (5 * (k : Int)) + 3).toNatClampNeg) (zI _)) _
      rw [v6]
      refine ⟨v5, c7_one z1 zc.2.2.2.2.2.2.2.1 (by omega) (by omega) (by omega) (by omega) hS (pS_o hM5) (fun h6 p6 w6 st6 hM6 hF6 => ?_)⟩
      have T6 := stp hS (by omega) due_4 (by decide) (by decide) (by decide) A5 st6
      obtain ⟨v7, v8⟩ := put1 4 4 0 h6 _ _ _ zc.2.2.1 (by omega) hM6
      show vp_in (zI (5 * (k : Int)) + 4) 150 ∧ (Q vU (pI (pI h6 29 0 0 ((zI (5 * (k : Int)) + 4).toNatClampNeg) (zI _)) 20 0 0 12 ((h6.1 20 0 0 12) + 1)))
      rw [v8]
      have hF : FrC g h6 := hF2.tr (hF3.tr (FrC.tr (FrC.put (by omega)) (hF4.tr (FrC.tr (FrC.put (by omega)) (hF5.tr (FrC.tr (FrC.put (by omega)) hF6))))))
      obtain ⟨m1, m2⟩ := fin1 h6 _ _ _ hM6 hF (5 * k + 4) (dgF P n p5)
      refine ⟨v7, ?_⟩
      rcases T6 with ⟨x1, x2, x3, x4, x5, x6⟩ | ⟨x1, x2, x3⟩
      · subst x1
        rcases T5 with ⟨y1, y2, y3, y4, y5, y6⟩ | ⟨y1, y2, y3⟩
        · rcases T4 with ⟨u1, u2, u3, u4, u5, u6⟩ | ⟨u1, u2, u3⟩
          · rcases T3 with ⟨t1, t2, t3, t4, t5, t6⟩ | ⟨t1, t2, t3⟩
            · have p3e : p3 = p + 2 := by omega
              have p4e : p4 = p + 3 := by omega
              have p5e : p5 = p + 4 := by omega
              have p6e : p6 = p + 5 := by omega
              subst p3e p4e p5e p6e
              have en : enF P n p = p + 5 := by unfold enF; rw [if_pos q]
              refine hgood _ _ 7 (Or.inl ⟨q, t6, u6, y6, x6⟩) (by omega) (by rw [en]; exact x2) (Or.inl rfl) ⟨?_, fun _ => ⟨?_, ?_, ?_, ?_⟩, fun z => absurd q z⟩ (fun i hi => ?_) (by rw [en]; exact m1) m2
              · rw [up_ne (by omega), up_ne (by omega), up_ne (by omega), up_ne (by omega), up_at]
              · rw [up_ne (by omega), up_ne (by omega), up_ne (by omega), up_at]
              · rw [up_ne (by omega), up_ne (by omega), up_at]
              · rw [up_ne (by omega), up_at]
              · rw [up_at]
              · rw [up_ne (by omega), up_ne (by omega), up_ne (by omega), up_ne (by omega), up_ne (by omega)]
            · omega
          · omega
        · omega
      · subst x1
        exact hbad _ _ p6 _ x3 x2 m1 m2
  refine w7_readOne (c7_sign (by omega) hS hM ?_)
  show vp_in (5 * (g.1 20 0 0 12)) 150 ∧ ((zI (sgF P n p) = 99 → mE M7_readOne 54 [vR 20 0 0, vI (5 * (g.1 20 0 0 12)), vI (zI (sgF P n p))] [] (pI (pI g 29 0 0 ((5 * (g.1 20 0 0 12)).toNatClampNeg) (zI (sgF P n p))) 20 0 0 14 0) Q) ∧ (¬ zI (sgF P n p) = 99 → (zI (sgF P n p) = 119 → mE M7_readOne 54 [vR 20 0 0, vI (5 * (g.1 20 0 0 12)), vI (zI (sgF P n p))] [] (pI (pI g 29 0 0 ((5 * (g.1 20 0 0 12)).toNatClampNeg) (zI (sgF P n p))) 20 0 0 14 0) Q) ∧ (¬ zI (sgF P n p) = 119 → (zI (sgF P n p) = 116 → mE M7_readOne 54 [vR 20 0 0, vI (5 * (g.1 20 0 0 12)), vI (zI (sgF P n p))] [] (pI (pI g 29 0 0 ((5 * (g.1 20 0 0 12)).toNatClampNeg) (zI (sgF P n p))) 20 0 0 14 0) Q) ∧ (¬ zI (sgF P n p) = 116 → Q vU (pI (pI g 29 0 0 ((5 * (g.1 20 0 0 12)).toNatClampNeg) (zI (sgF P n p))) 20 0 0 14 1)))))
  rw [i1, zc.2.2.2.1, z0, z1, zs.2.2.2.2.2.2.1, zs.2.2.2.2.2.2.2.1, zs.2.2.2.2.2.2.2.2.1, z_mul, z_clamp (by omega) (by omega), show (5 * (k : Int)).toNat = 5 * k by omega, z_eq (by omega) (by omega), z_eq (by omega) (by omega), z_eq (by omega) (by omega)]
  refine ⟨z_in (by omega) (by omega) (by omega), fun q => main (by omega), fun q => ⟨fun q2 => main (by omega), fun q2 => ⟨fun q3 => main (by omega), fun q3 => ?_⟩⟩⟩
  rw [if_neg q, if_neg (by omega)] at d0
  exact hbad _ _ p _ hp (ffp_b hp (by decide) (by decide) d0) (pS_w (pS_o hM)) ((FrC.put (by omega)).tr (FrC.put (by omega)))
/-- orders read, as the reference keeps them -/
def stF (P : rw_) (n : Nat) : Nat → Nat
  | 0 => 0
  | k + 1 => enF P n (stF P n k) + 1
theorem st_s {k : Nat} : stF P n (k + 1) = enF P n (stF P n k) + 1 := rfl
def paF (P : rw_) (n : Nat) (S2 : Nat → rw_) (m : Nat) : Prop := 1 ≤ m ∧ 3 * m ≤ n + 1 ∧ S2 20 12 = m ∧ (∀ k, k < m → gdF P n (stF P n k) ∧ agF P n (stF P n k) (S2 29) k) ∧ (∀ k, k + 1 < m → enF P n (stF P n k) < n ∧ sgF P n (enF P n (stF P n k)) = 59) ∧ enF P n (stF P n (m - 1)) = n
theorem en_ge {p : Nat} : p + 2 ≤ enF P n p := by
  unfold enF
  (repeat' split) <;> omega
theorem c7_faultOf (hS : SP S P n) (hM : MR h S R C) (hq : ∀ h2 S2, Kq S S2 → MR h2 S2 R C → FrC h h2 → (ffF P n n 0 0 = -6 → ∃ m, paF P n S2 m) → Q (vI (zI (ffF P n n 0 0))) h2) : mC M7_faultOf [.inr (.inr (some (20, 0, 0)))] h Q := by
  have n60 := hS.1
  have f0 : ffp P n 0 0 = ffF P n n 0 0 := rfl
  -- wrong at a place
  have bad : ∀ (g : mH) (r2 : Int) (p2 : Nat) (O2 : rw_), p2 ≤ n → ffF P n n 0 0 = p2 → MR g (pS S r2 p2 1 O2) R C → FrC h g → mE M7_faultOf 19 [vR 20 0 0] [] g Q := by
    intro g r2 p2 O2 hp e hMg hF
    obtain ⟨i1, i2, i3, i4⟩ := pS_i hMg
    refine w7_faultOf_19 ?_
    rw [i3, i2, z0, z_eq (by omega) (by omega)]
    have fin := hq g _ pS_kq hMg hF (fun z => by omega)
    rw [e] at fin
    exact ⟨fun _ => ⟨fun z => by omega, fun _ => fin⟩, fun z => by omega⟩
  -- right so far
  have loop : ∀ (f k p : Nat) (d : Int) (O : rw_) (g : mH), p + f = n → 3 * (k + 1) ≤ p + 1 → p = enF P n (stF P n k) → ffF P n n 0 0 = ffp P n p d → (d = 7 ∨ (d = 6 ∧ ¬ (48 ≤ sgF P n p ∧ sgF P n p ≤ 57))) → (∀ j, j < k + 1 → gdF P n (stF P n j) ∧ agF P n (stF P n j) O j) → (∀ j, j < k → enF P n (stF P n j) < n ∧ sgF P n (enF P n (stF P n j)) = 59) → MR g (pS S ((k + 1 : Nat) : Int) p 0 O) R C → FrC h g → mE M7_faultOf 19 [vR 20 0 0] [] g Q := by
    intro f
    induction f using Nat.strongRecOn with
    | _ f ih =>
      intro k p d O g hp h3 hen e hd ha hs hMg hF
      obtain ⟨i1, i2, i3, i4⟩ := pS_i hMg
      have r0 := sg_rng hS.2.2.2 p
      refine w7_faultOf_19 ?_
      rw [i3, i2, i4, hS.2.1, z0, z_eq (by omega) (by omega), z_le (by omega) (by omega)]
      refine ⟨fun z => absurd rfl z, fun _ => ⟨fun q => ⟨fun _ => ?_, fun z => absurd rfl z⟩, fun q => ?_⟩⟩
      · have ep : p = n := by omega
        have e6 : ffF P n n 0 0 = -6 := by
          rw [e, ep]
          unfold ffp
          rw [Nat.sub_self, ff_0, if_pos (by omega)]
        have fin := hq g _ pS_kq hMg hF (fun _ => ⟨k + 1, by omega, by omega, pS_12, fun j hj => by rw [pS_29]; exact ha j hj, fun j hj => hs j (by omega), by rw [Nat.add_sub_cancel, ← hen]; exact ep⟩)
        rw [e6] at fin
        rw [zm6]
        exact fin
      · refine c7_sign (by omega) hS hMg ?_
        show (zI (sgF P n p) = 59 → mC _ _ (pI (pI g 20 0 0 14 (zI 0)) 20 0 0 13 ((g.1 20 0 0 13) + 1)) (kV (fun h758 => mE M7_faultOf 19 [vR 20 0 0] [] h758 Q))) ∧ (¬ zI (sgF P n p) = 59 → mE M7_faultOf 19 [vR 20 0 0] [] (pI g 20 0 0 14 1) Q)
        rw [i2, zs.2.2.2.2.1, z1, z_add, z_eq (by omega) (by omega), show (p : Int) + 1 = ((p + 1 : Nat) : Int) by omega]
        refine ⟨fun q2 => ?_, fun q2 => ?_⟩
        · have dd : dueF d (sgF P n p) = 0 := by
            rcases hd with rfl | ⟨rfl, _⟩
            · rw [due_7, if_pos q2]
            · rw [due_6, if_neg (by omega), if_pos q2]
          have fs := ffp_s (P := P) (n := n) (p := p) (d := d) (by omega) (by omega)
          rw [dd] at fs
          have es : stF P n (k + 1) = p + 1 := by rw [st_s, ← hen]
          have hM2 : MR (pI (pI g 20 0 0 14 (zI 0)) 20 0 0 13 (zI ((p + 1 : Nat) : Int))) (pS S ((k + 1 : Nat) : Int) ((p + 1 : Nat) : Int) 0 O) R C := pS_p (pS_w hMg)
          have hF2 : FrC h (pI (pI g 20 0 0 14 (zI 0)) 20 0 0 13 (zI ((p + 1 : Nat) : Int))) := hF.tr ((FrC.put (by omega)).tr (FrC.put (by omega)))
          have ge := en_ge (P := P) (n := n) (p := p + 1)
          refine c7_readOne (k := k + 1) (p := p + 1) (by omega) (by omega) hS hM2 (fun h2 r2 p2 O2 b1 b2 b3 b4 => bad h2 r2 p2 O2 b1 (e.trans (fs.trans b2)) b3 (hF2.tr b4)) (fun h2 O2 d2 b1 b2 b3 b4 b5 b6 b7 b8 => ?_)
          refine ih (n - enF P n (p + 1)) (by omega) (k + 1) (enF P n (p + 1)) d2 O2 h2 (by omega) (by omega) (by rw [es]) (e.trans (fs.trans b3)) b4 (fun j hj => ?_) (fun j hj => ?_) b7 (hF2.tr b8)
          · by_cases y : j = k + 1
            · rw [y, es]; exact ⟨b1, b5⟩
            · obtain ⟨c1, c2⟩ := ha j (by omega)
              refine ⟨c1, ?_⟩
              unfold agF at c2 ⊢
              rw [b6 (5 * j) (by omega), b6 (5 * j + 1) (by omega), b6 (5 * j + 2) (by omega), b6 (5 * j + 3) (by omega), b6 (5 * j + 4) (by omega)]
              exact c2
          · by_cases y : j = k
            · rw [y, ← hen]; exact ⟨by omega, q2⟩
            · exact hs j (by omega)
        · have dd : dueF d (sgF P n p) = -1 := by
            rcases hd with rfl | ⟨rfl, y⟩
            · rw [due_7, if_neg q2]
            · rw [due_6, if_neg y, if_neg q2]
          have fb : ffp P n p d = p := by
            unfold ffp
            rw [show n - p = (n - (p + 1)) + 1 by omega, ff_s, if_pos dd]
          exact bad _ _ p O (by omega) (e.trans fb) (pS_w hMg) (hF.tr (FrC.put (by omega)))
  refine w7_faultOf ?_
  have hM0 : MR (pI (pI (pI h 20 0 0 13 (zI 0)) 20 0 0 12 (zI 0)) 20 0 0 14 (zI 0)) (pS S ((0 : Nat) : Int) ((0 : Nat) : Int) 0 (S 29)) R C := by
    refine (((hM.oth (k := 20) (j := 13) (v := 0) (by decide) (by decide)).oth (k := 20) (j := 12) (v := 0) (by decide) (by decide)).oth (k := 20) (j := 14) (v := 0) (by decide) (by decide)).eqS (fun k s _ _ _ _ _ _ => ?_)
    unfold pS
    by_cases q : k = 20
    · subst q
      rw [sU_at, sU_at, sU_at, sU_at]
      unfold up
      (repeat' split) <;> first | rfl | omega
    · rw [sU_ne q, sU_ne q, sU_ne q, sU_ne q]
      by_cases q2 : k = 29
      · subst q2; rw [sU_at]
      · rw [sU_ne q2]
  have hF0 : FrC h (pI (pI (pI h 20 0 0 13 (zI 0)) 20 0 0 12 (zI 0)) 20 0 0 14 (zI 0)) := (FrC.put (by omega)).tr ((FrC.put (by omega)).tr (FrC.put (by omega)))
  rw [z0]
  have ge := en_ge (P := P) (n := n) (p := 0)
  refine c7_readOne (k := 0) (p := 0) (by omega) (by omega) hS hM0 (fun h2 r2 p2 O2 b1 b2 b3 b4 => bad h2 r2 p2 O2 b1 b2 b3 (hF0.tr b4)) (fun h2 O2 d2 b1 b2 b3 b4 b5 b6 b7 b8 => ?_)
  refine loop (n - enF P n 0) 0 (enF P n 0) d2 O2 h2 (by omega) (by omega) rfl b3 b4 (fun j hj => ?_) (fun j hj => by omega) b7 (hF0.tr b8)
  rw [show j = 0 by omega]
  exact ⟨b1, b5⟩
end RREAD
