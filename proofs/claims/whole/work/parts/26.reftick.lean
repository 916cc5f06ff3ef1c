/-! the reference: a tick -/
theorem i32_rem (x : Int32) {n : Int} (h1 : 1 ≤ n) (h2 : n ≤ 1000) : -n < (x - x / zI n * zI n).toInt ∧ (x - x / zI n * zI n).toInt < n := by
  obtain ⟨a, a1, a2, rfl⟩ := z_ex x
  have hd : zI a / zI n = zI (a.tdiv n) := by
    apply Int32.toInt_inj.mp
    rw [Int32.toInt_div, z_toInt a1 a2, z_toInt (by omega) (by omega)]
    have hr : -2147483648 ≤ a.tdiv n ∧ a.tdiv n < 2147483648 := by
      rcases Int.le_total 0 a with h0 | h0
      · have e1 := Int.tdiv_nonneg h0 (by omega : 0 ≤ n)
        have e2 := Int.tdiv_le_self n h0
        omega
      · have e3 : a.tdiv n = -((-a).tdiv n) := by rw [Int.neg_tdiv]; omega
        have e1 := Int.tdiv_nonneg (by omega : 0 ≤ -a) (by omega : 0 ≤ n)
        have e2 := Int.tdiv_le_self n (by omega : 0 ≤ -a)
        omega
    rw [z_toInt hr.1 hr.2, Int.bmod_def]
    omega
  rw [hd, z_mul, z_sub]
  have ht : a - a.tdiv n * n = a.tmod n := by
    have := Int.mul_tdiv_add_tmod a n
    rw [Int.mul_comm]; omega
  rw [ht]
  have hb := tmod_bounds (a := a) (M := n) (by omega)
  rw [z_toInt (by omega) (by omega)]
  exact hb
theorem lst_lt {R : rw_} (hb : 0 ≤ R 3 ∧ R 3 ≤ 6) (h : 0 ≤ lstF R) : lstF R < R 3 := by
  unfold lstF at *
  split
  next q => rw [if_pos q] at h; omega
  next q => exact (i32_rem _ (by omega) (by omega)).2
section REFT
variable {h : mH} {Q : mV → mH → Prop} {R C C0 : rw_} {S : Nat → rw_}
def OrO (h : mH) (O : Nat → Nat) (n : Nat) : Prop := ∀ j, j < n → h.1 28 0 0 j = zI (O j : Nat)
theorem MR.ord (hM : MR h S R C) {k : Nat} {x : Int32} : MR (pI h 28 0 0 k x) S R C := by
  refine ⟨fun j hj => ?_, fun j hj => ?_, fun k2 s h1 h2 h3 h4 h5 h6 => ?_⟩
  · rw [pI_ne (fun z => by omega)]; exact hM.1 j hj
  · rw [pI_ne (fun z => by omega)]; exact hM.2.1 j hj
  · rw [pI_ne (fun z => h5 z.1)]; exact hM.2.2 k2 s h1 h2 h3 h4 h5 h6
theorem FrC.ord {h h2 : mH} (a : FrC h h2) {O : Nat → Nat} {n : Nat} (b : OrO h O n) : OrO h2 O n := fun j hj => (a 28 0 0 j (Or.inr rfl)).trans (b j hj)
/-- one car is put into the order -/
theorem l7_insert {c n : Nat} (hW : WF R) (hc : (c : Int) < R 4) (hn : n < 40) {O0 : Nat → Nat}
    (hq : ∀ g, MR g S R C → OrO g (insF R O0 c n) (n + 1) → FrK h g → mE M7_moveAll 4 [vR 20 0 0, vI (zI ((n : Int) + 1)), vI (zI ((c : Int) + 1)), vU] [] g Q) : ∀ (k : Nat) (O : Nat → Nat) (g : mH), k ≤ n → MR g S R C → FrK h g → (∀ j, j ≤ n → j ≠ k → g.1 28 0 0 j = zI (O j : Nat)) → (∀ j, j ≤ n → j ≠ k → ((O j : Nat) : Int) < R 4) → insF R O c k = insF R O0 c n → mE M7_moveAll 24 [vR 20 0 0, vI (zI n), vI (zI c), vI (zI k)] [] g Q := by
  have hb := hW.c
  have wc := hW.2.1 c hc
  unfold WFc at wc
  intro k
  induction k with
  | zero =>
    intro O g hk hM hF hO hO4 hI
    refine w7_moveAll_24 ?_
    rw [z0, z_le (by omega) (by omega), z_clamp (by omega) (by omega), z1, z_add, z_add]
    refine ⟨fun _ => ⟨z_in (by omega) (by omega) (by omega), ?_⟩, fun _ => by omega⟩
    refine hq _ hM.ord (fun j hj => ?_) (hF.tr (FrK.put (by omega)))
    rw [← hI, ins_0]
    by_cases q : j = 0
    · rw [q, upN_at]; exact pI_at
    · rw [upN_ne q, pI_ne (fun z => q (by have := z.2.1; omega))]
      exact hO j (by omega) q
  | succ k ih =>
    intro O g hk hM hF hO hO4 hI
    have hok := hO4 k (by omega) (by omega)
    have wk := hW.2.1 _ hok
    unfold WFc at wk
    have e1 : ((k + 1 : Nat) : Int) - 1 = (k : Int) := by omega
    have put : ∀ O2 : Nat → Nat, O2 = upN O (k + 1) c → insF R O0 c n = O2 → mE M7_moveAll 4 [vR 20 0 0, vI (zI ((n : Int) + 1)), vI (zI ((c : Int) + 1)), vU] [] (pI g 28 0 0 (k + 1) (zI c)) Q := by
      intro O2 e2 e3
      refine hq _ hM.ord (fun j hj => ?_) (hF.tr (FrK.put (by omega)))
      rw [e3, e2]
      by_cases q : j = k + 1
      · rw [q, upN_at]; exact pI_at
      · rw [upN_ne q, pI_ne (fun z => q z.2.1)]
        exact hO j (by omega) q
    refine w7_moveAll_24 ?_
    rw [z0, zm1, z1, z_sub, z_add, z_add, z_add, e1, z_le (by omega) (by omega), z_clamp (by omega) (by omega), z_clamp (by omega) (by omega), Int.toNat_natCast, Int.toNat_natCast, hO k (by omega) (by omega)]
    refine ⟨fun _ => by omega, fun _ => ⟨z_in (by omega) (by omega) (by omega), ?_⟩⟩
    refine c7_ofC (c := O k) (j := 1) (k := 71 + 10 * O k) rfl (by decide) hM (by omega) (by omega) ?_
    refine c7_ofC (c := c) (j := 1) (k := 71 + 10 * c) rfl (by decide) hM (by omega) (by omega) ?_
    show (zI _ ≤ zI _ → vp_in (zI _) 40 ∧ mE _ _ _ _ (pI g 28 0 0 _ _) Q) ∧ (¬ zI _ ≤ zI _ → vp_in (zI _) 40 ∧ vp_in (zI _) 40 ∧ mE _ _ _ _ (pI g 28 0 0 _ (g.1 28 0 0 _)) Q)
    rw [z_le (by omega) (by omega), hO k (by omega) (by omega)]
    rw [ins_s] at hI
    refine ⟨fun q => ⟨z_in (by omega) (by omega) (by omega), ?_⟩, fun q => ⟨z_in (by omega) (by omega) (by omega), z_in (by omega) (by omega) (by omega), ?_⟩⟩
    · rw [if_neg (by omega)] at hI
      exact put _ rfl hI.symm
    · rw [if_pos (by omega)] at hI
      rw [show ((k + 1 : Nat) : Int) + -1 = (k : Int) by omega]
      refine ih (upN O (k + 1) (O k)) _ (by omega) hM.ord (hF.tr (FrK.put (by omega))) (fun j hj hjk => ?_) (fun j hj hjk => ?_) hI
      · by_cases y : j = k + 1
        · rw [y, upN_at]; exact pI_at
        · rw [upN_ne y, pI_ne (fun z => y z.2.1)]
          exact hO j hj y
      · by_cases y : j = k + 1
        · rw [y, upN_at]; exact hok
        · rw [upN_ne y]; exact hO4 j hj y
theorem c7_moveAll (hM : MR h S R C) (hW : WF R) (hL : LayOK R C0) (hq : ∀ h2, MR h2 S (maF R C0).1 (maF R C0).2 → FrK h h2 → Q vU h2) : mC M7_moveAll [.inr (.inr (some (20, 0, 0)))] h Q := by
  have hb := hW.c
  obtain ⟨o1, o2, o3⟩ := ord_rd hW
  have moves : ∀ (n k : Nat) (g : mH), k + n = (ordF R (R 4).toNat).2 → MR g S (movN R C0 (ordF R (R 4).toNat).1 k).1 (movN R C0 (ordF R (R 4).toNat).1 k).2 → OrO g (ordF R (R 4).toNat).1 (ordF R (R 4).toNat).2 → FrK h g → mE M7_moveAll 92 [vR 20 0 0, vI (zI ((ordF R (R 4).toNat).2 : Int)), vI (zI k), vU] [] g Q := by
    intro n
    induction n with
    | zero =>
      intro k g hk hMg hO hF
      refine w7_moveAll_92 ?_
      rw [z_le (by omega) (by omega)]
      rw [Nat.add_zero] at hk
      rw [hk] at hMg
      exact ⟨fun _ => hq g hMg hF, fun _ => by omega⟩
    | succ n ih =>
      intro k g hk hMg hO hF
      obtain ⟨m1, m2, m3, m4, m5⟩ := mov_ok hW hL o1 o2 k (by omega)
      refine w7_moveAll_92 ?_
      rw [z_le (by omega) (by omega), z_clamp (by omega) (by omega), Int.toNat_natCast, hO k (by omega)]
      refine ⟨fun _ => by omega, fun _ => ⟨z_in (by omega) (by omega) (by omega), ?_⟩⟩
      refine c7_move rfl hMg m1 m2 (by rw [m3]; exact (o1 k (by omega)).1) (m5 k (Nat.le_refl k) (by omega)) (fun g2 hM2 hF2 => ?_)
      have e := ih (k + 1) g2 (by omega) hM2 (hF2.ord hO) (hF.tr hF2.K)
      rw [show ((k + 1 : Nat) : Int) = (k : Int) + 1 by omega, ← z_add, ← z1] at e
      exact e
  have order : ∀ (n c : Nat) (g : mH), c + n = (R 4).toNat → MR g S R C → OrO g (ordF R c).1 (ordF R c).2 → FrK h g → mE M7_moveAll 4 [vR 20 0 0, vI (zI ((ordF R c).2 : Int)), vI (zI c), vU] [] g Q := by
    intro n
    induction n with
    | zero =>
      intro c g hc hMg hO hF
      refine w7_moveAll_4 ⟨vin 4 470 (by omega) (by omega) (by decide), ?_⟩
      rw [mr4 hMg, z_le (by omega) (by omega)]
      rw [Nat.add_zero] at hc
      refine ⟨fun _ => ?_, fun _ => by omega⟩
      refine c7_layCells hMg hW hL (fun g2 hM2 hF2 => ?_)
      rw [hc] at hO ⊢
      exact moves _ 0 g2 (Nat.zero_add _) hM2 (hF2.ord hO) (hF.tr hF2.K)
    | succ n ih =>
      intro c g hc hMg hO hF
      have hc4 : (c : Int) < R 4 := by omega
      have w := hW.2.1 c hc4
      unfold WFc at w
      obtain ⟨p1, p2, p3⟩ := ord_ok R c
      refine w7_moveAll_4 ⟨vin 4 470 (by omega) (by omega) (by decide), ?_⟩
      rw [mr4 hMg, z_le (by omega) (by omega)]
      refine ⟨fun _ => by omega, fun _ => ?_⟩
      refine c7_isOn rfl hMg (by omega) w.2.2.2.2.2.2.2.2.2.1 ?_
      have e := ih (c + 1)
      rw [ord_s] at e
      show (zI _ = 0 → mE _ _ [_, _, vI (zI c + 1), _] _ g Q) ∧ (¬ zI _ = 0 → _)
      rw [zb_ne, z1, z_add]
      refine ⟨fun q => ?_, fun q => ?_⟩
      · rw [if_neg q] at e
        have e2 := e g (by omega) hMg hO hF
        rw [show ((c + 1 : Nat) : Int) = (c : Int) + 1 by omega] at e2
        exact e2
      · rw [if_pos (Decidable.not_not.mp q)] at e
        refine l7_insert (h := h) hW hc4 (n := (ordF R c).2) (by omega) (O0 := (ordF R c).1) (fun g2 hM2 hO2 hF2 => ?_) (ordF R c).2 (ordF R c).1 g (Nat.le_refl _) hMg hF (fun j hj hjn => hO j (by omega)) (fun j hj hjn => by have := (p2 j (by omega)).1; omega) rfl
        have e2 := e g2 (by omega) hM2 hO2 hF2
        rw [show ((c + 1 : Nat) : Int) = (c : Int) + 1 by omega, show (((ordF R c).2 + 1 : Nat) : Int) = ((ordF R c).2 : Int) + 1 by omega] at e2
        exact e2
  refine w7_moveAll ?_
  have := order (R 4).toNat 0 h (Nat.zero_add _) hM (fun j hj => absurd hj (Nat.not_lt_zero j)) FrK.rf
  exact this
theorem c7_isOver {a1 a2 : Int32} {c l : Nat} (e1 : a1 = zI c) (e2 : a2 = zI l) (hM : MR h S R C) (hc : c < 40) (hl : l < 6) (wc : WFc R c) (wl : WFl R l) (hq : Q (vI (zI (if isOv R c l then 1 else 0))) h) : mC M7_isOver [.inr (.inr (some (20, 0, 0))), .inl a1, .inl a2] h Q := by
  have wc2 := wc
  unfold WFc lasF at wc2
  unfold WFl at wl
  have e0 : ¬ isOv R c l → Q (vI (zI 0)) h := fun n => by rw [if_neg n] at hq; exact hq
  have e9 : isOv R c l → Q (vI (zI 1)) h := fun n => by rw [if_pos n] at hq; exact hq
  refine w7_isOver (c7_ofL (c := l) (j := 1) (k := 11 + 10 * l) e2 (by decide) hM (by omega) (by omega) ?_)
  refine c7_ofL (c := l) (j := 2) (k := 12 + 10 * l) e2 (by decide) hM (by omega) (by omega) ?_
  refine c7_isOn e1 hM hc wc2.2.2.2.2.2.2.2.2.2.1 ?_
  show (zI _ = 0 → Q (vI 0) h) ∧ (¬ zI _ = 0 → _)
  rw [zb_ne]
  refine ⟨fun q => e0 (fun z => q z.1), fun q => ?_⟩
  refine c7_ofC (c := c) (j := 0) (k := 70 + 10 * c) e1 (by decide) hM (by omega) (by omega) ?_
  refine c7_ofL (c := l) (j := 0) (k := 10 + 10 * l) e2 (by decide) hM (by omega) (by omega) ?_
  show (¬ zI _ = zI _ → Q (vI 0) h) ∧ (zI _ = zI _ → _)
  rw [z_eq (by omega) (by omega)]
  refine ⟨fun q2 => e0 (fun z => q2 z.2.1), fun q2 => ?_⟩
  refine c7_ofC (c := c) (j := 1) (k := 71 + 10 * c) e1 (by decide) hM (by omega) (by omega) ?_
  show (zI _ < zI _ → Q (vI 0) h) ∧ (¬ zI _ < zI _ → _)
  rw [z_lt (by omega) (by omega)]
  refine ⟨fun q3 => e0 (fun z => by have := z.2.2.1; omega), fun q3 => ?_⟩
  refine c7_lastCell e1 hM hc ?_
  show (zI _ + zI _ - 1 < zI _ → Q (vI 0) h) ∧ (¬ zI _ + zI _ - 1 < zI _ → Q (vI 1) h)
  have hls : i32 (lasF R c) := by unfold lasF; omega
  rw [z1, z_add, z_sub, z_lt (by omega) hls]
  refine ⟨fun q4 => e0 (fun z => by have := z.2.2.2; omega), fun q4 => e9 ⟨Decidable.not_not.mp q, q2, by omega, by omega⟩⟩
theorem bit_orS : ∀ l : Fin 6, ∀ a : Fin 64, (zI (a.val : Int) ||| ((1 : Int32) <<< (zI (l.val : Int) &&& 31))) = zI ((a.val ||| 2 ^ l.val : Nat) : Int) := bit_orA
theorem l7_overBy {c : Nat} (hM : MR h S R C) (hW : WF R) (hc : (c : Int) < R 4) (hq : Q (vI (zI (ovF R c (R 3).toNat))) h) : ∀ n l : Nat, l + n = (R 3).toNat → mE M7_overBy 4 [vR 20 0 0, vI (zI c), vI (zI (ovF R c l)), vI (zI l)] [] h Q := by
  have hb := hW.l
  have hbc := hW.c
  intro n
  induction n with
  | zero =>
    intro l hl
    refine w7_overBy_4 ⟨vin 3 470 (by omega) (by omega) (by decide), ?_⟩
    rw [mr3 hM, z_le (by omega) (by omega)]
    rw [Nat.add_zero] at hl
    rw [hl]
    exact ⟨fun _ => hq, fun _ => by omega⟩
  | succ n ih =>
    intro l hl
    refine w7_overBy_4 ⟨vin 3 470 (by omega) (by omega) (by decide), ?_⟩
    rw [mr3 hM, z_le (by omega) (by omega)]
    refine ⟨fun _ => by omega, fun _ => ?_⟩
    refine c7_isOver rfl rfl hM (by omega) (by omega) (hW.2.1 c hc) (hW.2.2.1 l (by omega)) ?_
    have e := ih (l + 1) (by omega)
    have hlt := ovF_lt R c l
    have hp := pow6 (l := l) (by omega)
    have hb2 := bit_set ⟨l, by omega⟩ ⟨ovF R c l, by omega⟩ hlt
    have hb0 := bit_or0 ⟨ovF R c l, by omega⟩
    dsimp only at hb2 hb0
    have es : ovF R c (l + 1) = ovF R c l + if isOv R c l then 2 ^ l else 0 := rfl
    rw [es, show ((l + 1 : Nat) : Int) = (l : Int) + 1 by omega, ← z_add, ← z1] at e
    show (zI _ = 0 → mE _ _ [_, _, vI (zI _ ||| 0), _] _ h Q) ∧ (¬ zI _ = 0 → _)
    rw [zb_ne, hb0]
    refine ⟨fun q => ?_, fun q => ?_⟩
    · rw [if_neg q] at e; exact e
    · rw [if_pos (Decidable.not_not.mp q)] at e
      rw [hb2]; exact e
theorem c7_overBy {a1 : Int32} {c : Nat} (e1 : a1 = zI c) (hM : MR h S R C) (hW : WF R) (hc : (c : Int) < R 4) (hq : Q (vI (zI (ovF R c (R 3).toNat))) h) : mC M7_overBy [.inr (.inr (some (20, 0, 0))), .inl a1] h Q := by
  subst e1
  exact w7_overBy (l7_overBy hM hW hc hq _ 0 (Nat.zero_add _))
theorem psl_s {R : rw_} {c : Nat} {set : Int} {l : Nat} : pslF R c set (l + 1) = up (pslF R c set l) (17 + 10 * l) (pslF R c set l (17 + 10 * l) + pbF set (R (79 + 10 * c)) l) := rfl
theorem psl_ne {R : rw_} {c : Nat} {set : Int} {k : Nat} : ∀ {l : Nat}, (∀ j, j < l → k ≠ 17 + 10 * j) → pslF R c set l k = R k
  | 0, _ => rfl
  | l + 1, h => by rw [psl_s, up_ne (h l (by omega)), psl_ne (fun j hj => h j (by omega))]
theorem c7_passAll (hM : MR h S R C) (hW : WF R) (hL : LayOK R C0) (hq : ∀ h2, MR h2 S (pasN R (R 4).toNat) C → FrC h h2 → Q vU h2) : mC M7_passAll [.inr (.inr (some (20, 0, 0)))] h Q := by
  have hb := hW.c
  have hl := hW.l
  have cars : ∀ (n c : Nat) (g : mH), c + n = (R 4).toNat → MR g S (pasN R c) C → FrC h g → mE M7_passAll 2 [vR 20 0 0, vI (zI c), vU, vU] [] g Q := by
    intro n
    induction n with
    | zero =>
      intro c g hc hMg hF
      have e4 := (pasN_4 hl.2 c).1
      refine w7_passAll_2 ⟨vin 4 470 (by omega) (by omega) (by decide), ?_⟩
      rw [mr4 hMg, e4, z_le (by omega) (by omega)]
      rw [Nat.add_zero] at hc
      rw [hc] at hMg
      exact ⟨fun _ => hq g hMg hF, fun _ => by omega⟩
    | succ n ih =>
      intro c g hc hMg hF
      obtain ⟨e4, e3⟩ := pasN_4 hl.2 c
      obtain ⟨hW2, hL2⟩ := pasN_ok hW hL c (by omega)
      have hc4 : (c : Int) < pasN R c 4 := by omega
      have w := hW2.2.1 c hc4
      unfold WFc at w
      obtain ⟨o, ho⟩ : ∃ o : Nat, pasN R c (79 + 10 * c) = o := ⟨(pasN R c (79 + 10 * c)).toNat, by omega⟩
      have hov : ovF (pasN R c) c (R 3).toNat < 64 := Nat.lt_of_lt_of_le (ovF_lt _ _ _) (pow6 (by omega))
      refine w7_passAll_2 ⟨vin 4 470 (by omega) (by omega) (by decide), ?_⟩
      rw [mr4 hMg, e4, z_le (by omega) (by omega)]
      refine ⟨fun _ => by omega, fun _ => ?_⟩
      refine c7_overBy rfl hMg hW2 hc4 ?_
      rw [e3]
      have loops : ∀ (m l : Nat) (g2 : mH), l + m = (R 3).toNat → MR g2 S (pslF (pasN R c) c (ovF (pasN R c) c (R 3).toNat) l) C → FrC h g2 → mE M7_passAll 20 [vR 20 0 0, vI (zI c), vI (zI (ovF (pasN R c) c (R 3).toNat : Nat)), vI (zI l)] [] g2 Q := by
        intro m
        induction m with
        | zero =>
          intro l g2 hlm hM2 hF2
          have e33 : pslF (pasN R c) c (ovF (pasN R c) c (R 3).toNat) l 3 = R 3 := by rw [psl_ne (fun j hj => by omega), e3]
          refine w7_passAll_20 ⟨vin 3 470 (by omega) (by omega) (by decide), ?_⟩
          rw [mr3 hM2, e33, z_le (by omega) (by omega)]
          refine ⟨fun _ => ?_, fun _ => by omega⟩
          refine c7_bookC (c := c) (j := 9) (k := 79 + 10 * c) rfl (by decide) rfl hM2 (by omega) (by omega) (fun g3 hM3 hF3 => ?_)
          have e := ih (c + 1) g3 (by omega) ?_ (hF2.tr hF3)
          · rw [show ((c + 1 : Nat) : Int) = (c : Int) + 1 by omega, ← z_add, ← z1] at e
            exact e
          · rw [Nat.add_zero] at hlm
            rw [hlm] at hM3
            have ep : pasN R (c + 1) = up (pslF (pasN R c) c (ovF (pasN R c) c (R 3).toNat) (R 3).toNat) (79 + 10 * c) (ovF (pasN R c) c (R 3).toNat) := by
              show pasF (pasN R c) c = _
              unfold pasF
              rw [e3]
            rw [ep]
            exact hM3
        | succ m ihm =>
          intro l g2 hlm hM2 hF2
          have e33 : pslF (pasN R c) c (ovF (pasN R c) c (R 3).toNat) l 3 = R 3 := by rw [psl_ne (fun j hj => by omega), e3]
          have e79 : pslF (pasN R c) c (ovF (pasN R c) c (R 3).toNat) l (79 + 10 * c) = pasN R c (79 + 10 * c) := psl_ne (fun j hj => by omega)
          refine w7_passAll_20 ⟨vin 3 470 (by omega) (by omega) (by decide), ?_⟩
          rw [mr3 hM2, e33, z_le (by omega) (by omega)]
          refine ⟨fun _ => by omega, fun _ => ?_⟩
          refine c7_ofL (c := l) (j := 7) (k := 17 + 10 * l) rfl (by decide) hM2 (by omega) (by omega) ?_
          refine c7_ofC (c := c) (j := 9) (k := 79 + 10 * c) rfl (by decide) hM2 (by omega) (by omega) ?_
          rw [e79, ho]
          show mC _ [_, _, _, .inl (zI _ + _)] g2 _
          rw [pb_ref hov (by omega) (by omega), z_add]
          refine c7_bookL (c := l) (j := 7) (k := 17 + 10 * l) rfl (by decide) rfl hM2 (by omega) (by omega) (fun g3 hM3 hF3 => ?_)
          have e := ihm (l + 1) g3 (by omega) ?_ (hF2.tr hF3)
          · rw [show ((l + 1 : Nat) : Int) = (l : Int) + 1 by omega, ← z_add, ← z1] at e
            exact e
          · rw [psl_s, ho]
            exact hM3
      exact loops (R 3).toNat 0 g (Nat.zero_add _) hMg hF
  exact w7_passAll (cars (R 4).toNat 0 h (Nat.zero_add _) hM FrC.rf)
theorem c7_metal {a1 a2 : Int32} {l : Nat} {L : Int} (e1 : a1 = zI l) (e2 : a2 = zI L) (hL1 : L = 0 ∨ L = 1) (hM : MR h S R C) (hW : WF R) (hL : LayOK R C) (hl : (l : Int) < R 3) (hq : Q (vI (zI (metF R C L (R (11 + 10 * l)) (R (12 + 10 * l)).toNat))) h) : mC M7_metal [.inr (.inr (some (20, 0, 0))), .inl a1, .inl a2] h Q := by
  subst e1; subst e2
  have hb := hW.c
  have hb3 := hW.l
  have wl := hW.2.2.1 l hl
  unfold WFl at wl
  have loop : ∀ n j : Nat, j + n = (R (12 + 10 * l)).toNat → mE M7_metal 10 [vR 20 0 0, vI (zI l), vI (zI L), vI (zI (metF R C L (R (11 + 10 * l)) j)), vI (zI (R (11 + 10 * l) + j)), vU] [] h Q := by
    intro n
    induction n with
    | zero =>
      intro j hj
      refine w7_metal_10 (c7_ofL (c := l) (j := 1) (k := 11 + 10 * l) rfl (by decide) hM (by omega) (by omega) ?_)
      refine c7_ofL (c := l) (j := 2) (k := 12 + 10 * l) rfl (by decide) hM (by omega) (by omega) ?_
      show (zI _ + zI _ ≤ zI _ → Q (vI (zI _)) h) ∧ (¬ zI _ + zI _ ≤ zI _ → _)
      rw [z_add, z_le (by omega) (by omega)]
      rw [Nat.add_zero] at hj
      rw [hj]
      exact ⟨fun _ => hq, fun _ => by omega⟩
    | succ n ih =>
      intro j hj
      have hk : (40 * L + (R (11 + 10 * l) + j)).toNat < 80 := by omega
      refine w7_metal_10 (c7_ofL (c := l) (j := 1) (k := 11 + 10 * l) rfl (by decide) hM (by omega) (by omega) ?_)
      refine c7_ofL (c := l) (j := 2) (k := 12 + 10 * l) rfl (by decide) hM (by omega) (by omega) ?_
      show (zI _ + zI _ ≤ zI _ → _) ∧ (¬ zI _ + zI _ ≤ zI _ → vp_in (40 * zI L + zI _) 80 ∧ ((0 ≤ h.1 27 0 0 (40 * zI L + zI _).toNatClampNeg → mC _ [_, .inl (h.1 27 0 0 (40 * zI L + zI _).toNatClampNeg), _] h (kI (fun x504 h503 => mE _ _ [_, _, _, vI (zI _ + x504), vI (zI _ + 1), _] _ h503 Q))) ∧ (¬ 0 ≤ h.1 27 0 0 (40 * zI L + zI _).toNatClampNeg → mE _ _ [_, _, _, vI (zI _ + 0), vI (zI _ + 1), _] _ h Q)))
      have e := ih (j + 1) (by omega)
      have em : metF R C L (R (11 + 10 * l)) (j + 1) = metF R C L (R (11 + 10 * l)) j + if C (40 * L + (R (11 + 10 * l) + j)).toNat < 0 then 0 else R (74 + 10 * (C (40 * L + (R (11 + 10 * l) + j)).toNat).toNat) := rfl
      rw [em, show R (11 + 10 * l) + ((j + 1 : Nat) : Int) = R (11 + 10 * l) + j + 1 by omega] at e
      have hci := Lay_i32 hb hL _ hk
      rw [z40, z0, z1, z_mul, z_add, z_add, z_add, z_add, z_le (by omega) (by omega), z_clamp (by omega) (by omega), hM.2.1 _ hk, z_le (by omega) hci]
      refine ⟨fun _ => by omega, fun _ => ⟨z_in (by omega) (by omega) (by omega), fun q => ?_, fun q => ?_⟩⟩
      · rcases Lay_val hL hk with y | ⟨y1, y2⟩
        · omega
        · obtain ⟨c, hc⟩ : ∃ c : Nat, C (40 * L + (R (11 + 10 * l) + j)).toNat = c := ⟨_, (Int.toNat_of_nonneg y1).symm⟩
          rw [hc] at e y2 ⊢
          refine c7_ofC (c := c) (j := 4) (k := 74 + 10 * c) rfl (by decide) hM (by omega) (by omega) ?_
          rw [if_neg (by omega), Int.toNat_natCast, ← z_add] at e
          exact e
      · rw [if_pos (by omega), Int.add_zero] at e
        rw [Int.add_zero]
        exact e
  refine w7_metal (c7_ofL (c := l) (j := 1) (k := 11 + 10 * l) rfl (by decide) hM (by omega) (by omega) ?_)
  have e := loop (R (12 + 10 * l)).toNat 0 (Nat.zero_add _)
  rw [show R (11 + 10 * l) + ((0 : Nat) : Int) = R (11 + 10 * l) by omega] at e
  exact e
theorem z4 : (4 : Int32) = zI 4 := by decide
theorem c7_strength {a1 : Int32} {l : Nat} (e1 : a1 = zI l) (hM : MR h S R C) (hW : WF R) (hL : LayOK R C) (hl : (l : Int) < R 3) (hq : Q (vI (zI (strF R C l))) h) : mC M7_strength [.inr (.inr (some (20, 0, 0))), .inl a1] h Q := by
  have hb3 := hW.l
  have wl := hW.2.2.1 l hl
  unfold WFl at wl
  refine w7_strength (c7_ofL (c := l) (j := 0) (k := 10 + 10 * l) e1 (by decide) hM (by omega) (by omega) ?_)
  refine c7_metal e1 rfl wl.1 hM hW hL hl ?_
  refine ⟨vin 0 470 (by omega) (by omega) (by decide), ?_⟩
  show mC _ [_, _, .inl (1 - zI _)] h _
  rw [z1, z_sub]
  refine c7_metal e1 rfl (by omega) hM hW hL hl ?_
  show Q (vI (4 * zI _ + h.1 21 0 0 ((0 : Int32).toNatClampNeg) * zI _)) h
  rw [show h.1 21 0 0 ((0 : Int32).toNatClampNeg) = zI (R 0) from hM.1 0 (by omega), z4, z_mul, z_mul, z_add]
  exact hq
theorem c7_listen {a1 : Int32} {l : Nat} (e1 : a1 = zI l) (hM : MR h S R C) (hW : WF R) (hL : LayOK R C) (hl : (l : Int) < R 3) (hq : ∀ h2, MR h2 S (heaF R l (strF R C l)) C → FrC h h2 → Q vU h2) : mC M7_listen [.inr (.inr (some (20, 0, 0))), .inl a1] h Q := by
  have hb3 := hW.l
  have sr := str_rng hW hL hl
  have wl := hW.2.2.1 l hl
  unfold WFl at wl
  refine w7_listen (c7_strength e1 hM hW hL hl ?_)
  generalize strF R C l = s at *
  refine c7_ofL (c := l) (j := 9) (k := 19 + 10 * l) e1 (by decide) hM (by omega) (by omega) ?_
  show mC _ [_, _, _, .inl (zI _ + 1)] h _
  rw [z1, z_add]
  refine c7_bookL (c := l) (j := 9) (k := 19 + 10 * l) e1 (by decide) rfl hM (by omega) (by omega) (fun g2 hM2 hF2 => ?_)
  refine c7_ofL (c := l) (j := 5) (k := 15 + 10 * l) e1 (by decide) hM2 (by omega) (by omega) ?_
  rw [up_ne (by omega)]
  have e15 : up R (19 + 10 * l) (R (19 + 10 * l) + 1) (15 + 10 * l) = R (15 + 10 * l) := up_ne (by omega)
  have e14 : up R (19 + 10 * l) (R (19 + 10 * l) + 1) (14 + 10 * l) = R (14 + 10 * l) := up_ne (by omega)
  have e13 : up R (19 + 10 * l) (R (19 + 10 * l) + 1) (13 + 10 * l) = R (13 + 10 * l) := up_ne (by omega)
  have stay : ¬ (R (15 + 10 * l) = 0 ∧ R (13 + 10 * l) ≤ s) → ¬ (R (15 + 10 * l) = 1 ∧ s < R (14 + 10 * l)) → Q vU g2 := fun n1 n2 => hq g2 (by unfold heaF; rw [if_neg n1, if_neg n2]; exact hM2) hF2
  have off : ¬ (R (15 + 10 * l) = 0 ∧ R (13 + 10 * l) ≤ s) → (mC M7_ofL [.inr (.inr (some (20, 0, 0))), .inl a1, .inl 5] g2 (kI (fun x519 h518 => (¬ x519 = zI 1 → Q vU h518) ∧ (x519 = zI 1 → mC M7_ofL [.inr (.inr (some (20, 0, 0))), .inl a1, .inl 4] h518 (kI (fun x521 h520 => (x521 ≤ zI s → Q vU h520) ∧ (¬ x521 ≤ zI s → mC M7_bookL [.inr (.inr (some (20, 0, 0))), .inl a1, .inl 5, .inl (zI 0)] h520 (kV (fun h522 => Q vU h522))))))))) := by
    intro n1
    refine c7_ofL (c := l) (j := 5) (k := 15 + 10 * l) e1 (by decide) hM2 (by omega) (by omega) ?_
    rw [e15]
    show (¬ zI _ = zI 1 → Q vU g2) ∧ (zI _ = zI 1 → _)
    rw [z_eq (by omega) (by omega)]
    refine ⟨fun q => stay n1 (fun z => q z.1), fun q => ?_⟩
    refine c7_ofL (c := l) (j := 4) (k := 14 + 10 * l) e1 (by decide) hM2 (by omega) (by omega) ?_
    rw [e14]
    show (zI _ ≤ zI s → Q vU g2) ∧ (¬ zI _ ≤ zI s → _)
    rw [z_le (by omega) (by omega)]
    refine ⟨fun q2 => stay n1 (fun z => by have := z.2; omega), fun q2 => ?_⟩
    refine c7_bookL (c := l) (j := 5) (k := 15 + 10 * l) e1 (by decide) rfl hM2 (by omega) (by omega) (fun g3 hM3 hF3 => ?_)
    refine hq g3 ?_ (hF2.tr hF3)
    unfold heaF
    rw [if_neg n1, if_pos ⟨q, by omega⟩]
    exact hM3
  show (¬ zI _ = 0 → _) ∧ (zI _ = 0 → _)
  rw [z0, z_eq (by omega) (by omega)]
  refine ⟨fun q => off (fun z => q z.1), fun q => ?_⟩
  refine c7_ofL (c := l) (j := 3) (k := 13 + 10 * l) e1 (by decide) hM2 (by omega) (by omega) ?_
  rw [e13]
  show (zI s < zI _ → _) ∧ (¬ zI s < zI _ → _)
  rw [z_lt (by omega) (by omega)]
  refine ⟨fun q2 => off (fun z => by have := z.2; omega), fun q2 => ?_⟩
  refine c7_bookL (c := l) (j := 5) (k := 15 + 10 * l) e1 (by decide) rfl hM2 (by omega) (by omega) (fun g3 hM3 hF3 => ?_)
  refine c7_ofL (c := l) (j := 6) (k := 16 + 10 * l) e1 (by decide) hM3 (by omega) (by omega) ?_
  rw [up_ne (by omega), up_ne (by omega)]
  show mC _ [_, _, _, .inl (zI _ + zI 1)] g3 _
  rw [z_add]
  refine c7_bookL (c := l) (j := 6) (k := 16 + 10 * l) e1 (by decide) rfl hM3 (by omega) (by omega) (fun g4 hM4 hF4 => ?_)
  refine hq g4 ?_ (hF2.tr (hF3.tr hF4))
  unfold heaF
  rw [if_pos ⟨q, by omega⟩]
  exact hM4
theorem c7_listener (hM : MR h S R C) (hW : WF R) (hq : Q (vI (zI (lstF R))) h) : mC M7_listener [.inr (.inr (some (20, 0, 0)))] h Q := by
  obtain ⟨⟨b1, b2, b3, b4, b5, b6, b7, b8⟩, -⟩ := hW
  refine w7_listener ⟨vin 3 470 (by omega) (by omega) (by decide), ?_⟩
  rw [mr3 hM, show h.1 21 0 0 ((1 : Int32).toNatClampNeg) = zI (R 1) from hM.1 1 (by omega), show h.1 21 0 0 ((2 : Int32).toNatClampNeg) = zI (R 2) from hM.1 2 (by omega), z0, zm6, z_eq (by omega) (by omega), z_eq (by omega) (by omega)]
  unfold lstF at hq
  refine ⟨fun q => ⟨vin 2 470 (by omega) (by omega) (by decide), vin 1 470 (by omega) (by omega) (by decide), by omega, vin 3 470 (by omega) (by omega) (by decide), q, ?_⟩, fun q => ?_⟩
  · rw [if_neg q, ← z_of] at hq; exact hq
  · rw [if_pos q] at hq; exact hq
theorem lst_cong {R R2 : rw_} (h1 : R2 1 = R 1) (h2 : R2 2 = R 2) (h3 : R2 3 = R 3) : lstF R2 = lstF R := by unfold lstF; rw [h1, h2, h3]
/-- which loop listens in a tick of the reference -/
def whoF (R : rw_) (a : Int) : Int := if a < 0 then lstF R else a
theorem c7_pass {a1 : Int32} {a : Int} (e1 : a1 = zI a) (ha : i32 a) (ha3 : a < R 3) (hM : MR h S R C) (hW : WF R) (hL : LayOK R C0) (hq : ∀ h2, MR h2 S (psF R C0 (whoF R a)).1 (psF R C0 (whoF R a)).2 → FrK h h2 → Q vU h2) : mC M7_pass [.inr (.inr (some (20, 0, 0))), .inl a1] h Q := by
  subst e1
  obtain ⟨a1, a2, a3, a4⟩ := ma_ok hW hL
  have hb := hW.c
  have hb3 := hW.l
  obtain ⟨b1, b2⟩ := pasN_ok a1 a2 (R 4).toNat (by omega)
  have b3 := (pasN_4 a1.l.2 (R 4).toNat).2
  have lo : ∀ k, k < 10 → pasN (maF R C0).1 (R 4).toNat k = R k := fun k hk => by rw [pasN_lo a1.l.2 hk, ma_low (by omega)]
  have elst : lstF (pasN (maF R C0).1 (R 4).toNat) = lstF R := lst_cong (lo 1 (by omega)) (lo 2 (by omega)) (lo 3 (by omega))
  refine w7_pass (c7_moveAll hM hW hL (fun g1 hM1 hF1 => ?_))
  refine c7_passAll hM1 a1 a2 (fun g2 hM2 hF2 => ?_)
  rw [a3] at hM2
  -- the end
  have done : ∀ (g : mH) (R2 : rw_), R2 2 = R 2 → MR g S R2 (maF R C0).2 → FrK h g → (psF R C0 (whoF R a)) = (up R2 2 (R 2 + 1), (maF R C0).2) → vp_in 2 470 ∧ (vp_in 2 470 ∧ (Q vU (pI g 21 0 0 ((2 : Int32).toNatClampNeg) ((g.1 21 0 0 ((2 : Int32).toNatClampNeg)) + 1)))) := by
    intro g R2 e2 hMg hFg ep
    refine ⟨vin 2 470 (by omega) (by omega) (by decide), vin 2 470 (by omega) (by omega) (by decide), ?_⟩
    rw [ep] at hq
    rw [show g.1 21 0 0 ((2 : Int32).toNatClampNeg) = zI (R2 2) from hMg.1 2 (by omega), e2, z1, z_add]
    exact hq _ hMg.row (hFg.tr (FrK.put (by omega)))
  have hF12 : FrK h g2 := hF1.tr hF2.K
  have none_ : ∀ x : Int, x < 0 → whoF R a = x → vp_in 2 470 ∧ (vp_in 2 470 ∧ (Q vU (pI g2 21 0 0 ((2 : Int32).toNatClampNeg) ((g2.1 21 0 0 ((2 : Int32).toNatClampNeg)) + 1)))) := by
    intro x hx ew
    refine done g2 _ (lo 2 (by omega)) hM2 hF12 ?_
    rw [ew]
    unfold psF
    rw [if_neg (by omega)]
  have some_ : ∀ x : Int, 0 ≤ x → x < R 3 → whoF R a = x → mC M7_listen [.inr (.inr (some (20, 0, 0))), .inl (zI x)] g2 (kV (fun h536 => vp_in 2 470 ∧ (vp_in 2 470 ∧ (Q vU (pI h536 21 0 0 ((2 : Int32).toNatClampNeg) ((h536.1 21 0 0 ((2 : Int32).toNatClampNeg)) + 1)))))) := by
    intro x h0 h3 ew
    obtain ⟨l, rfl⟩ : ∃ l : Nat, x = l := ⟨x.toNat, by omega⟩
    refine c7_listen rfl hM2 b1 b2 (by rw [b3, a4]; exact h3) (fun g3 hM3 hF3 => ?_)
    refine done g3 _ ?_ hM3 (hF12.tr hF3.K) ?_
    · rw [heaF_ne (by omega)]; exact lo 2 (by omega)
    · rw [ew]
      unfold psF
      rw [if_pos ⟨h0, h3⟩, Int.toNat_natCast]
  show (0 ≤ zI a → (zI a < 0 → _) ∧ (¬ zI a < 0 → _)) ∧ (¬ 0 ≤ zI a → _)
  rw [z0, z_le (by omega) ha, z_lt ha (by omega)]
  refine ⟨fun q => ⟨fun _ => by omega, fun _ => some_ a q ha3 (by unfold whoF; rw [if_neg (by omega)])⟩, fun q => ?_⟩
  refine c7_listener hM2 b1 ?_
  rw [elst]
  have ew : whoF R a = lstF R := by unfold whoF; rw [if_pos (by omega)]
  show (zI _ < zI 0 → _) ∧ (¬ zI _ < zI 0 → _)
  rw [z_lt lst_rng (by omega)]
  refine ⟨fun q2 => none_ _ q2 ew, fun q2 => some_ _ (by omega) (lst_lt hb3 (by omega)) ew⟩
end REFT
