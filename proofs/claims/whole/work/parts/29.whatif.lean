/-! facts for what-ifs: cars and passings heed neither bounds nor what loops heard -/
def xK (k : Nat) : Prop := k < 70 ∧ 10 ≤ k ∧ (k % 10 = 3 ∨ k % 10 = 5 ∨ k % 10 = 6 ∨ k % 10 = 9)
def EqX (R R2 : rw_) : Prop := ∀ k, ¬ xK k → R2 k = R k
theorem xK_ca {k : Nat} (h : 70 ≤ k) : ¬ xK k := fun z => by unfold xK at z; omega
theorem xK_lo {k : Nat} (h : k < 10) : ¬ xK k := fun z => by unfold xK at z; omega
section EQX
variable {R R2 C : rw_}
theorem EqX.rf : EqX R R := fun _ _ => rfl
theorem EqX.sy (e : EqX R R2) : EqX R2 R := fun k hk => (e k hk).symm
theorem EqX.tr {R3 : rw_} (e : EqX R R2) (e2 : EqX R2 R3) : EqX R R3 := fun k hk => (e2 k hk).trans (e k hk)
theorem EqX.pt (e : EqX R R2) {k : Nat} {v v2 : Int} (hv : v2 = v) : EqX (up R k v) (up R2 k v2) := fun j hj => by
  by_cases q : j = k
  · rw [q, up_at, up_at, hv]
  · rw [up_ne q, up_ne q]; exact e j hj
theorem EqX.px (e : EqX R R2) {k : Nat} {v : Int} (hk : xK k) : EqX R (up R2 k v) := fun j hj => by
  rw [up_ne (fun z => by rw [z] at hj; exact hj hk)]; exact e j hj
theorem EqX.ca (e : EqX R R2) {k : Nat} (h : 70 ≤ k) : R2 k = R k := e k (xK_ca h)
theorem EqX.lo (e : EqX R R2) {k : Nat} (h : k < 10) : R2 k = R k := e k (xK_lo h)
theorem mark_x (e : EqX R R2) {c : Nat} {v : Int} : markF R2 C c v = markF R C c v := by
  unfold markF cov lasF
  rw [e.ca (k := 70 + 10 * c) (by omega), e.ca (k := 71 + 10 * c) (by omega), e.ca (k := 72 + 10 * c) (by omega)]
theorem can_x (e : EqX R R2) {c : Nat} : canF R2 C c = canF R C c := by
  unfold canF lasF
  rw [e.ca (k := 70 + 10 * c) (by omega), e.ca (k := 71 + 10 * c) (by omega), e.ca (k := 72 + 10 * c) (by omega), e.ca (k := 76 + 10 * c) (by omega)]
theorem adv_x (e : EqX R R2) {c : Nat} : adv R2 C c = adv R C c := by
  unfold adv
  rw [e.ca (k := 70 + 10 * c) (by omega), e.ca (k := 71 + 10 * c) (by omega), e.ca (k := 72 + 10 * c) (by omega), e.ca (k := 73 + 10 * c) (by omega)]
theorem gon_x (e : EqX R R2) {c m : Nat} : gonF R2 c m = gonF R c m := by
  unfold gonF
  rw [e.ca (k := 71 + 10 * c) (by omega), e.ca (k := 72 + 10 * c) (by omega)]
theorem chg_x (e : EqX R R2) {c : Nat} : EqX (chgF R c) (chgF R2 c) := by
  unfold chgF
  rw [e.ca (k := 70 + 10 * c) (by omega), e.ca (k := 77 + 10 * c) (by omega)]
  exact ((e.pt rfl).pt rfl).pt rfl
theorem on_x (e : EqX R R2) {c m : Nat} : EqX (onF R c m) (onF R2 c m) := by
  unfold onF
  rw [e.ca (k := 71 + 10 * c) (by omega), e.ca (k := 73 + 10 * c) (by omega), e.ca (k := 78 + 10 * c) (by omega), gon_x e]
  exact ((e.pt rfl).pt rfl).pt rfl
theorem mv_x (e : EqX R R2) {c : Nat} : EqX (mvF R C c).1 (mvF R2 C c).1 ∧ (mvF R2 C c).2 = (mvF R C c).2 := by
  unfold mvF
  by_cases q : canF R C c
  · rw [if_pos q, if_pos ((can_x e).mpr q)]
    exact ⟨chg_x e, by dsimp only; rw [mark_x (chg_x e), mark_x e]⟩
  · rw [if_neg q, if_neg (fun z => q ((can_x e).mp z))]
    dsimp only
    rw [adv_x e, gon_x e, mark_x (on_x e), mark_x e]
    exact ⟨on_x e, rfl⟩
theorem ins_x (e : EqX R R2) {c : Nat} : ∀ (k : Nat) (O : Nat → Nat), insF R2 O c k = insF R O c k := by
  intro k
  induction k with
  | zero => intro O; rfl
  | succ k ih =>
    intro O
    rw [insF, insF, e.ca (k := 71 + 10 * O k) (by omega), e.ca (k := 71 + 10 * c) (by omega), ih]
theorem ord_x (e : EqX R R2) : ∀ n : Nat, ordF R2 n = ordF R n := by
  intro n
  induction n with
  | zero => rfl
  | succ n ih => rw [ordF, ordF, e.ca (k := 75 + 10 * n) (by omega), ih, ins_x e]
theorem mov_x (e : EqX R R2) {O : Nat → Nat} : ∀ n : Nat, EqX (movN R C O n).1 (movN R2 C O n).1 ∧ (movN R2 C O n).2 = (movN R C O n).2 := by
  intro n
  induction n with
  | zero => exact ⟨e, rfl⟩
  | succ n ih =>
    rw [mov_s, mov_s, ih.2]
    exact mv_x ih.1
theorem ma_x (e : EqX R R2) : EqX (maF R C).1 (maF R2 C).1 ∧ (maF R2 C).2 = (maF R C).2 := by
  unfold maF
  rw [e.lo (k := 4) (by omega), ord_x e]
  exact mov_x e _
theorem ov_x (e : EqX R R2) {c : Nat} : ∀ n : Nat, ovF R2 c n = ovF R c n := by
  intro n
  induction n with
  | zero => rfl
  | succ n ih =>
    have g : ∀ j, j < 3 → R2 (10 + j + 10 * n) = R (10 + j + 10 * n) := fun j hj => e _ (fun z => by unfold xK at z; omega)
    have g0 := g 0 (by omega)
    have g1 := g 1 (by omega)
    have g2 := g 2 (by omega)
    rw [ovF, ovF, ih]
    unfold isOv lasF
    rw [e.ca (k := 70 + 10 * c) (by omega), e.ca (k := 71 + 10 * c) (by omega), e.ca (k := 72 + 10 * c) (by omega), e.ca (k := 75 + 10 * c) (by omega), g0, g1, g2]
theorem psl_x (e : EqX R R2) {c : Nat} {set : Int} : ∀ n : Nat, EqX (pslF R c set n) (pslF R2 c set n) := by
  intro n
  induction n with
  | zero => exact e
  | succ n ih =>
    rw [psl_s, psl_s]
    refine ih.pt ?_
    rw [ih (17 + 10 * n) (fun z => by unfold xK at z; omega), e.ca (k := 79 + 10 * c) (by omega)]
theorem pas_x (e : EqX R R2) {c : Nat} : EqX (pasF R c) (pasF R2 c) := by
  unfold pasF
  rw [e.lo (k := 3) (by omega), ov_x e]
  exact (psl_x e _).pt rfl
theorem pasN_x (e : EqX R R2) : ∀ n : Nat, EqX (pasN R n) (pasN R2 n) := by
  intro n
  induction n with
  | zero => exact e
  | succ n ih => rw [pasN, pasN]; exact pas_x ih
theorem hea_x {l : Nat} {s : Int} (hl : l < 6) : EqX R (heaF R l s) := fun k hk => heaF_ne2 (fun z => hk (by unfold xK; omega)) (fun z => hk (by unfold xK; omega)) (fun z => hk (by unfold xK; omega))
theorem ps_x0 {l : Int} (h3 : R 3 ≤ 6) : EqX (up (pasN (maF R C).1 (R 4).toNat) 2 (R 2 + 1)) (psF R C l).1 := by
  unfold psF
  dsimp only
  refine EqX.pt ?_ rfl
  by_cases q : 0 ≤ l ∧ l < R 3
  · rw [if_pos q]; exact hea_x (by omega)
  · rw [if_neg q]; exact EqX.rf
theorem ps_x (e : EqX R R2) (h3 : R 3 ≤ 6) {l l2 : Int} : EqX (psF R C l).1 (psF R2 C l2).1 ∧ (psF R2 C l2).2 = (psF R C l).2 := by
  refine ⟨(ps_x0 h3).sy.tr (EqX.tr ?_ (ps_x0 (by rw [e.lo (by omega)]; exact h3))), (ma_x e).2⟩
  rw [e.lo (k := 4) (by omega), e.lo (k := 2) (by omega)]
  exact (pasN_x (ma_x e).1 _).pt rfl
theorem ps_2 {l : Int} : (psF R C l).1 2 = R 2 + 1 := by
  unfold psF
  dsimp only
  exact up_at
theorem ps_c {l : Int} : (psF R C l).2 = (maF R C).2 := rfl
theorem ps_4 (hW : WF R) (hL : LayOK R C) {l : Int} : (psF R C l).1 4 = R 4 ∧ (psF R C l).1 3 = R 3 ∧ (psF R C l).1 1 = R 1 := by
  obtain ⟨a1, a2, a3, a4⟩ := ma_ok hW hL
  have e := ps_x0 (R := R) (C := C) (l := l) hW.l.2
  refine ⟨?_, ?_, ?_⟩
  · rw [e.lo (by omega), up_ne (by omega), pasN_lo a1.l.2 (by omega), a3]
  · rw [e.lo (by omega), up_ne (by omega), pasN_lo a1.l.2 (by omega), a4]
  · rw [e.lo (by omega), up_ne (by omega), pasN_lo a1.l.2 (by omega), ma_low (by omega)]
end EQX
/-- ticks in which no loop listens -/
def noN (R C : rw_) : Nat → rw_ × rw_
  | 0 => (R, C)
  | n + 1 => psF (noN R C n).1 (noN R C n).2 (-6)
/-- ticks in which a given loop listens (below 0: the one whose turn it is) -/
def alN (R C : rw_) (a : Int) : Nat → rw_ × rw_
  | 0 => (R, C)
  | n + 1 => psF (alN R C a n).1 (alN R C a n).2 (whoF (alN R C a n).1 a)
section TICKS
variable {R R2 C : rw_}
theorem tk_s {n : Nat} : tkN R C (n + 1) = psF (tkN R C n).1 (tkN R C n).2 (lstF (tkN R C n).1) := rfl
theorem no_s {n : Nat} : noN R C (n + 1) = psF (noN R C n).1 (noN R C n).2 (-6) := rfl
theorem al_s {a : Int} {n : Nat} : alN R C a (n + 1) = psF (alN R C a n).1 (alN R C a n).2 (whoF (alN R C a n).1 a) := rfl
theorem al_tk {a : Int} (ha : a < 0) : ∀ n, alN R C a n = tkN R C n := by
  intro n
  induction n with
  | zero => rfl
  | succ n ih => rw [al_s, tk_s, ih, whoF, if_pos ha]
theorem al_ok {a : Int} (hW : WF R) (hL : LayOK R C) : ∀ n, WF (alN R C a n).1 ∧ LayOK (alN R C a n).1 (alN R C a n).2 ∧ (alN R C a n).1 3 = R 3 ∧ (alN R C a n).1 4 = R 4 := by
  intro n
  induction n with
  | zero => exact ⟨hW, hL, rfl, rfl⟩
  | succ n ih =>
    obtain ⟨i1, i2, i3, i4⟩ := ih
    rw [al_s]
    have p := ps_ok i1 i2 (whoF (alN R C a n).1 a)
    have p4 := ps_4 i1 i2 (l := whoF (alN R C a n).1 a)
    exact ⟨p.1, p.2, p4.2.1.trans i3, p4.1.trans i4⟩
theorem tk_lo (hW : WF R) (hL : LayOK R C) (n : Nat) : (tkN R C n).1 3 = R 3 ∧ (tkN R C n).1 4 = R 4 ∧ (tkN R C n).1 2 = R 2 + n := by
  refine ⟨?_, ?_, ?_⟩
  · rw [← al_tk (a := -6) (by omega)]; exact (al_ok hW hL n).2.2.1
  · rw [← al_tk (a := -6) (by omega)]; exact (al_ok hW hL n).2.2.2
  · induction n with
    | zero => exact (Int.add_zero _).symm
    | succ n ih => rw [tk_s, ps_2, ih]; omega
theorem no_ok (hW : WF R) (hL : LayOK R C) : ∀ n, WF (noN R C n).1 ∧ LayOK (noN R C n).1 (noN R C n).2 ∧ (noN R C n).1 2 = R 2 + n ∧ (noN R C n).1 4 = R 4 := by
  intro n
  induction n with
  | zero => exact ⟨hW, hL, (Int.add_zero _).symm, rfl⟩
  | succ n ih =>
    obtain ⟨i1, i2, i3, i4⟩ := ih
    rw [no_s]
    have p := ps_ok i1 i2 (-6)
    exact ⟨p.1, p.2, by rw [ps_2, i3]; omega, (ps_4 i1 i2).1.trans i4⟩
theorem no_x (hW : WF R) (hL : LayOK R C) : ∀ n, EqX (tkN R C n).1 (noN R C n).1 ∧ (noN R C n).2 = (tkN R C n).2 := by
  intro n
  induction n with
  | zero => exact ⟨EqX.rf, rfl⟩
  | succ n ih =>
    rw [no_s, tk_s, ih.2]
    exact ps_x ih.1 (tk_ok hW hL n).1.l.2
theorem tk_x (e : EqX R R2) (hW : WF R) (hL : LayOK R C) : ∀ n, EqX (tkN R C n).1 (tkN R2 C n).1 ∧ (tkN R2 C n).2 = (tkN R C n).2 := by
  intro n
  induction n with
  | zero => exact ⟨e, rfl⟩
  | succ n ih =>
    rw [tk_s, tk_s, ih.2]
    exact ps_x ih.1 (tk_ok hW hL n).1.l.2
theorem met_x (e : ∀ k, k ≠ 2 → ¬ xK k → R2 k = R k) {L x : Int} : ∀ n, metF R2 C L x n = metF R C L x n := by
  intro n
  induction n with
  | zero => rfl
  | succ n ih => rw [metF, metF, ih, e _ (by omega) (xK_ca (by omega))]
theorem str_x (e : ∀ k, k ≠ 2 → ¬ xK k → R2 k = R k) (l : Nat) : strF R2 C l = strF R C l := by
  have g : ∀ j, j < 3 → R2 (10 + j + 10 * l) = R (10 + j + 10 * l) := fun j hj => e _ (by omega) (fun z => by unfold xK at z; omega)
  have g0 := g 0 (by omega)
  have g1 := g 1 (by omega)
  have g2 := g 2 (by omega)
  unfold strF
  rw [met_x e, met_x e, g0, g1, g2, e 0 (by omega) (xK_lo (by omega))]
theorem lst_x (e : EqX R R2) : lstF R2 = lstF R := lst_cong (e.lo (by omega)) (e.lo (by omega)) (e.lo (by omega))
/-- what a loop hears in ticks: how often, and what -/
def hdF (R C : rw_) (a : Nat) : Nat → Nat × rw_
  | 0 => (0, fun _ => 0)
  | k + 1 => if lstF (tkN R C k).1 = a then ((hdF R C a k).1 + 1, up (hdF R C a k).2 (hdF R C a k).1 (strF (tkN R C (k + 1)).1 (tkN R C (k + 1)).2 a)) else hdF R C a k
theorem hd_s {a k : Nat} : hdF R C a (k + 1) = if lstF (tkN R C k).1 = a then ((hdF R C a k).1 + 1, up (hdF R C a k).2 (hdF R C a k).1 (strF (tkN R C (k + 1)).1 (tkN R C (k + 1)).2 a)) else hdF R C a k := rfl
theorem hd_le {a : Nat} : ∀ k, (hdF R C a k).1 ≤ k := by
  intro k
  induction k with
  | zero => exact Nat.le_refl 0
  | succ k ih =>
    rw [hd_s]
    split
    · exact Nat.succ_le_succ ih
    · omega
/-- the lone loop hears it again -/
def rpN (R1 v : rw_) : Nat → rw_
  | 0 => R1
  | n + 1 => heaF (rpN R1 v n) 0 (v n)
theorem rp_s {R1 v : rw_} {n : Nat} : rpN R1 v (n + 1) = heaF (rpN R1 v n) 0 (v n) := rfl
theorem rp_cong {R1 v v2 : rw_} : ∀ n, (∀ i, i < n → v2 i = v i) → rpN R1 v2 n = rpN R1 v n := by
  intro n
  induction n with
  | zero => intro _; rfl
  | succ n ih => intro h; rw [rp_s, rp_s, ih (fun i hi => h i (by omega)), h n (by omega)]
def shR (R : rw_) (a : Nat) (u : Int) : rw_ := fun k => if k = 13 then u else R (k + 10 * a)
def lpK (j : Nat) : Prop := j = 13 ∨ j = 14 ∨ j = 15 ∨ j = 16
theorem hea_off {P P2 : rw_} {a : Nat} {s : Int} (e : ∀ j, lpK j → P (j + 10 * a) = P2 j) : ∀ j, lpK j → heaF P a s (j + 10 * a) = heaF P2 0 s j := by
  intro j hj
  have e3 := e 13 (Or.inl rfl)
  have e4 := e 14 (Or.inr (Or.inl rfl))
  have e5 := e 15 (Or.inr (Or.inr (Or.inl rfl)))
  have e6 := e 16 (Or.inr (Or.inr (Or.inr rfl)))
  have ej := e j hj
  unfold lpK at hj
  unfold heaF
  rw [e3, e4, e5, e6]
  simp only [Nat.mul_zero, Nat.add_zero]
  have u9 : ∀ (A : rw_) (x : Int), up A (19 + 10 * a) x (j + 10 * a) = A (j + 10 * a) := fun A x => up_ne (by omega)
  have v9 : ∀ (A : rw_) (x : Int), up A 19 x j = A j := fun A x => up_ne (by omega)
  split
  · by_cases q6 : j = 16
    · rw [q6, up_at, up_at]
    · rw [up_ne (by omega), up_ne q6]
      by_cases q5 : j = 15
      · rw [q5, up_at, up_at]
      · rw [up_ne (by omega), up_ne q5, u9, v9]; exact ej
  · split
    · by_cases q5 : j = 15
      · rw [q5, up_at, up_at]
      · rw [up_ne (by omega), up_ne q5, u9, v9]; exact ej
    · rw [u9, v9]; exact ej
theorem pasN_lp {R : rw_} (hl : R 3 ≤ 6) {j a : Nat} (hj : lpK j) (ha : a < 6) : ∀ n, pasN R n (j + 10 * a) = R (j + 10 * a) := by
  intro n
  unfold lpK at hj
  induction n with
  | zero => rfl
  | succ n ih =>
    rw [pasN, pas_ne (by rw [(pasN_4 hl n).2]; exact hl) (by omega) (fun i hi => by omega), ih]
theorem rep_main (hW : WF R) (hL : LayOK R C) {a : Nat} (ha : (a : Int) < R 3) {u : Int} (hW2 : WF (up R (13 + 10 * a) u)) (hL2 : LayOK (up R (13 + 10 * a) u) C) : ∀ k j, lpK j → (tkN (up R (13 + 10 * a) u) C k).1 (j + 10 * a) = rpN (shR R a u) (hdF R C a k).2 (hdF R C a k).1 j := by
  have hb := hW.l
  have a6 : a < 6 := by omega
  have e0 : EqX R (up R (13 + 10 * a) u) := EqX.px (k := 13 + 10 * a) EqX.rf (by unfold xK; omega)
  intro k
  induction k with
  | zero =>
    intro j hj
    show up R (13 + 10 * a) u (j + 10 * a) = shR R a u j
    unfold shR
    by_cases q : j = 13
    · rw [if_pos q, q, up_at]
    · rw [if_neg q, up_ne (by omega)]
  | succ k ih =>
    obtain ⟨ex, ec⟩ := tk_x e0 hW hL k
    obtain ⟨ex1, ec1⟩ := tk_x e0 hW hL (k + 1)
    obtain ⟨w1, w2⟩ := tk_ok hW2 hL2 k
    obtain ⟨m1, m2, m3, m4⟩ := ma_ok w1 w2
    have h3 : (tkN (up R (13 + 10 * a) u) C k).1 3 = R 3 := by rw [(tk_lo hW2 hL2 k).1, up_ne (by omega)]
    have pl : ∀ j, lpK j → pasN (maF (tkN (up R (13 + 10 * a) u) C k).1 (tkN (up R (13 + 10 * a) u) C k).2).1 ((tkN (up R (13 + 10 * a) u) C k).1 4).toNat (j + 10 * a) = rpN (shR R a u) (hdF R C a k).2 (hdF R C a k).1 j := fun j hj => by
      rw [pasN_lp m1.l.2 hj a6, ma_low (by unfold lpK at hj; omega)]
      exact ih j hj
    intro j hj
    rw [hd_s]
    have es := str_x (C := (tkN R C (k + 1)).2) (R := (tkN R C (k + 1)).1) (R2 := pasN (maF (tkN (up R (13 + 10 * a) u) C k).1 (tkN (up R (13 + 10 * a) u) C k).2).1 ((tkN (up R (13 + 10 * a) u) C k).1 4).toNat) (fun i hi hx => by
      rw [← ex1 i hx, tk_s, ps_x0 (l := lstF (tkN (up R (13 + 10 * a) u) C k).1) w1.l.2 i hx, up_ne hi]) a
    have ec2 : (maF (tkN (up R (13 + 10 * a) u) C k).1 (tkN (up R (13 + 10 * a) u) C k).2).2 = (tkN R C (k + 1)).2 := by
      rw [tk_s, ps_c] at ec1
      exact ec1
    rw [tk_s, lst_x ex]
    unfold psF
    dsimp only
    rw [up_ne (by unfold lpK at hj; omega), h3]
    by_cases q : lstF (tkN R C k).1 = a
    · rw [if_pos q, q, if_pos ⟨by omega, ha⟩, Int.toNat_natCast, ec2, es]
      dsimp only
      rw [rp_s, up_at]
      refine hea_off (fun i hi => ?_) j hj
      rw [pl i hi]
      exact (congrFun (rp_cong _ (fun i hi => up_ne (by omega))) i).symm
    · rw [if_neg q]
      by_cases q2 : 0 ≤ lstF (tkN R C k).1 ∧ lstF (tkN R C k).1 < R 3
      · rw [if_pos q2, heaF_ne (by unfold lpK at hj; omega)]
        exact pl j hj
      · rw [if_neg q2]
        exact pl j hj
end TICKS
