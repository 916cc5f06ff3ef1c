/-! THE SMALL MACHINE: logical cells (kind, road, number) instead of addresses; one judgement mE over the kit's W; a row an instruction -/
def TB : List Jvm.Cond := lw_tbl.filter goodWord
theorem tb_of {w : Jvm.Cond} (i : Nat) (h : lw_tbl[i]? = some w) (g : goodWord w = true) : w ∈ TB := List.mem_filter.mpr ⟨List.mem_of_getElem? h, g⟩
theorem tb_good {ws : List Jvm.Cond} (h : ∀ w ∈ ws, w ∈ TB) : GoodIn TB ws := fun w hw => ⟨h w hw, good_of_word (List.mem_filter.mp (h w hw)).2⟩
theorem tb_tbl {w : Jvm.Cond} (h : w ∈ TB) : w ∈ lw_tbl := (List.mem_filter.mp h).1
abbrev mW : Type := Int32 ⊕ (Int64 ⊕ Option (Nat × Nat × Nat))
abbrev mV : Type := Option mW
abbrev vU : mV := none
abbrev vI (x : Int32) : mV := some (.inl x)
abbrev vL (x : Int64) : mV := some (.inr (.inl x))
abbrev vN : mV := some (.inr (.inr none))
abbrev vR (k r i : Nat) : mV := some (.inr (.inr (some (k, r, i))))
abbrev mAd : Type := Nat → Nat → Nat → Nat
def cw (ad : mAd) : mW → Value
  | .inl x => .int x
  | .inr (.inl x) => .long x
  | .inr (.inr none) => .null
  | .inr (.inr (some (k, r, i))) => .ref (ad k r i)
def cv (ad : mAd) : mV → Value
  | none => .null
  | some w => cw ad w
abbrev mH : Type := (Nat → Nat → Nat → Nat → Int32) × (Nat → Nat → Option (Nat × Nat))
/-- what a place of a logical cell holds -/
def sv (h : mH) (k r i s : Nat) : mV := match k with
  | 0 => match s with
    | 0 => vR 1 r 0
    | 1 => vR 2 r 0
    | 2 => vR 3 r 0
    | 3 => vR 4 r 0
    | _ => vI (h.1 0 r i s)
  | 1 => vR 5 r s
  | 2 => vR 6 r s
  | 4 => match h.2 r s with
    | none => vN
    | some (r2, c) => vR 5 r2 c
  | 5 => match s with
    | 0 => vI (nI i)
    | _ => vI (h.1 5 r i s)
  | 7 => match s with
    | 0 => vR 0 0 0
    | 1 => vR 0 1 0
    | 2 => vR 6 11 0
    | 3 => vR 8 0 0
    | 4 => vR 9 0 0
    | 5 => vR 11 0 0
    | _ => vR 13 0 0
  | 9 => match s with
    | 0 => vR 10 0 0
    | _ => vI (h.1 9 r i s)
  | 11 => match s with
    | 0 => vR 12 0 0
    | _ => vI (h.1 11 r i s)
  | 12 => vR 0 (2 + s) 0
  | 13 => match s with
    | 0 => vR 14 0 0
    | _ => vR 15 0 0
  | 14 => vR 0 (9 + s) 0
  | 20 => match s with
    | 0 => vR 21 0 0
    | 1 => vR 22 0 0
    | 2 => vR 23 0 0
    | 4 => vR 24 0 0
    | 5 => vR 25 0 0
    | 6 => vR 26 0 0
    | 9 => vR 27 0 0
    | 10 => vR 28 0 0
    | 11 => vR 29 0 0
    | _ => vI (h.1 20 r i s)
  | k => vI (h.1 k r i s)
/-- the kinds of objects, by their place in vwCl; none: an array -/
def kc : Nat → Option Nat
  | 0 => some 4
  | 5 => some 0
  | 6 => some 2
  | 7 => some 6
  | 9 => some 3
  | 11 => some 1
  | 13 => some 5
  | 20 => some 7
  | _ => none
/-- how many places -/
def kz : Nat → Nat
  | 0 => 9
  | 1 => 40
  | 2 => 6
  | 3 => 80
  | 4 => 40
  | 5 => 11
  | 6 => 9
  | 7 => 7
  | 8 => 100
  | 9 => 2
  | 10 => 60
  | 11 => 3
  | 12 => 7
  | 13 => 2
  | 14 => 2
  | 15 => 2
  | 20 => 15
  | 21 => 470
  | 22 => 470
  | 23 => 2820
  | 24 => 940
  | 25 => 2
  | 26 => 60
  | 27 => 80
  | 28 => 40
  | 29 => 150
  | _ => 0
/-- an array's elements -/
def kt : Nat → FieldType
  | 1 => .object RX0
  | 2 => .object RX2
  | 4 => .object RX0
  | 10 => .char
  | 12 => .object RX4
  | 14 => .object RX4
  | 15 => .boolean
  | 25 => .boolean
  | _ => .int
def okId (k r i : Nat) : Prop := match k with
  | 0 => r < 11 ∧ i = 0
  | 1 => r < 11 ∧ i = 0
  | 2 => r < 11 ∧ i = 0
  | 3 => r < 11 ∧ i = 0
  | 4 => r < 11 ∧ i = 0
  | 5 => r < 11 ∧ i < 40
  | 6 => (r < 11 ∧ i < 6) ∨ (r = 11 ∧ i = 0)
  | 16 => False
  | 17 => False
  | 18 => False
  | 19 => False
  | k => k < 30 ∧ r = 0 ∧ i = 0
def okW : mW → Prop
  | .inr (.inr (some (k, r, i))) => okId k r i
  | _ => True
def okV : mV → Prop
  | some w => okW w
  | none => True
abbrev mG : Type := mAd × (Nat → ClassId) × (Nat → Nat → Nat) × (Nat → ClassId)
def atK (G : mG) (h : mH) (H : Heap) (k r i : Nat) : Prop := match kc k with
  | some ci => t_OB (G.1 k r i) (G.2.1 ci) (kz k) (G.2.2.1 ci) H (fun s => cv G.1 (sv h k r i s))
  | none => H[G.1 k r i]? = some (arrV (G.2.2.2 k) (kz k) (fun s => cv G.1 (sv h k r i s)))
def Rep (G : mG) (h : mH) (H : Heap) : Prop := ∀ k r i, okId k r i → atK G h H k r i
def InjG (G : mG) : Prop := ∀ k r i k2 r2 i2, okId k r i → okId k2 r2 i2 → G.1 k r i = G.1 k2 r2 i2 → k = k2 ∧ r = r2 ∧ i = i2
def GA (G : mG) : Nat → Prop := fun q => ∃ k r i, okId k r i ∧ q = G.1 k r i
def NW : List Jvm.Cond := [.methodLinkNest RX3 25 yX6_isWithin RX6, .methodLinkNest RX4 65 yX6_isWithin RX6, .methodLinkNest RX4 69 yX6_areBounds RX6, .methodLinkNest RX4 116 yX6_isTicks RX6]
def Kn (G : mG) (s : State) : Prop := (∀ (ci : Nat) (q : vw_C), vwCl[ci]? = some q → u_Kn s q.1 q.2.1 q.2.2 (G.2.1 ci) (G.2.2.1 ci)) ∧ (∀ k, kc k = none → 1 ≤ k → k < 30 → ArrOfT s (G.2.2.2 k) (kt k)) ∧ va_RA s (G.2.2.2 4) (.object RX0) ∧ ∀ w ∈ NW, va_Nw w s
def VH (h : mH) : Prop := ∀ r j p, h.2 r j = some p → p.1 < 11 ∧ p.2 < 40
/-- the locals that are set, by their places -/
def prs (ad : mAd) : Nat → List mV → List (Nat × Value)
  | _, [] => []
  | k, none :: t => prs ad (k + 1) t
  | k, some v :: t => (k, cw ad v) :: prs ad (k + 1) t
abbrev mM : Type := MethodName × ByteArray × Nat × Option FieldType × Nat × Nat
def Cx (M : mM) (G : mG) (p : Program) (R : Room) (s : State) (m : MethodId) (args : Array Value) (meth : Method) (c : Code) : Prop :=
  p.tables.exec = Jvm.exec ∧ c.code = M.2.1 ∧ meth.sig.returnType = M.2.2.2.1 ∧ c.maxLocals = M.2.2.1 ∧ s.vm.findClass M.1.cls = some m.cls ∧ (∀ w ∈ TB, w.before args s = true) ∧ meth.locks = false ∧ (M.2.2.2.2.1 ≤ R.frames ∧ M.2.2.2.2.2 ≤ R.locals) ∧ Kn G s ∧ InjG G
def Dx (M : mM) (G : mG) (s : State) (l st : List mV) (h : mH) (H : Heap) (locs : List Loc) (ls : Array Slot) : Prop :=
  Rep G h H ∧ VH h ∧ (∀ v ∈ l, okV v) ∧ (∀ v ∈ st, okV v) ∧ (lv_has ls M.2.2.1 (prs G.1 0 l) ∧ l.length = M.2.2.1) ∧ va_S (GA G) s.heap H locs
def Qm (G : mG) (Q : mV → mH → Prop) : Array Value → State → Outcome → State → Prop := fun _ st o t => (∃ (v : mV) (h : mH), o = .returned (v.map (cw G.1)) ∧ Q v h ∧ Rep G h t.heap ∧ VH h ∧ okV v) ∧ va_F (GA G) st t
/-- from here the method comes to its end, with an answer and a heap of Q -/
def mE (M : mM) (pc : Nat) (l st : List mV) (h : mH) (Q : mV → mH → Prop) : Prop :=
  ∀ (G : mG) (p : Program) (l0 : Launch) (e : Env) (R : Room) (s : State) (m : MethodId) (args : Array Value) (below : List Frame) (meth : Method) (c : Code) (H : Heap) (locs : List Loc) (ls : Array Slot),
    Cx M G p R s m args meth c → Dx M G s l st h H locs ls → W p l0 e R s m args below meth c H locs 0 0 (MQ below (Qm G Q) args s 0 0 (GA G)) (F0 m pc ls (st.map (cv G.1)))
/-! locals -/
theorem prs_mem {ad : mAd} : ∀ {l : List mV} {k i : Nat} {w : Value}, (i, w) ∈ prs ad k l ↔ ∃ (j : Nat) (v : mW), i = k + j ∧ l[j]? = some (some v) ∧ w = cw ad v := by
  intro l
  induction l with
  | nil => intro k i w; simp [prs]
  | cons a t ih =>
    intro k i w
    cases a with
    | none =>
      simp only [prs]
      rw [ih]
      constructor
      · rintro ⟨j, v, h1, h2, h3⟩
        exact ⟨j + 1, v, by omega, by simpa using h2, h3⟩
      · rintro ⟨j, v, h1, h2, h3⟩
        cases j with
        | zero => simp at h2
        | succ j => exact ⟨j, v, by omega, by simpa using h2, h3⟩
    | some u =>
      simp only [prs, List.mem_cons]
      rw [ih]
      constructor
      · rintro (h | ⟨j, v, h1, h2, h3⟩)
        · cases h
          exact ⟨0, u, by omega, by simp, rfl⟩
        · exact ⟨j + 1, v, by omega, by simpa using h2, h3⟩
      · rintro ⟨j, v, h1, h2, h3⟩
        cases j with
        | zero =>
          simp at h2
          left
          rw [h1, h3, h2]; rfl
        | succ j => exact Or.inr ⟨j, v, by omega, by simpa using h2, h3⟩
theorem prs_at {ad : mAd} {ls : Array Slot} {nL : Nat} {l : List mV} (h : lv_has ls nL (prs ad 0 l)) {i : Nat} {v : mW} (hi : l[i]? = some (some v)) : ls[i]? = some (.val (cw ad v)) := by
  have := h.2.2 (i, cw ad v) (prs_mem.mpr ⟨i, v, by omega, hi, rfl⟩)
  exact this
theorem lv_less {ls : Array Slot} {nL : Nat} {l l2 : List (Nat × Value)} (h : lv_has ls nL l) (hs : ∀ q ∈ l2, q ∈ l) : lv_has ls nL l2 := ⟨h.1, h.2.1, fun q hq => h.2.2 q (hs q hq)⟩
def isL : mV → Bool
  | some (.inr (.inl _)) => true
  | _ => false
theorem cw_cat2 {ad : mAd} {v : mW} (h : (cw ad v).category = 2) : isL (some v) = true := by
  rcases v with x | x | x
  · simp [cw, Value.category] at h
  · rfl
  · rcases x with _ | ⟨k, r, i⟩ <;> simp [cw, Value.category] at h
/-- a value of one place is stored -/
def mset (l : List mV) (i : Nat) (v : mV) : List mV := match i with
  | 0 => l.set 0 v
  | j + 1 => match l[j]? with
    | some (some (.inr (.inl _))) => (l.set j none).set (j + 1) v
    | _ => l.set (j + 1) v
theorem mset_len {l : List mV} {i : Nat} {v : mV} : (mset l i v).length = l.length := by
  cases i with
  | zero => simp [mset]
  | succ j =>
    simp only [mset]
    split <;> simp
theorem mset_get {l : List mV} {i : Nat} {v : mV} {j : Nat} {u : mW} (h : (mset l i v)[j]? = some (some u)) : (j = i ∧ v = some u) ∨ (j ≠ i ∧ l[j]? = some (some u) ∧ ¬ (j + 1 = i ∧ isL (some u) = true)) := by
  cases i with
  | zero =>
    simp only [mset] at h
    by_cases hj : j = 0
    · subst hj
      rw [List.getElem?_set] at h
      simp at h
      exact Or.inl ⟨rfl, h.2⟩
    · rw [List.getElem?_set_ne (fun e => hj e.symm)] at h
      exact Or.inr ⟨hj, h, by omega⟩
  | succ a =>
    simp only [mset] at h
    split at h
    next x hx =>
      by_cases hj : j = a + 1
      · subst hj
        rw [List.getElem?_set] at h
        simp at h
        exact Or.inl ⟨rfl, h.2⟩
      · rw [List.getElem?_set_ne (fun e => hj e.symm)] at h
        by_cases ha : j = a
        · subst ha
          rw [List.getElem?_set] at h
          simp at h
        · rw [List.getElem?_set_ne (fun e => ha e.symm)] at h
          exact Or.inr ⟨hj, h, by omega⟩
    next hx =>
      by_cases hj : j = a + 1
      · subst hj
        rw [List.getElem?_set] at h
        simp at h
        exact Or.inl ⟨rfl, h.2⟩
      · rw [List.getElem?_set_ne (fun e => hj e.symm)] at h
        refine Or.inr ⟨hj, h, ?_⟩
        rintro ⟨e, hL⟩
        have e2 : j = a := by omega
        subst e2
        rcases u with x | x | x
        · simp [isL] at hL
        · exact hx x h
        · rcases x with _ | _ <;> simp [isL] at hL
theorem mset_ok {l : List mV} {i : Nat} {v : mV} (h : ∀ u ∈ l, okV u) (hv : okV v) : ∀ u ∈ mset l i v, okV u := by
  intro u hu
  cases u with
  | none => trivial
  | some w =>
    obtain ⟨j, hj⟩ := List.getElem?_of_mem hu
    rcases mset_get hj with ⟨-, e⟩ | ⟨-, e, -⟩
    · rw [← e]; exact hv
    · exact h _ (List.mem_of_getElem? e)
theorem mset_prs {ad : mAd} {l : List mV} {i : Nat} {w : mW} {ls : Array Slot} {nL : Nat} (h : lv_has ls nL ((i, cw ad w) :: (prs ad 0 l).filter (fun q => !(q.1 == i) && !(q.1 + 1 == i && q.2.category == 2)))) : lv_has ls nL (prs ad 0 (mset l i (some w))) := by
  refine lv_less h ?_
  rintro ⟨j, x⟩ hq
  obtain ⟨j2, v, e1, e2, e3⟩ := prs_mem.mp hq
  have e1 : j = j2 := by omega
  subst e1
  subst e3
  rcases mset_get e2 with ⟨a, b⟩ | ⟨a, b, d⟩
  · subst a
    cases b
    exact List.mem_cons_self
  · refine List.mem_cons_of_mem _ (List.mem_filter.mpr ⟨prs_mem.mpr ⟨j, v, by omega, b, rfl⟩, ?_⟩)
    have a2 : (j == i) = false := by simpa using a
    simp only [a2, Bool.not_false, Bool.true_and, Bool.not_eq_true', Bool.and_eq_false_iff, beq_eq_false_iff_ne, ne_eq]
    by_cases q : j + 1 = i
    · exact Or.inr (fun z => d ⟨q, cw_cat2 z⟩)
    · exact Or.inl q
/-- a long is stored -/
def mset2 (l : List mV) (i : Nat) (v : mV) : List mV := (mset l i v).set (i + 1) none
theorem mset2_prs {ad : mAd} {l : List mV} {i : Nat} {w : mW} {ls : Array Slot} {nL : Nat} (h : lv_has ls nL ((i, cw ad w) :: (prs ad 0 l).filter (fun q => !(q.1 == i) && (!(q.1 == i + 1) && !(q.1 + 1 == i && q.2.category == 2))))) : lv_has ls nL (prs ad 0 (mset2 l i (some w))) := by
  refine lv_less h ?_
  rintro ⟨j, x⟩ hq
  obtain ⟨j2, v, e1, e2, e3⟩ := prs_mem.mp hq
  have e1 : j = j2 := by omega
  subst e1
  subst e3
  have hj : j ≠ i + 1 := by
    intro e
    subst e
    simp only [mset2] at e2
    rw [List.getElem?_set] at e2
    simp at e2
  simp only [mset2] at e2
  rw [List.getElem?_set_ne (fun e => hj e.symm)] at e2
  rcases mset_get e2 with ⟨a, b⟩ | ⟨a, b, d⟩
  · subst a
    cases b
    exact List.mem_cons_self
  · refine List.mem_cons_of_mem _ (List.mem_filter.mpr ⟨prs_mem.mpr ⟨j, v, by omega, b, rfl⟩, ?_⟩)
    have a2 : (j == i) = false := by simpa using a
    have a3 : (j == i + 1) = false := by simpa using hj
    simp only [a2, a3, Bool.not_false, Bool.true_and, Bool.not_eq_true', Bool.and_eq_false_iff, beq_eq_false_iff_ne, ne_eq]
    by_cases q : j + 1 = i
    · exact Or.inr (fun z => d ⟨q, cw_cat2 z⟩)
    · exact Or.inl q
theorem mset2_ok {l : List mV} {i : Nat} {v : mV} (h : ∀ u ∈ l, okV u) (hv : okV v) : ∀ u ∈ mset2 l i v, okV u := by
  intro u hu
  cases u with
  | none => trivial
  | some w =>
    rcases List.mem_or_eq_of_mem_set hu with h1 | h1
    · exact mset_ok h hv _ h1
    · cases h1
/-! forgetting locals -/
def mless : List mV → List mV → Prop
  | [], [] => True
  | a :: s, b :: t => (a = none ∨ a = b) ∧ mless s t
  | _, _ => False
theorem mless_len : ∀ {a b : List mV}, mless a b → a.length = b.length
  | [], [], _ => rfl
  | _ :: s, _ :: t, h => by simp [mless_len (a := s) (b := t) h.2]
theorem mless_get : ∀ {a b : List mV}, mless a b → ∀ {j : Nat} {u : mW}, a[j]? = some (some u) → b[j]? = some (some u)
  | [], [], _, j, u, h => h
  | x :: s, y :: t, h, 0, u, e => by
    simp at e
    rcases h.1 with q | q
    · rw [q] at e; cases e
    · rw [q] at e; simpa using e
  | x :: s, y :: t, h, j + 1, u, e => by
    simp at e ⊢
    exact mless_get h.2 e
