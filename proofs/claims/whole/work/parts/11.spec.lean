/-! what a road is, as numbers: a row R as the reference keeps it (settings, tick, counts, loops from 10 on, cars from 70 on), its cells C -/
abbrev rw_ : Type := Nat → Int
def up (R : rw_) (k : Nat) (v : Int) : rw_ := fun j => if j = k then v else R j
theorem up_at {R : rw_} {k : Nat} {v : Int} : up R k v k = v := by simp [up]
theorem up_ne {R : rw_} {k j : Nat} {v : Int} (h : j ≠ k) : up R k v j = R j := by simp [up, h]
abbrev lasF (R : rw_) (c : Nat) : Int := R (71 + 10 * c) - R (72 + 10 * c) + 1
/-- the cell k (40 to a lane) is one of the car's -/
abbrev cov (R : rw_) (c k : Nat) : Prop := 40 * R (70 + 10 * c) ≤ k ∧ k < 40 * R (70 + 10 * c) + 40 ∧ 40 * R (70 + 10 * c) + lasF R c ≤ k ∧ k ≤ 40 * R (70 + 10 * c) + R (71 + 10 * c)
def markF (R C : rw_) (c : Nat) (v : Int) : rw_ := fun k => if cov R c k then v else C k
/-- a place of a lane that no car takes, as the cells say -/
abbrev freeP (C : rw_) (L x : Int) : Prop := ¬ (0 ≤ x ∧ x ≤ 39) ∨ C (40 * L + x).toNat < 0
def besF (C : rw_) (L x : Int) : Nat → Bool
  | 0 => true
  | n + 1 => decide (freeP C L x) && besF C L (x + 1) n
def advF (L len : Int) (C : rw_) (f : Int) : Nat → Nat
  | 0 => 0
  | n + 1 => if f - len + 1 < 40 ∧ freeP C L (f + 1) then advF L len C (f + 1) n + 1 else 0
abbrev canF (R C : rw_) (c : Nat) : Prop := R (76 + 10 * c) = 1 ∧ besF C (1 - R (70 + 10 * c)) (lasF R c) (R (72 + 10 * c)).toNat = true
abbrev adv (R C : rw_) (c : Nat) : Nat := advF (R (70 + 10 * c)) (R (72 + 10 * c)) C (R (71 + 10 * c)) (R (73 + 10 * c)).toNat
def chgF (R : rw_) (c : Nat) : rw_ := up (up (up R (70 + 10 * c) (1 - R (70 + 10 * c))) (76 + 10 * c) 0) (77 + 10 * c) (R (77 + 10 * c) + 1)
def gonF (R : rw_) (c : Nat) (m : Nat) : Int := if 39 < R (71 + 10 * c) + m - R (72 + 10 * c) + 1 then 1 else 0
def onF (R : rw_) (c : Nat) (m : Nat) : rw_ := up (up (up R (71 + 10 * c) (R (71 + 10 * c) + m)) (75 + 10 * c) (gonF R c m)) (78 + 10 * c) (R (78 + 10 * c) + if (m : Int) < R (73 + 10 * c) ∧ gonF R c m = 0 then 1 else 0)
def mvF (R C : rw_) (c : Nat) : rw_ × rw_ :=
  if canF R C c then (chgF R c, markF (chgF R c) (markF R C c (-6)) c c)
  else (onF R c (adv R C c), if gonF R c (adv R C c) = 0 then markF (onF R c (adv R C c)) (markF R C c (-6)) c c else markF R C c (-6))
/-- the order of moving: a car is put behind those of the same front -/
def upN (O : Nat → Nat) (k v : Nat) : Nat → Nat := fun j => if j = k then v else O j
def insF (R : rw_) (O : Nat → Nat) (c : Nat) : Nat → Nat → Nat
  | 0 => upN O 0 c
  | k + 1 => if R (71 + 10 * O k) < R (71 + 10 * c) then insF R (upN O (k + 1) (O k)) c k else upN O (k + 1) c
def ordF (R : rw_) : Nat → (Nat → Nat) × Nat
  | 0 => (fun _ => 0, 0)
  | c + 1 => if R (75 + 10 * c) = 0 then (insF R (ordF R c).1 c (ordF R c).2, (ordF R c).2 + 1) else ordF R c
def movN (R C : rw_) (O : Nat → Nat) : Nat → rw_ × rw_
  | 0 => (R, C)
  | k + 1 => mvF (movN R C O k).1 (movN R C O k).2 (O k)
def maF (R C : rw_) : rw_ × rw_ := movN R C (ordF R (R 4).toNat).1 (ordF R (R 4).toNat).2
/-! over which loops, passings -/
abbrev isOv (R : rw_) (c l : Nat) : Prop := R (75 + 10 * c) = 0 ∧ R (70 + 10 * c) = R (10 + 10 * l) ∧ R (11 + 10 * l) ≤ R (71 + 10 * c) ∧ lasF R c < R (11 + 10 * l) + R (12 + 10 * l)
def ovF (R : rw_) (c : Nat) : Nat → Nat
  | 0 => 0
  | l + 1 => ovF R c l + if isOv R c l then 2 ^ l else 0
def pbF (a b : Int) (l : Nat) : Int := if a.toNat.testBit l && !b.toNat.testBit l then 1 else 0
def pslF (R : rw_) (c : Nat) (set : Int) : Nat → rw_
  | 0 => R
  | l + 1 => up (pslF R c set l) (17 + 10 * l) (pslF R c set l (17 + 10 * l) + pbF set (R (79 + 10 * c)) l)
def pasF (R : rw_) (c : Nat) : rw_ := up (pslF R c (ovF R c (R 3).toNat) (R 3).toNat) (79 + 10 * c) (ovF R c (R 3).toNat)
def pasN (R : rw_) : Nat → rw_
  | 0 => R
  | c + 1 => pasF (pasN R c) c
/-! strength, listening -/
def metF (R C : rw_) (L x : Int) : Nat → Int
  | 0 => 0
  | n + 1 => metF R C L x n + if C (40 * L + (x + n)).toNat < 0 then 0 else R (74 + 10 * (C (40 * L + (x + n)).toNat).toNat)
def strF (R C : rw_) (l : Nat) : Int := 4 * metF R C (R (10 + 10 * l)) (R (11 + 10 * l)) (R (12 + 10 * l)).toNat + R 0 * metF R C (1 - R (10 + 10 * l)) (R (11 + 10 * l)) (R (12 + 10 * l)).toNat
def heaF (R : rw_) (l : Nat) (s : Int) : rw_ :=
  if R (15 + 10 * l) = 0 ∧ R (13 + 10 * l) ≤ s then up (up (up R (19 + 10 * l) (R (19 + 10 * l) + 1)) (15 + 10 * l) 1) (16 + 10 * l) (R (16 + 10 * l) + 1)
  else if R (15 + 10 * l) = 1 ∧ s < R (14 + 10 * l) then up (up R (19 + 10 * l) (R (19 + 10 * l) + 1)) (15 + 10 * l) 0
  else up R (19 + 10 * l) (R (19 + 10 * l) + 1)
def lstF (R : rw_) : Int := if R 3 = 0 then -6 else (zI (R 2) / zI (R 1) - zI (R 2) / zI (R 1) / zI (R 3) * zI (R 3)).toInt
/-- a tick in which the loop l listens (none, if there is none of this number) -/
def psF (R C : rw_) (l : Int) : rw_ × rw_ :=
  (up (if 0 ≤ l ∧ l < R 3 then heaF (pasN (maF R C).1 (R 4).toNat) l.toNat (strF (pasN (maF R C).1 (R 4).toNat) (maF R C).2 l.toNat) else pasN (maF R C).1 (R 4).toNat) 2 (R 2 + 1), (maF R C).2)
def tkN (R C : rw_) : Nat → rw_ × rw_
  | 0 => (R, C)
  | n + 1 => psF (tkN R C n).1 (tkN R C n).2 (lstF (tkN R C n).1)
/-! well formed rows -/
def WFc (R : rw_) (c : Nat) : Prop := (R (70 + 10 * c) = 0 ∨ R (70 + 10 * c) = 1) ∧ 0 ≤ R (71 + 10 * c) ∧ R (71 + 10 * c) ≤ 43 ∧ 1 ≤ R (72 + 10 * c) ∧ R (72 + 10 * c) ≤ 4 ∧ 0 ≤ R (73 + 10 * c) ∧ R (73 + 10 * c) ≤ 4 ∧ 1 ≤ R (74 + 10 * c) ∧ R (74 + 10 * c) ≤ 9 ∧ (R (75 + 10 * c) = 0 ∨ R (75 + 10 * c) = 1) ∧ (R (76 + 10 * c) = 0 ∨ R (76 + 10 * c) = 1) ∧ (R (75 + 10 * c) = 0 ↔ lasF R c ≤ 39) ∧ 0 ≤ R (79 + 10 * c) ∧ R (79 + 10 * c) < 64
def WFl (R : rw_) (l : Nat) : Prop := (R (10 + 10 * l) = 0 ∨ R (10 + 10 * l) = 1) ∧ 0 ≤ R (11 + 10 * l) ∧ 1 ≤ R (12 + 10 * l) ∧ R (12 + 10 * l) ≤ 3 ∧ R (11 + 10 * l) + R (12 + 10 * l) ≤ 40 ∧ 1 ≤ R (13 + 10 * l) ∧ R (13 + 10 * l) ≤ 200 ∧ 1 ≤ R (14 + 10 * l) ∧ R (14 + 10 * l) ≤ R (13 + 10 * l) ∧ (R (15 + 10 * l) = 0 ∨ R (15 + 10 * l) = 1)
def WF (R : rw_) : Prop := (0 ≤ R 4 ∧ R 4 ≤ 40 ∧ 0 ≤ R 3 ∧ R 3 ≤ 6 ∧ 1 ≤ R 1 ∧ R 1 ≤ 5 ∧ 0 ≤ R 0 ∧ R 0 ≤ 8) ∧ (∀ c : Nat, (c : Int) < R 4 → WFc R c) ∧ (∀ l : Nat, (l : Int) < R 3 → WFl R l) ∧ (∀ c j : Nat, R 4 ≤ c → c < 40 → j < 10 → R (70 + 10 * c + j) = 0) ∧ (∀ l j : Nat, R 3 ≤ l → l < 6 → j < 10 → R (10 + 10 * l + j) = 0)
/-- the cells say which car on the road takes which cell -/
def LayOK (R C : rw_) : Prop := (∀ c k : Nat, (c : Int) < R 4 → R (75 + 10 * c) = 0 → k < 80 → cov R c k → C k = c) ∧ (∀ k : Nat, k < 80 → C k = -6 ∨ ∃ c : Nat, (c : Int) < R 4 ∧ R (75 + 10 * c) = 0 ∧ cov R c k ∧ C k = c)
/-! pictures: a road of the class; the reference -/
def RPc (h : mH) (r : Nat) (R : rw_) (c : Nat) : Prop := h.1 5 r c 1 = zI (R (70 + 10 * c)) ∧ h.1 5 r c 2 = zI (R (71 + 10 * c)) ∧ h.1 5 r c 3 = zI (R (72 + 10 * c)) ∧ h.1 5 r c 4 = zI (R (73 + 10 * c)) ∧ h.1 5 r c 5 = zI (R (74 + 10 * c)) ∧ h.1 5 r c 6 = zI (R (75 + 10 * c)) ∧ h.1 5 r c 7 = zI (R (76 + 10 * c)) ∧ h.1 5 r c 8 = zI (R (77 + 10 * c)) ∧ h.1 5 r c 9 = zI (R (78 + 10 * c)) ∧ h.1 5 r c 10 = zI (R (79 + 10 * c))
def RPl (h : mH) (r : Nat) (R : rw_) (l : Nat) : Prop := h.1 6 r l 0 = zI (R (10 + 10 * l)) ∧ h.1 6 r l 1 = zI (R (11 + 10 * l)) ∧ h.1 6 r l 2 = zI (R (12 + 10 * l)) ∧ h.1 6 r l 3 = zI (R (13 + 10 * l)) ∧ h.1 6 r l 4 = zI (R (14 + 10 * l)) ∧ h.1 6 r l 5 = zI (R (15 + 10 * l)) ∧ h.1 6 r l 6 = zI (R (16 + 10 * l)) ∧ h.1 6 r l 7 = zI (R (17 + 10 * l)) ∧ h.1 6 r l 8 = zI (R (19 + 10 * l))
def RPs (h : mH) (r : Nat) (R : rw_) : Prop := h.1 0 r 0 4 = zI (R 4) ∧ h.1 0 r 0 5 = zI (R 3) ∧ h.1 0 r 0 6 = zI (R 2) ∧ h.1 0 r 0 7 = zI (R 0) ∧ h.1 0 r 0 8 = zI (R 1)
def RP (h : mH) (r : Nat) (R C : rw_) : Prop := RPs h r R ∧ (∀ c : Nat, (c : Int) < R 4 → RPc h r R c) ∧ (∀ l : Nat, (l : Int) < R 3 → RPl h r R l) ∧ ∀ k, k < 80 → h.1 3 r 0 k = zI (C k)
/-- only the road r has changed -/
def FrR (r : Nat) (h h2 : mH) : Prop := ∀ k r2 i s, ¬ (r2 = r ∧ (k = 0 ∨ k = 3 ∨ k = 5 ∨ (k = 6 ∧ r ≠ 11))) → h2.1 k r2 i s = h.1 k r2 i s
theorem FrR.rf {r : Nat} {h : mH} : FrR r h h := fun _ _ _ _ _ => rfl
theorem FrR.tr {r : Nat} {h h2 h3 : mH} (a : FrR r h h2) (b : FrR r h2 h3) : FrR r h h3 := fun k r2 i s n => (b k r2 i s n).trans (a k r2 i s n)
theorem FrR.put {r k i s : Nat} {h : mH} {x : Int32} (hk : k = 0 ∨ k = 3 ∨ k = 5 ∨ (k = 6 ∧ r ≠ 11)) : FrR r h (pI h k r i s x) := by
  intro k2 r2 i2 s2 n
  refine pI_ne (fun z => n ⟨z.2.2.1, ?_⟩)
  rw [z.1]; exact hk
