/-! the class: what-ifs -/
def FrT (h h2 : mH) : Prop := ∀ k r i s, ¬ ((r = 1 ∧ (k = 0 ∨ k = 3 ∨ k = 5 ∨ k = 6)) ∨ (k = 6 ∧ r = 11) ∨ k = 8) → h2.1 k r i s = h.1 k r i s
theorem FrT.rf {h : mH} : FrT h h := fun _ _ _ _ _ => rfl
theorem FrT.tr {h h2 h3 : mH} (a : FrT h h2) (b : FrT h2 h3) : FrT h h3 := fun k r i s n => (b k r i s n).trans (a k r i s n)
theorem FrR.T {h h2 : mH} (a : FrR 1 h h2) : FrT h h2 := fun k r i s n => a k r i s (fun z => n (Or.inl ⟨z.1, by omega⟩))
theorem FrT.put {k r i s : Nat} {h : mH} {x : Int32} (hk : (r = 1 ∧ (k = 0 ∨ k = 3 ∨ k = 5 ∨ k = 6)) ∨ (k = 6 ∧ r = 11) ∨ k = 8) : FrT h (pI h k r i s x) := fun k2 r2 i2 s2 n => pI_ne (fun z => n (by omega))
theorem RP.fr {h h2 : mH} {r : Nat} {R C : rw_} (hP : RP h r R C) (e : ∀ k i s, (k = 0 ∨ k = 3 ∨ k = 5 ∨ k = 6) → h2.1 k r i s = h.1 k r i s) : RP h2 r R C :=
  ⟨hP.1.cong (fun s => e 0 0 s (by omega)) (fun _ _ => rfl), fun c hc => (hP.2.1 c hc).cong (fun s => e 5 c s (by omega)) (fun _ _ _ => rfl), fun l hl => (hP.2.2.1 l hl).cong (fun s => e 6 l s (by omega)) (fun _ _ _ => rfl), fun k hk => by rw [e 3 0 k (by omega)]; exact hP.2.2.2 k hk⟩
theorem hd_rng {R C : rw_} (hW : WF R) (hL : LayOK R C) {a : Nat} (ha : (a : Int) < R 3) : ∀ k i, i32 ((hdF R C a k).2 i) := by
  intro k
  induction k with
  | zero => intro i; show -2147483648 ≤ (0 : Int) ∧ (0 : Int) < 2147483648; omega
  | succ k ih =>
    intro i
    rw [hd_s]
    split
    · by_cases q : i = (hdF R C a k).1
      · have t := tk_ok hW hL (k + 1)
        have r := str_rng t.1 t.2 (l := a) (by rw [(tk_lo hW hL (k + 1)).1]; exact ha)
        rw [q]
        dsimp only
        rw [up_at]
        omega
      · dsimp only
        rw [up_ne q]
        exact ih i
    · exact ih i
section CWI
variable {h : mH} {Q : mV → mH → Prop} {R C : rw_}
theorem c6_countsIn {a t : Int} (ha : i32 a) (ht : i32 t) (hP : RP h 0 R C) (hW : WF R) (hL : LayOK R C) (hq : ∀ h2, FrT h h2 → Q (vI (zI (cnF R C a t (-6)))) h2) : mC M6_countsIn [.inr (.inr (some (7, 0, 0))), .inl (zI a), .inl (zI t)] h Q := by
  have hb := hW.l
  refine w6_countsIn (c4_become (by decide) (by decide) hP hW (fun h1 hP1 hF1 => ?_))
  unfold cnF at hq
  by_cases q : 0 ≤ a ∧ a < R 3
  · rw [if_pos q] at hq
    obtain ⟨c, rfl⟩ : ∃ c : Nat, a = c := ⟨a.toNat, by omega⟩
    rw [Int.toNat_natCast] at hq
    refine c4_loopN hP1.l3 q.2 hb.2 ?_
    refine c6_isTicks ht ?_
    show (¬ zI _ = 0 → mC _ _ h1 (kI (fun x298 h297 => Q (vI (h297.1 6 1 c 6)) h297))) ∧ (zI _ = 0 → Q (vI (-2)) h1)
    rw [zb_ne, zm2]
    refine ⟨fun q2 => ?_, fun q2 => ?_⟩
    · have q2 := Decidable.not_not.mp q2
      rw [if_pos q2] at hq
      obtain ⟨n, rfl⟩ : ∃ n : Nat, t = n := ⟨t.toNat, by omega⟩
      rw [Int.toNat_natCast, al_tk (by omega)] at hq
      refine c4_letPass (by decide) (by omega) hP1 hW hL (fun h2 hP2 hF2 => ?_)
      have g := RPl.of hP2 (l := c) (by rw [(tk_lo hW hL n).1]; exact q.2)
      show Q (vI (h2.1 6 1 c 6)) h2
      rw [g.2.2.2.2.2.2.1]
      exact hq h2 (hF1.T.tr hF2.T)
    · rw [if_neg q2] at hq
      exact hq h1 hF1.T
  · rw [if_neg q] at hq
    refine c4_loopNo hP1.l3 ha (by omega) hb ?_
    show Q (vI (-1)) h1
    rw [zm1]
    exact hq h1 hF1.T
theorem c6_countsAlone {a t : Int} (ha : i32 a) (ht : i32 t) (hP : RP h 0 R C) (hW : WF R) (hL : LayOK R C) (hq : ∀ h2, FrT h h2 → Q (vI (zI (cnF R C a t a))) h2) : mC M6_countsAlone [.inr (.inr (some (7, 0, 0))), .inl (zI a), .inl (zI t)] h Q := by
  have hb := hW.l
  refine w6_countsAlone (c4_become (by decide) (by decide) hP hW (fun h1 hP1 hF1 => ?_))
  unfold cnF at hq
  by_cases q : 0 ≤ a ∧ a < R 3
  · rw [if_pos q] at hq
    obtain ⟨c, rfl⟩ : ∃ c : Nat, a = c := ⟨a.toNat, by omega⟩
    rw [Int.toNat_natCast] at hq
    refine c4_loopN hP1.l3 q.2 hb.2 ?_
    refine c6_isTicks ht ?_
    show (¬ zI _ = 0 → mE M6_countsAlone 39 [vR 7 0 0, vI (zI c), vI (zI t), vR 6 1 c, vI 0] [] h1 Q) ∧ (zI _ = 0 → Q (vI (-2)) h1)
    rw [zb_ne, zm2]
    refine ⟨fun q2 => ?_, fun q2 => ?_⟩
    · have q2 := Decidable.not_not.mp q2
      rw [if_pos q2] at hq
      obtain ⟨n, rfl⟩ : ∃ n : Nat, t = n := ⟨t.toNat, by omega⟩
      rw [Int.toNat_natCast] at hq
      have loop : ∀ (m k : Nat) (g : mH), k + m = n → RP g 1 (alN R C c k).1 (alN R C c k).2 → FrT h g → mE M6_countsAlone 39 [vR 7 0 0, vI (zI c), vI (zI n), vR 6 1 c, vI (zI k)] [] g Q := by
        intro m
        induction m with
        | zero =>
          intro k g hk hPg hF
          have e3 := (al_ok (a := c) hW hL k).2.2.1
          have gl := RPl.of hPg (l := c) (by rw [e3]; exact q.2)
          refine w6_countsAlone_39 ?_
          rw [gl.2.2.2.2.2.2.1, z_le (by omega) (by omega)]
          refine ⟨fun _ => ?_, fun _ => by omega⟩
          rw [show k = n by omega]
          exact hq g hF
        | succ m ih =>
          intro k g hk hPg hF
          obtain ⟨o1, o2, o3, o4⟩ := al_ok (a := c) hW hL k
          refine w6_countsAlone_39 ?_
          rw [z_le (by omega) (by omega)]
          refine ⟨fun _ => by omega, fun _ => ?_⟩
          refine c4_passTick (by decide) (by omega) hPg o1 o2 (fun g2 hP2 hF2 => ?_)
          have e := ih (k + 1) g2 (by omega) (by
            rw [al_s, whoF, if_neg (by omega)]
            exact hP2) (hF.tr hF2.T)
          rw [show ((k + 1 : Nat) : Int) = (k : Int) + 1 by omega, ← z_add, ← z1] at e
          exact e
      exact loop n 0 h1 (Nat.zero_add _) hP1 hF1.T
    · rw [if_neg q2] at hq
      exact hq h1 hF1.T
  · rw [if_neg q] at hq
    refine c4_loopNo hP1.l3 ha (by omega) hb ?_
    show Q (vI (-1)) h1
    rw [zm1]
    exact hq h1 hF1.T
theorem c6_hearTrial {c n : Nat} (hn : n ≤ 100) (hc : (c : Int) < R 3) (hP : RP h 1 R C) (hW : WF R) (hL : LayOK R C) (hq : ∀ h2, RP h2 1 (tkN R C n).1 (tkN R C n).2 → (∀ i, i < (hdF R C c n).1 → h2.1 8 0 0 i = zI ((hdF R C c n).2 i)) → FrT h h2 → Q (vI (zI (((hdF R C c n).1 : Nat) : Int))) h2) : mC M6_hearTrial [.inr (.inr (some (7, 0, 0))), .inl (zI c), .inr (.inr (some (6, 1, c))), .inl (zI n)] h Q := by
  have hb := hW.l
  refine w6_hearTrial ?_
  have loop : ∀ (m k : Nat) (g : mH), k + m = n → RP g 1 (tkN R C k).1 (tkN R C k).2 → (∀ i, i < (hdF R C c k).1 → g.1 8 0 0 i = zI ((hdF R C c k).2 i)) → FrT h g → mE M6_hearTrial 6 [vR 7 0 0, vI (zI c), vR 6 1 c, vI (zI n), vI (zI (((hdF R C c k).1 : Nat) : Int)), vI (zI k), vU] [] g Q := by
    intro m
    induction m with
    | zero =>
      intro k g hk hPg hH hF
      refine w6_hearTrial_6 ?_
      rw [z_le (by omega) (by omega)]
      refine ⟨fun _ => ?_, fun _ => by omega⟩
      rw [show k = n by omega] at hPg hH ⊢
      exact hq g hPg hH hF
    | succ m ih =>
      intro k g hk hPg hH hF
      obtain ⟨t1, t2⟩ := tk_ok hW hL k
      obtain ⟨s1, s2⟩ := tk_ok hW hL (k + 1)
      have hle := hd_le (R := R) (C := C) (a := c) k
      have lr := lst_rng (R := (tkN R C k).1)
      refine w6_hearTrial_6 ?_
      rw [z_le (by omega) (by omega)]
      refine ⟨fun _ => by omega, fun _ => ?_⟩
      refine c4_listener hPg.1 t1 ?_
      refine c4_passTick (by decide) lr hPg t1 t2 (fun g2 hP2 hF2 => ?_)
      have h8 : ∀ i, g2.1 8 0 0 i = g.1 8 0 0 i := fun i => hF2 8 0 0 i (by omega)
      have ihk := ih (k + 1)
      show (¬ zI _ = zI _ → _) ∧ (zI _ = zI _ → _ ∧ (_ → mC _ _ g2 (kI (fun x326 h325 => vp_in _ 100 ∧ (mE M6_hearTrial 6 [vR 7 0 0, vI (zI c), vR 6 1 c, vI (zI n), vI _, vI (zI k + 1), vU] [] (pI h325 8 0 0 _ x326) Q)))))
      rw [z_eq (by omega) (by omega)]
      refine ⟨fun q => ?_, fun q => ⟨fun q2 => ?_, fun q2 => ?_⟩⟩
      · have e := ihk g2 (by omega) hP2 (fun i hi => by
          rw [hd_s, if_neg q] at hi ⊢
          rw [h8]; exact hH i hi) (hF.tr hF2.T)
        rw [hd_s, if_neg q, show ((k + 1 : Nat) : Int) = (k : Int) + 1 by omega, ← z_add, ← z1] at e
        exact e
      · rw [z100, z_le (by omega) (by omega)] at q2
        omega
      · refine c4_strengthOf hP2 s1 s2 (by rw [← tk_s, (tk_lo hW hL (k + 1)).1]; exact hc) ?_
        refine ⟨z_in (by omega) (by omega) (by omega), ?_⟩
        rw [z_clamp (by omega) (by omega), Int.toNat_natCast]
        have e := ihk (pI g2 8 0 0 (hdF R C c k).1 (zI (strF (tkN R C (k + 1)).1 (tkN R C (k + 1)).2 c))) (by omega) (hP2.fr (fun k2 i2 s2 n2 => pI_ne (fun z => by omega))) (fun i hi => by
          rw [hd_s, if_pos q] at hi ⊢
          dsimp only at hi ⊢
          by_cases y : i = (hdF R C c k).1
          · rw [y, pI_at, up_at]
          · rw [pI_ne (fun z => y z.2.1), up_ne y, h8]; exact hH i (by omega)) (hF.tr (hF2.T.tr (FrT.put (by omega))))
        rw [hd_s, if_pos q] at e
        dsimp only at e
        rw [show ((k + 1 : Nat) : Int) = (k : Int) + 1 by omega, show (((hdF R C c k).1 + 1 : Nat) : Int) = ((hdF R C c k).1 : Int) + 1 by omega, ← z_add, ← z_add, ← z1] at e
        exact e
  exact loop n 0 h (Nat.zero_add _) hP (fun i hi => absurd hi (Nat.not_lt_zero _)) FrT.rf
end CWI
