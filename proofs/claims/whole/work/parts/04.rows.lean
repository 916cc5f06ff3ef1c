theorem mless_ok {a b : List mV} (h : mless a b) (hb : ∀ v ∈ b, okV v) : ∀ v ∈ a, okV v := by
  intro v hv
  cases v with
  | none => trivial
  | some w =>
    obtain ⟨j, hj⟩ := List.getElem?_of_mem hv
    exact hb _ (List.mem_of_getElem? (mless_get h hj))
theorem mless_prs {ad : mAd} {a b : List mV} (h : mless a b) {ls : Array Slot} {nL : Nat} (hb : lv_has ls nL (prs ad 0 b)) : lv_has ls nL (prs ad 0 a) := by
  refine lv_less hb ?_
  rintro ⟨j, x⟩ hq
  obtain ⟨j2, v, e1, e2, e3⟩ := prs_mem.mp hq
  exact prs_mem.mpr ⟨j2, v, e1, mless_get h e2, e3⟩
theorem ok_c {a : mV} {st : List mV} (ha : okV a) (h : ∀ v ∈ st, okV v) : ∀ v ∈ a :: st, okV v := fun v hv => (List.mem_cons.mp hv).elim (fun e => e ▸ ha) (h v)
theorem ok_t {a : mV} {st : List mV} (h : ∀ v ∈ a :: st, okV v) : ∀ v ∈ st, okV v := fun v hv => h v (List.mem_cons_of_mem _ hv)
theorem ok_h {a : mV} {st : List mV} (h : ∀ v ∈ a :: st, okV v) : okV a := h a List.mem_cons_self
section DX
variable {M : mM} {G : mG} {s : State} {l l2 st st2 : List mV} {h h2 : mH} {H H2 : Heap} {locs locs2 : List Loc} {ls ls2 : Array Slot}
theorem Dx.stk (D : Dx M G s l st h H locs ls) (k : ∀ v ∈ st2, okV v) : Dx M G s l st2 h H locs ls := ⟨D.1, D.2.1, D.2.2.1, k, D.2.2.2.2.1, D.2.2.2.2.2⟩
theorem Dx.loc (D : Dx M G s l st h H locs ls) (k : ∀ v ∈ l2, okV v) (hl : lv_has ls2 M.2.2.1 (prs G.1 0 l2) ∧ l2.length = M.2.2.1) : Dx M G s l2 st h H locs ls2 := ⟨D.1, D.2.1, k, D.2.2.2.1, hl, D.2.2.2.2.2⟩
theorem Dx.hp (D : Dx M G s l st h H locs ls) (hR : Rep G h2 H2) (hV : VH h2) (hS : va_S (GA G) s.heap H2 locs2) : Dx M G s l st h2 H2 locs2 ls := ⟨hR, hV, D.2.2.1, D.2.2.2.1, D.2.2.2.2.1, hS⟩
theorem Dx.sk (D : Dx M G s l st h H locs ls) : ∀ v ∈ st, okV v := D.2.2.2.1
theorem Dx.lk (D : Dx M G s l st h H locs ls) : ∀ v ∈ l, okV v := D.2.2.1
theorem Dx.at (D : Dx M G s l st h H locs ls) {i : Nat} {v : mW} (hi : l[i]? = some (some v)) : ls[i]? = some (.val (cw G.1 v)) := prs_at D.2.2.2.2.1.1 hi
theorem Dx.len (D : Dx M G s l st h H locs ls) : l.length = M.2.2.1 := D.2.2.2.2.1.2
theorem Dx.lh (D : Dx M G s l st h H locs ls) : lv_has ls M.2.2.1 (prs G.1 0 l) := D.2.2.2.2.1.1
theorem Dx.fr (D : Dx M G s l st h H locs ls) : va_S (GA G) s.heap H locs := D.2.2.2.2.2
end DX
theorem ok_rng {k r i : Nat} (h : okId k r i) : k < 30 := by
  unfold okId at h
  split at h <;> omega
theorem ok_arr {k r i : Nat} (h : okId k r i) (hc : kc k = none) : 1 ≤ k ∧ k < 30 := by
  refine ⟨?_, ok_rng h⟩
  cases k with
  | zero => cases hc
  | succ k => omega
theorem sv_cong {h h2 : mH} {k r i s : Nat} (h1 : h.1 k r i s = h2.1 k r i s) (hm : k = 4 → h.2 r s = h2.2 r s) : sv h k r i s = sv h2 k r i s := by
  unfold sv
  split
  all_goals first
    | rfl
    | (split <;> first | rfl | exact congrArg (fun x => vI x) h1)
    | (rw [hm rfl])
    | exact congrArg (fun x => vI x) h1
theorem okV_R {k r i : Nat} (h : okId k r i) : okV (vR k r i) := h
theorem sv_ok {h : mH} (hV : VH h) {k r i s : Nat} (ho : okId k r i) (hs : s < kz k) : okV (sv h k r i s) := by
  unfold sv
  split
  all_goals first
    | trivial
    | (split <;> first
        | trivial
        | (rename_i hh
           exact hV _ _ _ hh)
        | (refine okV_R ?_
           simp [okId] at ho ⊢ <;> omega)
        | (refine okV_R ?_
           simp [okId] at ho ⊢
           done))
    | (refine okV_R ?_
       simp [okId, kz] at ho hs ⊢ <;> omega)
def isI (k s : Nat) : Prop := ∀ (h : mH) (r i : Nat), sv h k r i s = vI (h.1 k r i s)
def pI (h : mH) (k r i s : Nat) (x : Int32) : mH := (fun k2 r2 i2 s2 => if k2 = k ∧ s2 = s ∧ r2 = r ∧ i2 = i then x else h.1 k2 r2 i2 s2, h.2)
def pM (h : mH) (r s : Nat) (v : Option (Nat × Nat)) : mH := (h.1, fun r2 s2 => if r2 = r ∧ s2 = s then v else h.2 r2 s2)
theorem pI_at {h : mH} {k r i s : Nat} {x : Int32} : (pI h k r i s x).1 k r i s = x := by simp [pI]
theorem pI_ne {h : mH} {k r i s k2 r2 i2 s2 : Nat} {x : Int32} (hn : ¬ (k2 = k ∧ s2 = s ∧ r2 = r ∧ i2 = i)) : (pI h k r i s x).1 k2 r2 i2 s2 = h.1 k2 r2 i2 s2 := by simp only [pI, if_neg hn]
theorem pI_VH {h : mH} (hV : VH h) {k r i s : Nat} {x : Int32} : VH (pI h k r i s x) := hV
theorem pM_VH {h : mH} (hV : VH h) {r s : Nat} {v : Option (Nat × Nat)} (hv : ∀ p, v = some p → p.1 < 11 ∧ p.2 < 40) : VH (pM h r s v) := by
  intro r2 j p hp
  simp only [pM] at hp
  split at hp
  · exact hv p hp
  · exact hV r2 j p hp
theorem atK_obj {G : mG} {h : mH} {H : Heap} {k r i ci : Nat} (hc : kc k = some ci) : atK G h H k r i = t_OB (G.1 k r i) (G.2.1 ci) (kz k) (G.2.2.1 ci) H (fun s => cv G.1 (sv h k r i s)) := by
  unfold atK; rw [hc]
theorem atK_arr {G : mG} {h : mH} {H : Heap} {k r i : Nat} (hc : kc k = none) : atK G h H k r i = (H[G.1 k r i]? = some (arrV (G.2.2.2 k) (kz k) (fun s => cv G.1 (sv h k r i s)))) := by
  unfold atK; rw [hc]
theorem arrV_cong {cA : ClassId} {N : Nat} {f g : Nat → Value} (h : ∀ j, j < N → f j = g j) : arrV cA N f = arrV cA N g := by
  unfold arrV
  have e : (Array.ofFn (n := N) fun j => f j.val) = (Array.ofFn (n := N) fun j => g j.val) := by
    apply Array.ext
    · simp
    · intro j h1 h2
      simp only [Array.getElem_ofFn]
      exact h j (by simpa using h1)
  rw [e]
theorem atK_cong {G : mG} {h h2 : mH} {H H2 : Heap} {k r i : Nat} (A : atK G h H k r i) (hH : H2[G.1 k r i]? = H[G.1 k r i]?) (hs : ∀ s, s < kz k → sv h2 k r i s = sv h k r i s) : atK G h2 H2 k r i := by
  cases hc : kc k with
  | none =>
    rw [atK_arr hc] at A ⊢
    rw [hH, A]
    exact congrArg some (arrV_cong (fun j hj => by rw [hs j hj]))
  | some ci =>
    rw [atK_obj hc] at A ⊢
    exact (A.kept hH).to (fun s hs2 => by rw [hs s hs2])
/-- one place of one cell is written anew -/
theorem Rep.put {G : mG} {h h2 : mH} {H H2 : Heap} {k r i : Nat} (hI : InjG G) (hR : Rep G h H) (ho : okId k r i) (hnew : atK G h2 H2 k r i) (hoth : ∀ q, q ≠ G.1 k r i → H2[q]? = H[q]?) (hs : ∀ k2 r2 i2 s2, okId k2 r2 i2 → ¬ (k2 = k ∧ r2 = r ∧ i2 = i) → sv h2 k2 r2 i2 s2 = sv h k2 r2 i2 s2) : Rep G h2 H2 := by
  intro k2 r2 i2 ho2
  by_cases e : k2 = k ∧ r2 = r ∧ i2 = i
  · obtain ⟨rfl, rfl, rfl⟩ := e
    exact hnew
  · exact atK_cong (hR k2 r2 i2 ho2) (hoth _ (fun q => e (hI _ _ _ _ _ _ ho2 ho q))) (fun s _ => hs k2 r2 i2 s ho2 e)
theorem sv_pI {h : mH} {k r i s : Nat} {x : Int32} (hi : isI k s) (k2 r2 i2 s2 : Nat) : sv (pI h k r i s x) k2 r2 i2 s2 = if k2 = k ∧ s2 = s ∧ r2 = r ∧ i2 = i then vI x else sv h k2 r2 i2 s2 := by
  by_cases e : k2 = k ∧ s2 = s ∧ r2 = r ∧ i2 = i
  · rw [if_pos e]
    obtain ⟨rfl, rfl, rfl, rfl⟩ := e
    rw [hi, pI_at]
  · rw [if_neg e]
    exact sv_cong (pI_ne e) (fun _ => rfl)
theorem sv_pM {h : mH} {r s : Nat} {v : Option (Nat × Nat)} (k2 r2 i2 s2 : Nat) (e : ¬ (k2 = 4 ∧ r2 = r ∧ s2 = s)) : sv (pM h r s v) k2 r2 i2 s2 = sv h k2 r2 i2 s2 := by
  refine sv_cong rfl (fun hk => ?_)
  simp only [pM]
  rw [if_neg (fun q => e ⟨hk, q⟩)]
/-! straight rows -/
section ROWS
variable {M : mM} {pc : Nat} {l st : List mV} {h : mH} {Q : mV → mH → Prop}
theorem mE.mono {Q2 : mV → mH → Prop} (hq : ∀ v h, Q v h → Q2 v h) (k : mE M pc l st h Q) : mE M pc l st h Q2 := by
  intro G p l0 e R s m args below meth c H locs ls hC hD T hT X
  obtain ⟨t, a, o, b1, b2, ⟨⟨v, h1, c1, c2, c3⟩, c4⟩, b4⟩ := k G p l0 e R s m args below meth c H locs ls hC hD T hT X
  exact ⟨t, a, o, b1, b2, ⟨⟨v, h1, c1, hq v h1 c2, c3⟩, c4⟩, b4⟩
theorem mE.less {l2 : List mV} (hl : mless l2 l) (k : mE M pc l2 st h Q) : mE M pc l st h Q := by
  intro G p l0 e R s m args below meth c H locs ls hC hD
  exact k G p l0 e R s m args below meth c H locs ls hC (hD.loc (mless_ok hl hD.lk) ⟨mless_prs hl hD.lh, (mless_len hl).trans hD.len⟩)
theorem mE.iconst {n : Int} {v : Int32} (hd : decode M.2.1 pc = .ok (.iconst n, 1)) (hv : Int32.ofInt n = v) (k : mE M (pc + 1) l (vI v :: st) h Q) : mE M pc l st h Q := by
  intro G p l0 e R s m args below meth c H locs ls hC hD
  exact lv_iconst hC.1 hC.2.1 hd hv (k G p l0 e R s m args below meth c H locs ls hC (hD.stk (ok_c trivial hD.sk)))
theorem mE.bipush {n : Int} {v : Int32} (hd : decode M.2.1 pc = .ok (.bipush n, 2)) (hv : (Int8.ofInt n).toInt32 = v) (k : mE M (pc + 2) l (vI v :: st) h Q) : mE M pc l st h Q := by
  intro G p l0 e R s m args below meth c H locs ls hC hD
  exact lv_bipush hC.1 hC.2.1 hd hv (k G p l0 e R s m args below meth c H locs ls hC (hD.stk (ok_c trivial hD.sk)))
theorem mE.sipush {n : Int} {v : Int32} (hd : decode M.2.1 pc = .ok (.sipush n, 3)) (hv : (Int16.ofInt n).toInt32 = v) (k : mE M (pc + 3) l (vI v :: st) h Q) : mE M pc l st h Q := by
  intro G p l0 e R s m args below meth c H locs ls hC hD
  exact lv_sipush hC.1 hC.2.1 hd hv (k G p l0 e R s m args below meth c H locs ls hC (hD.stk (ok_c trivial hD.sk)))
theorem mE.lconst {n : Fin 2} {v : Int64} (hd : decode M.2.1 pc = .ok (.lconst n, 1)) (hv : Int64.ofNat (n : Nat) = v) (k : mE M (pc + 1) l (vL v :: st) h Q) : mE M pc l st h Q := by
  intro G p l0 e R s m args below meth c H locs ls hC hD
  exact lv_lconst hC.1 hC.2.1 hd hv (k G p l0 e R s m args below meth c H locs ls hC (hD.stk (ok_c trivial hD.sk)))
theorem mE.ldc {idx : Nat} {v : Int32} (hd : decode M.2.1 pc = .ok (.ldc idx, 2)) (hw : Jvm.Cond.constant M.1.cls idx v ∈ TB) (k : mE M (pc + 2) l (vI v :: st) h Q) : mE M pc l st h Q := by
  intro G p l0 e R s m args below meth c H locs ls hC hD
  exact lv_ldc hC.1 hC.2.1 hC.2.2.2.2.1 (hC.2.2.2.2.2.1 _ hw) hd (k G p l0 e R s m args below meth c H locs ls hC (hD.stk (ok_c trivial hD.sk)))
theorem mE.ldc2 {idx : Nat} {v : Int64} (hd : decode M.2.1 pc = .ok (.ldc2_w idx, 3)) (hw : Jvm.Cond.constantLong M.1.cls idx v ∈ TB) (k : mE M (pc + 3) l (vL v :: st) h Q) : mE M pc l st h Q := by
  intro G p l0 e R s m args below meth c H locs ls hC hD
  exact lv_ldc2 hC.1 hC.2.1 hC.2.2.2.2.1 (hC.2.2.2.2.2.1 _ hw) hd (k G p l0 e R s m args below meth c H locs ls hC (hD.stk (ok_c trivial hD.sk)))
theorem mE.iload_n {n : Fin 4} {x : Int32} (hd : decode M.2.1 pc = .ok (.iload_n n, 1)) (hl : l[(n : Nat)]? = some (vI x)) (k : mE M (pc + 1) l (vI x :: st) h Q) : mE M pc l st h Q := by
  intro G p l0 e R s m args below meth c H locs ls hC hD
  exact lv_iload_n hC.1 hC.2.1 hd rfl (hD.at hl) (k G p l0 e R s m args below meth c H locs ls hC (hD.stk (ok_c trivial hD.sk)))
theorem mE.iload {n : Nat} {x : Int32} (hd : decode M.2.1 pc = .ok (.iload n, 2)) (hl : l[n]? = some (vI x)) (k : mE M (pc + 2) l (vI x :: st) h Q) : mE M pc l st h Q := by
  intro G p l0 e R s m args below meth c H locs ls hC hD
  exact lv_iload hC.1 hC.2.1 hd (hD.at hl) (k G p l0 e R s m args below meth c H locs ls hC (hD.stk (ok_c trivial hD.sk)))
theorem mE.lload_n {n : Fin 4} {x : Int64} (hd : decode M.2.1 pc = .ok (.lload_n n, 1)) (hl : l[(n : Nat)]? = some (vL x)) (k : mE M (pc + 1) l (vL x :: st) h Q) : mE M pc l st h Q := by
  intro G p l0 e R s m args below meth c H locs ls hC hD
  exact lv_lload_n hC.1 hC.2.1 hd rfl (hD.at hl) (k G p l0 e R s m args below meth c H locs ls hC (hD.stk (ok_c trivial hD.sk)))
theorem mE.aload_n {n : Fin 4} {a r i : Nat} (hd : decode M.2.1 pc = .ok (.aload_n n, 1)) (hl : l[(n : Nat)]? = some (vR a r i)) (k : mE M (pc + 1) l (vR a r i :: st) h Q) : mE M pc l st h Q := by
  intro G p l0 e R s m args below meth c H locs ls hC hD
  exact lv_aload_n hC.1 hC.2.1 hd rfl (hD.at hl) (k G p l0 e R s m args below meth c H locs ls hC (hD.stk (ok_c (hD.lk _ (List.mem_of_getElem? hl)) hD.sk)))
theorem mE.aload {n : Nat} {a r i : Nat} (hd : decode M.2.1 pc = .ok (.aload n, 2)) (hl : l[n]? = some (vR a r i)) (k : mE M (pc + 2) l (vR a r i :: st) h Q) : mE M pc l st h Q := by
  intro G p l0 e R s m args below meth c H locs ls hC hD
  exact lv_aload hC.1 hC.2.1 hd (hD.at hl) (k G p l0 e R s m args below meth c H locs ls hC (hD.stk (ok_c (hD.lk _ (List.mem_of_getElem? hl)) hD.sk)))
theorem mE.aload_nN {n : Fin 4} (hd : decode M.2.1 pc = .ok (.aload_n n, 1)) (hl : l[(n : Nat)]? = some vN) (k : mE M (pc + 1) l (vN :: st) h Q) : mE M pc l st h Q := by
  intro G p l0 e R s m args below meth c H locs ls hC hD
  exact lv_aload_nN hC.1 hC.2.1 hd rfl (hD.at hl) (k G p l0 e R s m args below meth c H locs ls hC (hD.stk (ok_c trivial hD.sk)))
theorem mE.aloadN {n : Nat} (hd : decode M.2.1 pc = .ok (.aload n, 2)) (hl : l[n]? = some vN) (k : mE M (pc + 2) l (vN :: st) h Q) : mE M pc l st h Q := by
  intro G p l0 e R s m args below meth c H locs ls hC hD
  exact lv_aloadN hC.1 hC.2.1 hd (hD.at hl) (k G p l0 e R s m args below meth c H locs ls hC (hD.stk (ok_c trivial hD.sk)))
theorem mE.istore_n {n : Fin 4} {x : Int32} {l2 : List mV} (hd : decode M.2.1 pc = .ok (.istore_n n, 1)) (hn : (n : Nat) < M.2.2.1) (hl : mset l n (vI x) = l2) (k : mE M (pc + 1) l2 st h Q) : mE M pc l (vI x :: st) h Q := by
  intro G p l0 e R s m args below meth c H locs ls hC hD
  subst hl
  exact lv_istore_n hC.1 hC.2.1 hd rfl hD.lh hn rfl (fun ls2 h2 => k G p l0 e R s m args below meth c H locs ls2 hC ((hD.stk (ok_t hD.sk)).loc (mset_ok hD.lk trivial) ⟨mset_prs (w := .inl x) h2, mset_len.trans hD.len⟩))
theorem mE.istore {n : Nat} {x : Int32} {l2 : List mV} (hd : decode M.2.1 pc = .ok (.istore n, 2)) (hn : n < M.2.2.1) (hl : mset l n (vI x) = l2) (k : mE M (pc + 2) l2 st h Q) : mE M pc l (vI x :: st) h Q := by
  intro G p l0 e R s m args below meth c H locs ls hC hD
  subst hl
  exact lv_istore hC.1 hC.2.1 hd hD.lh hn rfl (fun ls2 h2 => k G p l0 e R s m args below meth c H locs ls2 hC ((hD.stk (ok_t hD.sk)).loc (mset_ok hD.lk trivial) ⟨mset_prs (w := .inl x) h2, mset_len.trans hD.len⟩))
theorem mE.iinc {i : Nat} {n : Int} {x v : Int32} {l2 : List mV} (hd : decode M.2.1 pc = .ok (.iinc i n, 3)) (hx : l[i]? = some (vI x)) (hv : x + Int32.ofInt n = v) (hn : i < M.2.2.1) (hl : mset l i (vI v) = l2) (k : mE M (pc + 3) l2 st h Q) : mE M pc l st h Q := by
  intro G p l0 e R s m args below meth c H locs ls hC hD
  subst hl
  obtain ⟨j, hj⟩ := List.getElem?_of_mem (prs_mem.mpr ⟨i, .inl x, by omega, hx, rfl⟩ : (i, cw G.1 (.inl x)) ∈ prs G.1 0 l)
  exact lv_iinc hC.1 hC.2.1 hd hD.lh hj hv hn rfl (fun ls2 h2 => k G p l0 e R s m args below meth c H locs ls2 hC (hD.loc (mset_ok hD.lk trivial) ⟨mset_prs (w := .inl v) h2, mset_len.trans hD.len⟩))
theorem mE.lstore_n {n : Fin 4} {x : Int64} {l2 : List mV} (hd : decode M.2.1 pc = .ok (.lstore_n n, 1)) (hn : (n : Nat) + 1 < M.2.2.1) (hl : mset2 l n (vL x) = l2) (k : mE M (pc + 1) l2 st h Q) : mE M pc l (vL x :: st) h Q := by
  intro G p l0 e R s m args below meth c H locs ls hC hD
  subst hl
  exact lv_lstore_n hC.1 hC.2.1 hd rfl hD.lh hn rfl (fun ls2 h2 => k G p l0 e R s m args below meth c H locs ls2 hC ((hD.stk (ok_t hD.sk)).loc (mset2_ok hD.lk trivial) ⟨mset2_prs (w := .inr (.inl x)) h2, by simp only [mset2, List.length_set, mset_len]; exact hD.len⟩))
theorem mE.lstore {n : Nat} {x : Int64} {l2 : List mV} (hd : decode M.2.1 pc = .ok (.lstore n, 2)) (hn : n + 1 < M.2.2.1) (hl : mset2 l n (vL x) = l2) (k : mE M (pc + 2) l2 st h Q) : mE M pc l (vL x :: st) h Q := by
  intro G p l0 e R s m args below meth c H locs ls hC hD
  subst hl
  exact lv_lstore hC.1 hC.2.1 hd hD.lh hn rfl (fun ls2 h2 => k G p l0 e R s m args below meth c H locs ls2 hC ((hD.stk (ok_t hD.sk)).loc (mset2_ok hD.lk trivial) ⟨mset2_prs (w := .inr (.inl x)) h2, by simp only [mset2, List.length_set, mset_len]; exact hD.len⟩))
theorem mE.lload {n : Nat} {x : Int64} (hd : decode M.2.1 pc = .ok (.lload n, 2)) (hl : l[n]? = some (vL x)) (k : mE M (pc + 2) l (vL x :: st) h Q) : mE M pc l st h Q := by
  intro G p l0 e R s m args below meth c H locs ls hC hD
  exact lv_lload hC.1 hC.2.1 hd (hD.at hl) (k G p l0 e R s m args below meth c H locs ls hC (hD.stk (ok_c trivial hD.sk)))
theorem mE.astore_n {n : Fin 4} {a r i : Nat} {l2 : List mV} (hd : decode M.2.1 pc = .ok (.astore_n n, 1)) (hn : (n : Nat) < M.2.2.1) (hl : mset l n (vR a r i) = l2) (k : mE M (pc + 1) l2 st h Q) : mE M pc l (vR a r i :: st) h Q := by
  intro G p l0 e R s m args below meth c H locs ls hC hD
  subst hl
  exact lv_astore_n hC.1 hC.2.1 hd rfl hD.lh hn rfl (fun ls2 h2 => k G p l0 e R s m args below meth c H locs ls2 hC ((hD.stk (ok_t hD.sk)).loc (mset_ok hD.lk (ok_h hD.sk)) ⟨mset_prs (w := .inr (.inr (some (a, r, i)))) h2, mset_len.trans hD.len⟩))
theorem mE.astore {n : Nat} {a r i : Nat} {l2 : List mV} (hd : decode M.2.1 pc = .ok (.astore n, 2)) (hn : n < M.2.2.1) (hl : mset l n (vR a r i) = l2) (k : mE M (pc + 2) l2 st h Q) : mE M pc l (vR a r i :: st) h Q := by
  intro G p l0 e R s m args below meth c H locs ls hC hD
  subst hl
  exact lv_astore hC.1 hC.2.1 hd hD.lh hn rfl (fun ls2 h2 => k G p l0 e R s m args below meth c H locs ls2 hC ((hD.stk (ok_t hD.sk)).loc (mset_ok hD.lk (ok_h hD.sk)) ⟨mset_prs (w := .inr (.inr (some (a, r, i)))) h2, mset_len.trans hD.len⟩))
theorem mE.astore_nN {n : Fin 4} {l2 : List mV} (hd : decode M.2.1 pc = .ok (.astore_n n, 1)) (hn : (n : Nat) < M.2.2.1) (hl : mset l n vN = l2) (k : mE M (pc + 1) l2 st h Q) : mE M pc l (vN :: st) h Q := by
  intro G p l0 e R s m args below meth c H locs ls hC hD
  subst hl
  exact lv_astore_nN hC.1 hC.2.1 hd rfl hD.lh hn rfl (fun ls2 h2 => k G p l0 e R s m args below meth c H locs ls2 hC ((hD.stk (ok_t hD.sk)).loc (mset_ok hD.lk trivial) ⟨mset_prs (w := .inr (.inr none)) h2, mset_len.trans hD.len⟩))
theorem mE.astoreN {n : Nat} {l2 : List mV} (hd : decode M.2.1 pc = .ok (.astore n, 2)) (hn : n < M.2.2.1) (hl : mset l n vN = l2) (k : mE M (pc + 2) l2 st h Q) : mE M pc l (vN :: st) h Q := by
  intro G p l0 e R s m args below meth c H locs ls hC hD
  subst hl
  exact lv_astoreN hC.1 hC.2.1 hd hD.lh hn rfl (fun ls2 h2 => k G p l0 e R s m args below meth c H locs ls2 hC ((hD.stk (ok_t hD.sk)).loc (mset_ok hD.lk trivial) ⟨mset_prs (w := .inr (.inr none)) h2, mset_len.trans hD.len⟩))
theorem mE.null (hd : decode M.2.1 pc = .ok (.aconst_null, 1)) (k : mE M (pc + 1) l (vN :: st) h Q) : mE M pc l st h Q := by
  intro G p l0 e R s m args below meth c H locs ls hC hD
  exact lv_null hC.1 hC.2.1 hd (k G p l0 e R s m args below meth c H locs ls hC (hD.stk (ok_c trivial hD.sk)))
theorem mE.ifnullR {a r i : Nat} {off : Int} (hd : decode M.2.1 pc = .ok (.ifnull off, 3)) (k : mE M (pc + 3) l st h Q) : mE M pc l (vR a r i :: st) h Q := by
  intro G p l0 e R s m args below meth c H locs ls hC hD
  exact lv_ifnull hC.1 hC.2.1 hd (k G p l0 e R s m args below meth c H locs ls hC (hD.stk (ok_t hD.sk)))
theorem mE.ifnullN {off : Int} {tgt : Nat} (hd : decode M.2.1 pc = .ok (.ifnull off, 3)) (ht : (pc : Int) + off = (tgt : Int)) (k : mE M tgt l st h Q) : mE M pc l (vN :: st) h Q := by
  intro G p l0 e R s m args below meth c H locs ls hC hD
  exact lv_ifnullN hC.1 hC.2.1 hd ht (k G p l0 e R s m args below meth c H locs ls hC (hD.stk (ok_t hD.sk)))
theorem mE.ifnonnullR {a r i : Nat} {off : Int} {tgt : Nat} (hd : decode M.2.1 pc = .ok (.ifnonnull off, 3)) (ht : (pc : Int) + off = (tgt : Int)) (k : mE M tgt l st h Q) : mE M pc l (vR a r i :: st) h Q := by
  intro G p l0 e R s m args below meth c H locs ls hC hD
  exact lv_ifnonnull hC.1 hC.2.1 hd ht (k G p l0 e R s m args below meth c H locs ls hC (hD.stk (ok_t hD.sk)))
theorem mE.ifnonnullN {off : Int} (hd : decode M.2.1 pc = .ok (.ifnonnull off, 3)) (k : mE M (pc + 3) l st h Q) : mE M pc l (vN :: st) h Q := by
  intro G p l0 e R s m args below meth c H locs ls hC hD
  exact lv_ifnonnullN hC.1 hC.2.1 hd (k G p l0 e R s m args below meth c H locs ls hC (hD.stk (ok_t hD.sk)))
theorem mE.goto {off : Int} {tgt : Nat} (hd : decode M.2.1 pc = .ok (.goto off, 3)) (ht : (pc : Int) + off = (tgt : Int)) (k : mE M tgt l st h Q) : mE M pc l st h Q := by
  intro G p l0 e R s m args below meth c H locs ls hC hD
  exact lv_goto hC.1 hC.2.1 hd ht (k G p l0 e R s m args below meth c H locs ls hC hD)
theorem mE.popI {x : Int32} (hd : decode M.2.1 pc = .ok (.pop, 1)) (k : mE M (pc + 1) l st h Q) : mE M pc l (vI x :: st) h Q := by
  intro G p l0 e R s m args below meth c H locs ls hC hD
  exact lv_pop hC.1 hC.2.1 hd rfl (k G p l0 e R s m args below meth c H locs ls hC (hD.stk (ok_t hD.sk)))
theorem mE.popR {a r i : Nat} (hd : decode M.2.1 pc = .ok (.pop, 1)) (k : mE M (pc + 1) l st h Q) : mE M pc l (vR a r i :: st) h Q := by
  intro G p l0 e R s m args below meth c H locs ls hC hD
  exact lv_pop hC.1 hC.2.1 hd rfl (k G p l0 e R s m args below meth c H locs ls hC (hD.stk (ok_t hD.sk)))
theorem mE.dupR {a r i : Nat} (hd : decode M.2.1 pc = .ok (.dup, 1)) (k : mE M (pc + 1) l (vR a r i :: vR a r i :: st) h Q) : mE M pc l (vR a r i :: st) h Q := by
  intro G p l0 e R s m args below meth c H locs ls hC hD
  exact lv_dup hC.1 hC.2.1 hd rfl (k G p l0 e R s m args below meth c H locs ls hC (hD.stk (ok_c (ok_h hD.sk) hD.sk)))
theorem mE.dupI {x : Int32} (hd : decode M.2.1 pc = .ok (.dup, 1)) (k : mE M (pc + 1) l (vI x :: vI x :: st) h Q) : mE M pc l (vI x :: st) h Q := by
  intro G p l0 e R s m args below meth c H locs ls hC hD
  exact lv_dup hC.1 hC.2.1 hd rfl (k G p l0 e R s m args below meth c H locs ls hC (hD.stk (ok_c trivial hD.sk)))
theorem mE.dup2 {x : Int32} {a r i : Nat} (hd : decode M.2.1 pc = .ok (.dup2, 1)) (k : mE M (pc + 1) l (vI x :: vR a r i :: vI x :: vR a r i :: st) h Q) : mE M pc l (vI x :: vR a r i :: st) h Q := by
  intro G p l0 e R s m args below meth c H locs ls hC hD
  exact lv_dup2_11 hC.1 hC.2.1 hd rfl rfl (k G p l0 e R s m args below meth c H locs ls hC (hD.stk (ok_c trivial (ok_c (ok_h (ok_t hD.sk)) hD.sk))))
theorem mE.iadd {x y : Int32} (hd : decode M.2.1 pc = .ok (.iadd, 1)) (k : mE M (pc + 1) l (vI (x + y) :: st) h Q) : mE M pc l (vI y :: vI x :: st) h Q := by
  intro G p l0 e R s m args below meth c H locs ls hC hD
  exact lv_iadd hC.1 hC.2.1 hd (k G p l0 e R s m args below meth c H locs ls hC (hD.stk (ok_c trivial (ok_t (ok_t hD.sk)))))
theorem mE.isub {x y : Int32} (hd : decode M.2.1 pc = .ok (.isub, 1)) (k : mE M (pc + 1) l (vI (x - y) :: st) h Q) : mE M pc l (vI y :: vI x :: st) h Q := by
  intro G p l0 e R s m args below meth c H locs ls hC hD
  exact lv_isub hC.1 hC.2.1 hd (k G p l0 e R s m args below meth c H locs ls hC (hD.stk (ok_c trivial (ok_t (ok_t hD.sk)))))
theorem mE.imul {x y : Int32} (hd : decode M.2.1 pc = .ok (.imul, 1)) (k : mE M (pc + 1) l (vI (x * y) :: st) h Q) : mE M pc l (vI y :: vI x :: st) h Q := by
  intro G p l0 e R s m args below meth c H locs ls hC hD
  exact lv_imul hC.1 hC.2.1 hd (k G p l0 e R s m args below meth c H locs ls hC (hD.stk (ok_c trivial (ok_t (ok_t hD.sk)))))
theorem mE.iand {x y : Int32} (hd : decode M.2.1 pc = .ok (.iand, 1)) (k : mE M (pc + 1) l (vI (x &&& y) :: st) h Q) : mE M pc l (vI y :: vI x :: st) h Q := by
  intro G p l0 e R s m args below meth c H locs ls hC hD
  exact lv_iand hC.1 hC.2.1 hd (k G p l0 e R s m args below meth c H locs ls hC (hD.stk (ok_c trivial (ok_t (ok_t hD.sk)))))
theorem mE.ior {x y : Int32} (hd : decode M.2.1 pc = .ok (.ior, 1)) (k : mE M (pc + 1) l (vI (x ||| y) :: st) h Q) : mE M pc l (vI y :: vI x :: st) h Q := by
  intro G p l0 e R s m args below meth c H locs ls hC hD
  exact lv_ior hC.1 hC.2.1 hd (k G p l0 e R s m args below meth c H locs ls hC (hD.stk (ok_c trivial (ok_t (ok_t hD.sk)))))
theorem mE.ixor {x y : Int32} (hd : decode M.2.1 pc = .ok (.ixor, 1)) (k : mE M (pc + 1) l (vI (x ^^^ y) :: st) h Q) : mE M pc l (vI y :: vI x :: st) h Q := by
  intro G p l0 e R s m args below meth c H locs ls hC hD
  exact lv_ixor hC.1 hC.2.1 hd (k G p l0 e R s m args below meth c H locs ls hC (hD.stk (ok_c trivial (ok_t (ok_t hD.sk)))))
theorem mE.idiv {x y : Int32} (hd : decode M.2.1 pc = .ok (.idiv, 1)) (hne : ¬ y = 0) (k : mE M (pc + 1) l (vI (x / y) :: st) h Q) : mE M pc l (vI y :: vI x :: st) h Q := by
  intro G p l0 e R s m args below meth c H locs ls hC hD
  exact lv_idiv hC.1 hC.2.1 hd hne (k G p l0 e R s m args below meth c H locs ls hC (hD.stk (ok_c trivial (ok_t (ok_t hD.sk)))))
theorem mE.irem {x y : Int32} (hd : decode M.2.1 pc = .ok (.irem, 1)) (hne : ¬ y = 0) (k : mE M (pc + 1) l (vI (x - x / y * y) :: st) h Q) : mE M pc l (vI y :: vI x :: st) h Q := by
  intro G p l0 e R s m args below meth c H locs ls hC hD
  exact lv_irem hC.1 hC.2.1 hd hne (k G p l0 e R s m args below meth c H locs ls hC (hD.stk (ok_c trivial (ok_t (ok_t hD.sk)))))
theorem mE.ishl {x y : Int32} (hd : decode M.2.1 pc = .ok (.ishl, 1)) (k : mE M (pc + 1) l (vI (x <<< (y &&& 31)) :: st) h Q) : mE M pc l (vI y :: vI x :: st) h Q := by
  intro G p l0 e R s m args below meth c H locs ls hC hD
  exact lv_ishl hC.1 hC.2.1 hd (k G p l0 e R s m args below meth c H locs ls hC (hD.stk (ok_c trivial (ok_t (ok_t hD.sk)))))
theorem mE.ishr {x y : Int32} (hd : decode M.2.1 pc = .ok (.ishr, 1)) (k : mE M (pc + 1) l (vI (x >>> (y &&& 31)) :: st) h Q) : mE M pc l (vI y :: vI x :: st) h Q := by
  intro G p l0 e R s m args below meth c H locs ls hC hD
  exact lv_ishr hC.1 hC.2.1 hd (k G p l0 e R s m args below meth c H locs ls hC (hD.stk (ok_c trivial (ok_t (ok_t hD.sk)))))
theorem mE.ineg {x : Int32} (hd : decode M.2.1 pc = .ok (.ineg, 1)) (k : mE M (pc + 1) l (vI (-x) :: st) h Q) : mE M pc l (vI x :: st) h Q := by
  intro G p l0 e R s m args below meth c H locs ls hC hD
  exact lv_ineg hC.1 hC.2.1 hd (k G p l0 e R s m args below meth c H locs ls hC (hD.stk (ok_c trivial (ok_t hD.sk))))
theorem mE.land {x y : Int64} (hd : decode M.2.1 pc = .ok (.land, 1)) (k : mE M (pc + 1) l (vL (x &&& y) :: st) h Q) : mE M pc l (vL y :: vL x :: st) h Q := by
  intro G p l0 e R s m args below meth c H locs ls hC hD
  exact lv_land hC.1 hC.2.1 hd (k G p l0 e R s m args below meth c H locs ls hC (hD.stk (ok_c trivial (ok_t (ok_t hD.sk)))))
theorem mE.lcmp {x y : Int64} (hd : decode M.2.1 pc = .ok (.lcmp, 1)) (k : mE M (pc + 1) l (vI (lg_cmp x y) :: st) h Q) : mE M pc l (vL y :: vL x :: st) h Q := by
  intro G p l0 e R s m args below meth c H locs ls hC hD
  exact W.lcmp hC.1 hC.2.1 hd (k G p l0 e R s m args below meth c H locs ls hC (hD.stk (ok_c trivial (ok_t (ok_t hD.sk)))))
theorem mE.lushr {x : Int64} {y : Int32} (hd : decode M.2.1 pc = .ok (.lushr, 1)) (k : mE M (pc + 1) l (vL ((x.toUInt64 >>> (y.toInt64.toUInt64 &&& Int64.toUInt64 63)).toInt64) :: st) h Q) : mE M pc l (vI y :: vL x :: st) h Q := by
  intro G p l0 e R s m args below meth c H locs ls hC hD
  exact lv_lushr hC.1 hC.2.1 hd rfl (k G p l0 e R s m args below meth c H locs ls hC (hD.stk (ok_c trivial (ok_t (ok_t hD.sk)))))
theorem mE.l2i {x : Int64} (hd : decode M.2.1 pc = .ok (.l2i, 1)) (k : mE M (pc + 1) l (vI x.toInt32 :: st) h Q) : mE M pc l (vL x :: st) h Q := by
  intro G p l0 e R s m args below meth c H locs ls hC hD
  exact lv_l2i hC.1 hC.2.1 hd rfl (k G p l0 e R s m args below meth c H locs ls hC (hD.stk (ok_c trivial (ok_t hD.sk))))
theorem mE.i2l {x : Int32} (hd : decode M.2.1 pc = .ok (.i2l, 1)) (k : mE M (pc + 1) l (vL x.toInt64 :: st) h Q) : mE M pc l (vI x :: st) h Q := by
  intro G p l0 e R s m args below meth c H locs ls hC hD
  exact lv_i2l hC.1 hC.2.1 hd rfl (k G p l0 e R s m args below meth c H locs ls hC (hD.stk (ok_c trivial (ok_t hD.sk))))
theorem mE.i2c {x : Int32} (hd : decode M.2.1 pc = .ok (.i2c, 1)) (k : mE M (pc + 1) l (vI ((x.toUInt32 % 65536).toInt32) :: st) h Q) : mE M pc l (vI x :: st) h Q := by
  intro G p l0 e R s m args below meth c H locs ls hC hD
  exact lv_i2c hC.1 hC.2.1 hd rfl (k G p l0 e R s m args below meth c H locs ls hC (hD.stk (ok_c trivial (ok_t hD.sk))))
theorem mE.if_eq {x : Int32} {off : Int} {tgt : Nat} (hd : decode M.2.1 pc = .ok (.ifCond .eq off, 3)) (ht : (pc : Int) + off = (tgt : Int)) (kt : x = 0 → mE M tgt l st h Q) (kf : ¬ x = 0 → mE M (pc + 3) l st h Q) : mE M pc l (vI x :: st) h Q := by
  intro G p l0 e R s m args below meth c H locs ls hC hD
  exact lv_if_eq hC.1 hC.2.1 hd ht (fun z => kt z G p l0 e R s m args below meth c H locs ls hC (hD.stk (ok_t hD.sk))) (fun z => kf z G p l0 e R s m args below meth c H locs ls hC (hD.stk (ok_t hD.sk)))
theorem mE.icmp_eq {x y : Int32} {off : Int} {tgt : Nat} (hd : decode M.2.1 pc = .ok (.if_icmp .eq off, 3)) (ht : (pc : Int) + off = (tgt : Int)) (kt : x = y → mE M tgt l st h Q) (kf : ¬ x = y → mE M (pc + 3) l st h Q) : mE M pc l (vI y :: vI x :: st) h Q := by
  intro G p l0 e R s m args below meth c H locs ls hC hD
  exact lv_icmp_eq hC.1 hC.2.1 hd ht (fun z => kt z G p l0 e R s m args below meth c H locs ls hC (hD.stk (ok_t (ok_t hD.sk)))) (fun z => kf z G p l0 e R s m args below meth c H locs ls hC (hD.stk (ok_t (ok_t hD.sk))))
theorem mE.if_ne {x : Int32} {off : Int} {tgt : Nat} (hd : decode M.2.1 pc = .ok (.ifCond .ne off, 3)) (ht : (pc : Int) + off = (tgt : Int)) (kt : ¬ x = 0 → mE M tgt l st h Q) (kf : x = 0 → mE M (pc + 3) l st h Q) : mE M pc l (vI x :: st) h Q := by
  intro G p l0 e R s m args below meth c H locs ls hC hD
  exact lv_if_ne hC.1 hC.2.1 hd ht (fun z => kt z G p l0 e R s m args below meth c H locs ls hC (hD.stk (ok_t hD.sk))) (fun z => kf z G p l0 e R s m args below meth c H locs ls hC (hD.stk (ok_t hD.sk)))
theorem mE.icmp_ne {x y : Int32} {off : Int} {tgt : Nat} (hd : decode M.2.1 pc = .ok (.if_icmp .ne off, 3)) (ht : (pc : Int) + off = (tgt : Int)) (kt : ¬ x = y → mE M tgt l st h Q) (kf : x = y → mE M (pc + 3) l st h Q) : mE M pc l (vI y :: vI x :: st) h Q := by
  intro G p l0 e R s m args below meth c H locs ls hC hD
  exact lv_icmp_ne hC.1 hC.2.1 hd ht (fun z => kt z G p l0 e R s m args below meth c H locs ls hC (hD.stk (ok_t (ok_t hD.sk)))) (fun z => kf z G p l0 e R s m args below meth c H locs ls hC (hD.stk (ok_t (ok_t hD.sk))))
theorem mE.if_lt {x : Int32} {off : Int} {tgt : Nat} (hd : decode M.2.1 pc = .ok (.ifCond .lt off, 3)) (ht : (pc : Int) + off = (tgt : Int)) (kt : x < 0 → mE M tgt l st h Q) (kf : ¬ x < 0 → mE M (pc + 3) l st h Q) : mE M pc l (vI x :: st) h Q := by
  intro G p l0 e R s m args below meth c H locs ls hC hD
  exact lv_if_lt hC.1 hC.2.1 hd ht (fun z => kt z G p l0 e R s m args below meth c H locs ls hC (hD.stk (ok_t hD.sk))) (fun z => kf z G p l0 e R s m args below meth c H locs ls hC (hD.stk (ok_t hD.sk)))
theorem mE.icmp_lt {x y : Int32} {off : Int} {tgt : Nat} (hd : decode M.2.1 pc = .ok (.if_icmp .lt off, 3)) (ht : (pc : Int) + off = (tgt : Int)) (kt : x < y → mE M tgt l st h Q) (kf : ¬ x < y → mE M (pc + 3) l st h Q) : mE M pc l (vI y :: vI x :: st) h Q := by
  intro G p l0 e R s m args below meth c H locs ls hC hD
  exact lv_icmp_lt hC.1 hC.2.1 hd ht (fun z => kt z G p l0 e R s m args below meth c H locs ls hC (hD.stk (ok_t (ok_t hD.sk)))) (fun z => kf z G p l0 e R s m args below meth c H locs ls hC (hD.stk (ok_t (ok_t hD.sk))))
theorem mE.if_ge {x : Int32} {off : Int} {tgt : Nat} (hd : decode M.2.1 pc = .ok (.ifCond .ge off, 3)) (ht : (pc : Int) + off = (tgt : Int)) (kt : 0 ≤ x → mE M tgt l st h Q) (kf : ¬ 0 ≤ x → mE M (pc + 3) l st h Q) : mE M pc l (vI x :: st) h Q := by
  intro G p l0 e R s m args below meth c H locs ls hC hD
  exact lv_if_ge hC.1 hC.2.1 hd ht (fun z => kt z G p l0 e R s m args below meth c H locs ls hC (hD.stk (ok_t hD.sk))) (fun z => kf z G p l0 e R s m args below meth c H locs ls hC (hD.stk (ok_t hD.sk)))
theorem mE.icmp_ge {x y : Int32} {off : Int} {tgt : Nat} (hd : decode M.2.1 pc = .ok (.if_icmp .ge off, 3)) (ht : (pc : Int) + off = (tgt : Int)) (kt : y ≤ x → mE M tgt l st h Q) (kf : ¬ y ≤ x → mE M (pc + 3) l st h Q) : mE M pc l (vI y :: vI x :: st) h Q := by
  intro G p l0 e R s m args below meth c H locs ls hC hD
  exact lv_icmp_ge hC.1 hC.2.1 hd ht (fun z => kt z G p l0 e R s m args below meth c H locs ls hC (hD.stk (ok_t (ok_t hD.sk)))) (fun z => kf z G p l0 e R s m args below meth c H locs ls hC (hD.stk (ok_t (ok_t hD.sk))))
theorem mE.if_gt {x : Int32} {off : Int} {tgt : Nat} (hd : decode M.2.1 pc = .ok (.ifCond .gt off, 3)) (ht : (pc : Int) + off = (tgt : Int)) (kt : 0 < x → mE M tgt l st h Q) (kf : ¬ 0 < x → mE M (pc + 3) l st h Q) : mE M pc l (vI x :: st) h Q := by
  intro G p l0 e R s m args below meth c H locs ls hC hD
  exact lv_if_gt hC.1 hC.2.1 hd ht (fun z => kt z G p l0 e R s m args below meth c H locs ls hC (hD.stk (ok_t hD.sk))) (fun z => kf z G p l0 e R s m args below meth c H locs ls hC (hD.stk (ok_t hD.sk)))
theorem mE.icmp_gt {x y : Int32} {off : Int} {tgt : Nat} (hd : decode M.2.1 pc = .ok (.if_icmp .gt off, 3)) (ht : (pc : Int) + off = (tgt : Int)) (kt : y < x → mE M tgt l st h Q) (kf : ¬ y < x → mE M (pc + 3) l st h Q) : mE M pc l (vI y :: vI x :: st) h Q := by
  intro G p l0 e R s m args below meth c H locs ls hC hD
  exact lv_icmp_gt hC.1 hC.2.1 hd ht (fun z => kt z G p l0 e R s m args below meth c H locs ls hC (hD.stk (ok_t (ok_t hD.sk)))) (fun z => kf z G p l0 e R s m args below meth c H locs ls hC (hD.stk (ok_t (ok_t hD.sk))))
theorem mE.if_le {x : Int32} {off : Int} {tgt : Nat} (hd : decode M.2.1 pc = .ok (.ifCond .le off, 3)) (ht : (pc : Int) + off = (tgt : Int)) (kt : x ≤ 0 → mE M tgt l st h Q) (kf : ¬ x ≤ 0 → mE M (pc + 3) l st h Q) : mE M pc l (vI x :: st) h Q := by
  intro G p l0 e R s m args below meth c H locs ls hC hD
  exact lv_if_le hC.1 hC.2.1 hd ht (fun z => kt z G p l0 e R s m args below meth c H locs ls hC (hD.stk (ok_t hD.sk))) (fun z => kf z G p l0 e R s m args below meth c H locs ls hC (hD.stk (ok_t hD.sk)))
theorem mE.icmp_le {x y : Int32} {off : Int} {tgt : Nat} (hd : decode M.2.1 pc = .ok (.if_icmp .le off, 3)) (ht : (pc : Int) + off = (tgt : Int)) (kt : x ≤ y → mE M tgt l st h Q) (kf : ¬ x ≤ y → mE M (pc + 3) l st h Q) : mE M pc l (vI y :: vI x :: st) h Q := by
  intro G p l0 e R s m args below meth c H locs ls hC hD
  exact lv_icmp_le hC.1 hC.2.1 hd ht (fun z => kt z G p l0 e R s m args below meth c H locs ls hC (hD.stk (ok_t (ok_t hD.sk)))) (fun z => kf z G p l0 e R s m args below meth c H locs ls hC (hD.stk (ok_t (ok_t hD.sk))))
end ROWS
