/-! the law's own judgement: from here it comes to its end with true; the script's place i, the heap h of the first machine -/
def lwE (p : Program) (l : Launch) (e : Env) (s : State) (m : MethodId) (below : List Frame) (meth : Method) (c : Code) (b : Nat) (G : mG) (pc i : Nat) (st : List Value) (h : mH) : Prop :=
  ∀ (H : Heap) (locs : List Loc) (ls : Array Slot), Rep G h H → VH h → va_S (fun q => s.heap.size ≤ q) s.heap H locs → lv_has ls 4 [(0, .ref b), (1, .ref (G.1 7 0 0)), (2, .ref (G.1 20 0 0)), (3, .int (nI i))] → W p l e room_1 s m #[Value.ref b] below meth c H locs 600000 7302250 (lw_Z below #[Value.ref b] s) (F0 m pc ls st)
def lwF (p : Program) (s : State) (m : MethodId) (meth : Method) (c : Code) (b L : Nat) (xs : Nat → Int32) (G : mG) : Prop := lw_At p s m meth c b L xs ∧ Kn G s ∧ InjG G ∧ (∀ q, GA G q → s.heap.size ≤ q) ∧ L ≤ 3072
theorem kI_ex {F : Int32 → mH → Prop} {v : mV} {h : mH} (k : kI F v h) : ∃ x, v = vI x ∧ F x h := by
  unfold kI at k
  split at k
  · exact ⟨_, rfl, k⟩
  · exact k.elim
section LAW
variable {p : Program} {l : Launch} {e : Env} {s : State} {m : MethodId} {below : List Frame} {meth : Method} {c : Code} {b L : Nat} {xs : Nat → Int32} {G : mG} {pc i : Nat} {st : List Value} {h : mH}
theorem l_hts (F : lwF p s m meth c b L xs G) : ∀ w ∈ TB, w.before #[Value.ref b] s = true := fun w hw => F.1.2.2.2.2.2.1 w (tb_tbl hw)
/-- an element of the script -/
theorem l_rd {k : Nat} {n : Int} (F : lwF p s m meth c b L xs G) (d0 : decode code pc = .ok (.aload_n 0, 1)) (d1 : decode code (pc + 1) = .ok (.iload_n 3, 1)) (d2 : decode code (pc + 2) = .ok (.iconst n, 1)) (d3 : decode code (pc + 3) = .ok (.iadd, 1)) (d4 : decode code (pc + 4) = .ok (.iaload, 1)) (hk : Int32.ofInt n = nI k) (hi : i + k < L) (kk : lwE p l e s m below meth c b G (pc + 5) i (.int (xs (i + k)) :: st) h) : lwE p l e s m below meth c b G pc i st h := by
  intro H locs ls hR hV hS hl
  obtain ⟨⟨hx, hb, hr, hml, hown, hts, hX, hbl, hlocks, hgv⟩, hK, hI, hA, hL⟩ := id F
  refine lv_aload_n hx hb d0 rfl (lv_at hl 0 rfl) ?_
  refine lv_iload_n hx hb d1 rfl (lv_at hl 3 rfl) ?_
  refine lv_iconst (v := nI k) hx hb d2 hk ?_
  refine lv_iadd hx hb d3 ?_
  rw [nI_add]
  refine va_sld hx hb hX hbl (Nat.not_le.mpr hbl) hS (vp_in_nI hi (by omega)) d4 ?_
  rw [nI_clamp (show i + k < 2 ^ 31 by omega)]
  exact kk H locs ls hR hV hS hl
theorem l_cls (F : lwF p s m meth c b L xs G) (d : decode code pc = .ok (.aload_n 1, 1)) (kk : lwE p l e s m below meth c b G (pc + 1) i (.ref (G.1 7 0 0) :: st) h) : lwE p l e s m below meth c b G pc i st h := by
  intro H locs ls hR hV hS hl
  exact lv_aload_n F.1.1 F.1.2.1 d rfl (lv_at hl 1 rfl) (kk H locs ls hR hV hS hl)
theorem l_ref (F : lwF p s m meth c b L xs G) (d : decode code pc = .ok (.aload_n 2, 1)) (kk : lwE p l e s m below meth c b G (pc + 1) i (.ref (G.1 20 0 0) :: st) h) : lwE p l e s m below meth c b G pc i st h := by
  intro H locs ls hR hV hS hl
  exact lv_aload_n F.1.1 F.1.2.1 d rfl (lv_at hl 2 rfl) (kk H locs ls hR hV hS hl)
/-- a call on the class's object (kind 7) or the reference's (kind 20), with an int for an answer -/
theorem l_call {M : mM} {idx n k ci : Nat} {T : u_T} {as : List mW} {K : Int32 → mH → Prop} {st0 : List Value} (F : lwF p s m meth c b L xs G) (d : decode code pc = .ok (.invokevirtual idx, 3)) (C : CalM M n) (V : VirM M) (hl : Jvm.Cond.methodLink R_law idx M.1 ∈ TB) (hro : M.2.2.2.2.1 + 1 ≤ 11 ∧ 8 + (M.2.2.1 + 11) + M.2.2.2.2.2 ≤ 404) (hok : okId k 0 0) (hc : kc k = some ci) (hcl : vwCl[ci]? = some (M.1.cls, T, kz k)) (has : ∀ v ∈ as, okW v) (hn : as.length = n) (hst : (as.map (cw G.1)).reverse ++ .ref (G.1 k 0 0) :: st = st0) (hlen : (ent (.inr (.inr (some (k, 0, 0))) :: as)).length ≤ M.2.2.1) (hcat : (st.map fun v => v.category).sum ≤ 8) (ev : mC M (.inr (.inr (some (k, 0, 0))) :: as) h (kI K)) (kk : ∀ x h1, K x h1 → lwE p l e s m below meth c b G (pc + 3) i (.int x :: st) h1) : lwE p l e s m below meth c b G pc i st0 h := by
  intro H locs ls hR hV hS hlv
  subst hst
  have hts := l_hts F
  obtain ⟨⟨hx, hb, hr, hml, hown, -, hX, hbl, hlocks, hgv⟩, hK, hI, hA, hL⟩ := id F
  have hAt := hR k 0 0 hok
  rw [atK_obj hc] at hAt
  obtain ⟨cell, q1, q2, q3, -⟩ := hAt
  have has2 : ∀ v ∈ (.inr (.inr (some (k, 0, 0))) :: as : List mW), okW v := by
    intro v hv
    rcases List.mem_cons.mp hv with rfl | hv
    · exact hok
    · exact has v hv
  have hM := mE.met C hlen ev l hI
  have hr2 : va_Run p l e room_1 s m #[Value.ref b] below meth c H locs 600000 7302250 0 0 (F0 m pc ls ((as.map (cw G.1)).reverse ++ .ref (G.1 k 0 0) :: st)) st (Qm G (kI K) (Value.ref (G.1 k 0 0) :: as.map (cw G.1)).toArray) (GA G) := by
    refine va_runV (As := as.map (cw G.1)) (b := G.1 k 0 0) (C := M.1.cls) (Ts := TB) (bytes := M.2.1) (maxL := M.2.2.1) (ret := M.2.2.2.1) (n := n) (index := idx) (own := R_law) (nL := 4) (cc := code) ⟨hx, hb, hml, hown, hts⟩ hM ?_ ?_ rfl ((List.length_map _).trans hn) hlv.1 rfl (lv_room hcat) d ⟨Nat.le_refl _, Nat.le_refl _⟩
    · refine ⟨⟨rfl, rfl, hro.1, hro.2, pay_in hts (good_ws C.2.1), List.mem_cons_self, hts _ C.2.1, hts _ C.2.2.1, C.2.2.2.1, fun sig h => ?_, hts _ hl⟩, hts _ V.1, hts _ V.2⟩
      have h2 := C.2.2.2.2
      rw [h] at h2
      exact (Option.some.inj h2).symm
    · exact ⟨mPc_blind, ⟨cell, q1, by rw [q3]; rfl, by rw [q2]; exact (hK.1 ci _ hcl).2.1⟩, fun U hU hW => ⟨rfl, by rw [hU]; exact hR, hV, has2, hK.moved hW⟩⟩
  intro T2 hT X
  obtain ⟨v, st₀, t, T3, L2, h0, X2, hL2, e1, e2, ⟨⟨v2, h1, hv, hq, hR1, hV1, hok2⟩, hz, hk⟩, stp⟩ := hr2 T2 hT X
  have hv := Outcome.returned.inj hv
  subst hv
  obtain ⟨x, hxv, hKx⟩ := kI_ex hq
  subst hxv
  rw [h0] at hz hk
  have hS1 : va_S (fun q => s.heap.size ≤ q) s.heap T3.heap (locs ++ L2) := ⟨Nat.le_trans hS.1 (by rw [e1]; exact hz), fun q h1 h2 => by rw [e1, hk q (Nat.lt_of_lt_of_le h1 hS.1) (fun z => h2 (hA q z))]; exact hS.2.1 q h1 h2, fun q hq => by
      rcases List.mem_append.mp hq with h | h
      · exact hS.2.2 q h
      · exact hA _ (hL2 q h)⟩
  obtain ⟨t2, a1, b1⟩ := kk x h1 hKx T3.heap (locs ++ L2) ls (by rw [e1]; exact hR1) hV1 hS1 hlv T3 rfl X2
  exact ⟨t2, stp t2 a1, b1⟩
theorem l_same {x y : Int32} {off : Int} (F : lwF p s m meth c b L xs G) (d : decode code pc = .ok (.if_icmp .eq off, 3)) (ht : (pc : Int) + off = ((893 : Nat) : Int)) (exy : x = y) (kk : lwE p l e s m below meth c b G 893 i [] h) : lwE p l e s m below meth c b G pc i [.int y, .int x] h := by
  intro H locs ls hR hV hS hl
  exact lv_icmp_eq F.1.1 F.1.2.1 d ht (fun _ => kk H locs ls hR hV hS hl) (fun z => absurd exy z)
theorem l_i2l {x : Int32} (F : lwF p s m meth c b L xs G) (d : decode code pc = .ok (.i2l, 1)) (kk : lwE p l e s m below meth c b G (pc + 1) i (.long x.toInt64 :: st) h) : lwE p l e s m below meth c b G pc i (.int x :: st) h := by
  intro H locs ls hR hV hS hl
  exact lv_i2l F.1.1 F.1.2.1 d rfl (kk H locs ls hR hV hS hl)
theorem l_bipush {n : Int} {v : Int32} (F : lwF p s m meth c b L xs G) (d : decode code pc = .ok (.bipush n, 2)) (hv : (Int8.ofInt n).toInt32 = v) (kk : lwE p l e s m below meth c b G (pc + 2) i (.int v :: st) h) : lwE p l e s m below meth c b G pc i st h := by
  intro H locs ls hR hV hS hl
  exact lv_bipush F.1.1 F.1.2.1 d hv (kk H locs ls hR hV hS hl)
theorem l_lshl {x : Int64} {y : Int32} (F : lwF p s m meth c b L xs G) (d : decode code pc = .ok (.lshl, 1)) (kk : lwE p l e s m below meth c b G (pc + 1) i (.long (x <<< (y.toInt64 &&& 63)) :: st) h) : lwE p l e s m below meth c b G pc i (.int y :: .long x :: st) h := by
  intro H locs ls hR hV hS hl
  exact lv_lshl F.1.1 F.1.2.1 d rfl (kk H locs ls hR hV hS hl)
theorem l_ldc2 {idx : Nat} {v : Int64} (F : lwF p s m meth c b L xs G) (d : decode code pc = .ok (.ldc2_w idx, 3)) (hw : Jvm.Cond.constantLong R_law idx v ∈ TB) (kk : lwE p l e s m below meth c b G (pc + 3) i (.long v :: st) h) : lwE p l e s m below meth c b G pc i st h := by
  intro H locs ls hR hV hS hl
  exact lv_ldc2 F.1.1 F.1.2.1 F.1.2.2.2.2.1 (l_hts F _ hw) d (kk H locs ls hR hV hS hl)
theorem l_land {x y : Int64} (F : lwF p s m meth c b L xs G) (d : decode code pc = .ok (.land, 1)) (kk : lwE p l e s m below meth c b G (pc + 1) i (.long (x &&& y) :: st) h) : lwE p l e s m below meth c b G pc i (.long y :: .long x :: st) h := by
  intro H locs ls hR hV hS hl
  exact lv_land F.1.1 F.1.2.1 d (kk H locs ls hR hV hS hl)
theorem l_lor {x y : Int64} (F : lwF p s m meth c b L xs G) (d : decode code pc = .ok (.lor, 1)) (kk : lwE p l e s m below meth c b G (pc + 1) i (.long (x ||| y) :: st) h) : lwE p l e s m below meth c b G pc i (.long y :: .long x :: st) h := by
  intro H locs ls hR hV hS hl
  exact lv_lor F.1.1 F.1.2.1 d (kk H locs ls hR hV hS hl)
end LAW
