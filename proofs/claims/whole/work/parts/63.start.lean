/-! the law from its entry -/
set_option maxHeartbeats 4000000 in
theorem whole_start {p : Program} {e : Env} {s : State} {m : MethodId} {below : List Frame} {meth : Method} {c : Code} (l : Launch) (hflags : l.flags = flags0) {b L : Nat} {xs : Nat → Int32} (hL : L ≤ 3072) (C0 : lw_At p s m meth c b L xs) : W p l e room_1 s m #[Value.ref b] below meth c s.heap [] 0 0 (lw_Z below #[Value.ref b] s) (entryFrame m ([Value.ref b] : List Value).toArray 4) := by
  obtain ⟨hx, hb, hr, hml, hown, hts, hX, hbl, hlocks, hgv⟩ := id C0
  obtain ⟨dC, dI, hK⟩ := kn_entry hts s.heap.size
  have htb : ∀ w ∈ TB, w.before #[Value.ref b] s = true := fun w hw => hts w (tb_tbl hw)
  have hl := lv_entry ([.ref b]) (n := 4) (Nat.le_of_ble_eq_true rfl)
  rw [lg_entry_eq]
  generalize (lg_sl ([.ref b]) ++ List.replicate (4 - (lg_sl ([.ref b])).length) Slot.unset).toArray = ls at hl ⊢
  have hl : lv_has ls 4 [(0, .ref b)] := hl
  have hR0 : nRep (s.heap.size, cA0 s, dC, dI) (fun _ => (.inl 0, fun _ => vN), 0) s.heap := ⟨rfl, fun q hq => absurd hq (Nat.not_lt_zero q)⟩
  refine nW_new (k := 7) hx hb hown htb hK hR0 va_S.rf cls6 (tb_of 61 (by decide +kernel) rfl) (tb_of 62 (by decide +kernel) rfl) (tb_of 52 (by decide +kernel) rfl) tyX6 tyX6_ok zok6 (Nat.le_of_ble_eq_true rfl) (Nat.le_of_ble_eq_true rfl) dL_law_0 (fun H1 hR1 hS1 => ?_)
  refine lv_dup hx hb dL_law_3 rfl ?_
  refine nW_call (M := M6_init) (Z := (570, 7546)) (q := 0) (as := []) (K := fun h => BigI h) (rest := [.ref (s.heap.size + 0)]) hx hb hml hown htb hl.1 hK hR1 hS1 ciL_9 ⟨(Nat.le_of_ble_eq_true rfl), (Nat.le_of_ble_eq_true rfl)⟩ ⟨(Nat.le_of_ble_eq_true rfl), (Nat.le_of_ble_eq_true rfl)⟩ rfl (Nat.le_of_ble_eq_true rfl) (Nat.le_of_ble_eq_true rfl) dL_law_4 (n6_init rfl (by rw [nPush_eq rfl]) (fun h B => B)) (fun h6 H2 locs2 B hR2 hS2 => ?_)
  refine lv_astore_n (lv' := [(1, .ref (s.heap.size + 0)), (0, .ref b)]) hx hb dL_law_7 rfl hl (by decide) rfl (fun ls hl => ?_)
  refine nW_new (k := 20) hx hb hown htb hK hR2 hS2 cls7 (tb_of 651 (by decide +kernel) rfl) (tb_of 652 (by decide +kernel) rfl) (tb_of 59 (by decide +kernel) rfl) tyX7 tyX7_ok zok7 (Nat.le_of_ble_eq_true rfl) (Nat.le_of_ble_eq_true rfl) dL_law_8 (fun H3 hR3 hS3 => ?_)
  have e6 : h6.2 = 571 := B.1
  rw [e6]
  refine lv_dup hx hb dL_law_11 rfl ?_
  refine nW_call (M := M7_init) (Z := (9, 5032)) (q := 571) (as := []) (K := fun h => ModI (nPush h6 (.inl 7, fun j => zV (tyX7 j))) 571 h) (rest := [.ref (s.heap.size + 571)]) hx hb hml hown htb hl.1 hK hR3 hS3 ciL_12 ⟨(Nat.le_of_ble_eq_true rfl), (Nat.le_of_ble_eq_true rfl)⟩ ⟨(Nat.le_of_ble_eq_true rfl), (Nat.le_of_ble_eq_true rfl)⟩ rfl (Nat.le_of_ble_eq_true rfl) (Nat.le_of_ble_eq_true rfl) dL_law_12 (n7_init (by show 571 < h6.2 + 1; omega) (by rw [nPush_eq e6.symm]) (fun h M => M)) (fun h7 H4 locs4 M hR4 hS4 => ?_)
  refine lv_astore_n (lv' := [(2, .ref (s.heap.size + 571)), (1, .ref (s.heap.size + 0)), (0, .ref b)]) hx hb dL_law_15 rfl hl (by decide) rfl (fun ls hl => ?_)
  refine lv_iconst (v := nI 0) hx hb dL_law_16 (by decide +kernel) ?_
  refine lv_istore_n (lv' := [(3, .int (nI 0)), (2, .ref (s.heap.size + 571)), (1, .ref (s.heap.size + 0)), (0, .ref b)]) hx hb dL_law_17 rfl hl (by decide) rfl (fun ls hl => ?_)
  refine W.widen (k := 600000) (n := 7302250) (Nat.le_of_ble_eq_true rfl) (Nat.le_of_ble_eq_true rfl) ?_
  have F : lwF p s m meth c b L xs (G1 (s.heap.size, cA0 s, dC, dI)) := ⟨C0, G1_kn hK (nw_entry hts), G1_inj _, fun q hq => by
    obtain ⟨k, r, i, -, e⟩ := hq
    rw [e]
    exact Nat.le_add_right _ _, hL⟩
  have I0 : Iv (256 * ((0 : Nat) : Int)) hI_ := by
    rw [show 256 * ((0 : Nat) : Int) = 0 from rfl]
    exact iv_0 ini_hI
  exact l_loop F L 0 hI_ (by omega) (Nat.zero_le L) I0 H4 locs4 ls (fin_rep B M hR4) vh_hI hS4 (lv_sub hl [3, 2, 1, 0] rfl)
