/-! the law's loop -/
theorem iv_mono {B B2 : Int} {h : mH} (I : Iv B h) (hB : B ≤ B2) : Iv B2 h := by
  obtain ⟨u, R, C, k, H, V, W, P, n, S, C', g, hM, sg, oX, oH, oW⟩ := I
  exact ⟨u, R, C, k, H, V, W, P, n, S, C', g, hM, sg, oX.mono hB, fun j hj => (oH j hj).mono hB, fun s hs v => (oW s hs v).mono hB⟩
section LOOP
variable {p : Program} {l : Launch} {e : Env} {s : State} {m : MethodId} {below : List Frame} {meth : Method} {c : Code} {b L : Nat} {xs : Nat → Int32} {G : mG} {i : Nat} {h : mH} {B : Int}
theorem l_body (F : lwF p s m meth c b L xs G) (I : Iv B h) (hi : i + 6 ≤ L) (hB : B ≤ 785000) (kk : ∀ h2, Iv (B + 1536) h2 → lwE p l e s m below meth c b G 893 i [] h2) : lwE p l e s m below meth c b G 27 i [] h := by
  intro H locs ls hR hV hS hl
  obtain ⟨⟨hx, hb, hr, hml, hown, hts, hX, hbl, hlocks, hgv⟩, hK, hI, hA, hL⟩ := id F
  refine lv_aload_n hx hb dL_law_27 rfl (lv_at hl 0 rfl) ?_
  refine lv_iload_n hx hb dL_law_28 rfl (lv_at hl 3 rfl) ?_
  refine va_sld hx hb hX hbl (Nat.not_le.mpr hbl) hS (vp_in_nI (show i < L by omega) (by omega)) dL_law_29 ?_
  refine lv_bipush (v := 31) hx hb dL_law_30 (by decide +kernel) ?_
  refine lv_iand hx hb dL_law_32 ?_
  generalize xs (nI i).toNatClampNeg &&& 31 = y
  by_cases e0 : y.toInt = 0
  · exact lv_tableIn (off := 115) (tgt := 148) hx hb dL_law_33 (by omega) (by omega) (by rw [e0]; rfl) rfl (k_set F I hi hB kk H locs ls hR hV hS hl)
  by_cases e1 : y.toInt = 1
  · exact lv_tableIn (off := 148) (tgt := 181) hx hb dL_law_33 (by omega) (by omega) (by rw [e1]; rfl) rfl (k_loop F I hi hB kk H locs ls hR hV hS hl)
  by_cases e2 : y.toInt = 2
  · exact lv_tableIn (off := 211) (tgt := 244) hx hb dL_law_33 (by omega) (by omega) (by rw [e2]; rfl) rfl (k_bounds F I hi hB kk H locs ls hR hV hS hl)
  by_cases e3 : y.toInt = 3
  · exact lv_tableIn (off := 254) (tgt := 287) hx hb dL_law_33 (by omega) (by omega) (by rw [e3]; rfl) rfl (k_come F I hi hB kk H locs ls hR hV hS hl)
  by_cases e4 : y.toInt = 4
  · exact lv_tableIn (off := 307) (tgt := 340) hx hb dL_law_33 (by omega) (by omega) (by rw [e4]; rfl) rfl (k_want F I hi hB kk H locs ls hR hV hS hl)
  by_cases e5 : y.toInt = 5
  · exact lv_tableIn (off := 330) (tgt := 363) hx hb dL_law_33 (by omega) (by omega) (by rw [e5]; rfl) rfl (k_speed F I hi hB kk H locs ls hR hV hS hl)
  by_cases e6 : y.toInt = 6
  · exact lv_tableIn (off := 363) (tgt := 396) hx hb dL_law_33 (by omega) (by omega) (by rw [e6]; rfl) rfl (k_ticks F I hi hB kk H locs ls hR hV hS hl)
  by_cases e7 : y.toInt = 7
  · exact lv_tableIn (off := 386) (tgt := 419) hx hb dL_law_33 (by omega) (by omega) (by rw [e7]; rfl) rfl (k_ofCar F I hi hB kk H locs ls hR hV hS hl)
  by_cases e8 : y.toInt = 8
  · exact lv_tableIn (off := 419) (tgt := 452) hx hb dL_law_33 (by omega) (by omega) (by rw [e8]; rfl) rfl (k_ofLoop F I hi hB kk H locs ls hR hV hS hl)
  by_cases e9 : y.toInt = 9
  · exact lv_tableIn (off := 452) (tgt := 485) hx hb dL_law_33 (by omega) (by omega) (by rw [e9]; rfl) rfl (k_error F I hi hB kk H locs ls hR hV hS hl)
  by_cases e10 : y.toInt = 10
  · exact lv_tableIn (off := 475) (tgt := 508) hx hb dL_law_33 (by omega) (by omega) (by rw [e10]; rfl) rfl (k_carAt F I hi hB kk H locs ls hR hV hS hl)
  by_cases e11 : y.toInt = 11
  · exact lv_tableIn (off := 508) (tgt := 541) hx hb dL_law_33 (by omega) (by omega) (by rw [e11]; rfl) rfl (k_count F I hi hB kk H locs ls hR hV hS hl)
  by_cases e12 : y.toInt = 12
  · exact lv_tableIn (off := 531) (tgt := 564) hx hb dL_law_33 (by omega) (by omega) (by rw [e12]; rfl) rfl (k_inside F I hi hB kk H locs ls hR hV hS hl)
  by_cases e13 : y.toInt = 13
  · exact lv_tableIn (off := 564) (tgt := 597) hx hb dL_law_33 (by omega) (by omega) (by rw [e13]; rfl) rfl (k_countsIn F I hi hB kk H locs ls hR hV hS hl)
  by_cases e14 : y.toInt = 14
  · exact lv_tableIn (off := 597) (tgt := 630) hx hb dL_law_33 (by omega) (by omega) (by rw [e14]; rfl) rfl (k_countsAlone F I hi hB kk H locs ls hR hV hS hl)
  by_cases e15 : y.toInt = 15
  · exact lv_tableIn (off := 630) (tgt := 663) hx hb dL_law_33 (by omega) (by omega) (by rw [e15]; rfl) rfl (k_bestUpper F I hi hB kk H locs ls hR hV hS hl)
  by_cases e16 : y.toInt = 16
  · exact lv_tableIn (off := 663) (tgt := 696) hx hb dL_law_33 (by omega) (by omega) (by rw [e16]; rfl) rfl (k_bestTurn F I hi hB kk H locs ls hR hV hS hl)
  by_cases e17 : y.toInt = 17
  · exact lv_tableIn (off := 686) (tgt := 719) hx hb dL_law_33 (by omega) (by omega) (by rw [e17]; rfl) rfl (k_goneIn F I hi hB kk H locs ls hR hV hS hl)
  by_cases e18 : y.toInt = 18
  · exact lv_tableIn (off := 709) (tgt := 742) hx hb dL_law_33 (by omega) (by omega) (by rw [e18]; rfl) rfl (k_put F I hi hB kk H locs ls hR hV hS hl)
  by_cases e19 : y.toInt = 19
  · exact lv_tableIn (off := 762) (tgt := 795) hx hb dL_law_33 (by omega) (by omega) (by rw [e19]; rfl) rfl (k_wipe F I hi hB kk H locs ls hR hV hS hl)
  by_cases e20 : y.toInt = 20
  · exact lv_tableIn (off := 775) (tgt := 808) hx hb dL_law_33 (by omega) (by omega) (by rw [e20]; rfl) rfl (k_fault F I hi hB kk H locs ls hR hV hS hl)
  by_cases e21 : y.toInt = 21
  · exact lv_tableIn (off := 788) (tgt := 821) hx hb dL_law_33 (by omega) (by omega) (by rw [e21]; rfl) rfl (k_carryOut F I hi hB kk H locs ls hR hV hS hl)
  by_cases e22 : y.toInt = 22
  · exact lv_tableIn (off := 801) (tgt := 834) hx hb dL_law_33 (by omega) (by omega) (by rw [e22]; rfl) rfl (k_undo F I hi hB kk H locs ls hR hV hS hl)
  by_cases e23 : y.toInt = 23
  · exact lv_tableIn (off := 814) (tgt := 847) hx hb dL_law_33 (by omega) (by omega) (by rw [e23]; rfl) rfl (k_save F I hi hB kk H locs ls hR hV hS hl)
  by_cases e24 : y.toInt = 24
  · exact lv_tableIn (off := 837) (tgt := 870) hx hb dL_law_33 (by omega) (by omega) (by rw [e24]; rfl) rfl (k_restore F I hi hB kk H locs ls hR hV hS hl)
  exact lv_tableOut (tgt := 893) hx hb dL_law_33 (by omega) rfl (kk h (iv_mono I (by omega)) H locs ls hR hV hS hl)
theorem l_exit (F : lwF p s m meth c b L xs G) : lwE p l e s m below meth c b G 899 i [] h := by
  intro H locs ls hR hV hS hl
  obtain ⟨⟨hx, hb, hr, hml, hown, hts, hX, hbl, hlocks, hgv⟩, hK, hI, hA, hL⟩ := id F
  refine lv_iconst (v := 1) hx hb dL_law_899 (by decide +kernel) ?_
  refine va_forget (fun q hq => hS.2.2 q hq) ?_
  exact lw_ret hx hb hr hlocks dL_law_900
theorem l_next (F : lwF p s m meth c b L xs G) (kk : lwE p l e s m below meth c b G 18 (i + 6) [] h) : lwE p l e s m below meth c b G 893 i [] h := by
  intro H locs ls hR hV hS hl
  refine lv_iinc (v := nI (i + 6)) (lv' := [(3, .int (nI (i + 6))), (0, .ref b), (1, .ref (G.1 7 0 0)), (2, .ref (G.1 20 0 0))]) F.1.1 F.1.2.1 dL_law_893 hl (k := 3) rfl (by rw [show Int32.ofInt 6 = nI 6 from by decide +kernel]; exact nI_add i 6) (by decide) rfl (fun ls hl => ?_)
  refine lv_goto (tgt := 18) F.1.1 F.1.2.1 dL_law_896 rfl ?_
  exact kk H locs ls hR hV hS (lv_sub hl [1, 2, 3, 0] rfl)
theorem l_cmp (hL : L ≤ 3072) (hi : i ≤ L) : (Int32.ofNat L - 6 < nI i) ↔ (L : Int) - 6 < (i : Int) := by
  have e6 : (6 : Int32) = zI 6 := z_lit 6
  have eL : Int32.ofNat L = zI (L : Int) := z_nI L
  rw [eL, e6, z_sub, z_nI]
  exact z_lt ⟨by omega, by omega⟩ ⟨by omega, by omega⟩
theorem l_head (F : lwF p s m meth c b L xs G) (hi : i ≤ L) (kf : i + 6 ≤ L → lwE p l e s m below meth c b G 27 i [] h) : lwE p l e s m below meth c b G 18 i [] h := by
  intro H locs ls hR hV hS hl
  obtain ⟨⟨hx, hb, hr, hml, hown, hts, hX, hbl, hlocks, hgv⟩, hK, hI, hA, hL⟩ := id F
  refine lv_iload_n hx hb dL_law_18 rfl (lv_at hl 3 rfl) ?_
  refine lv_aload_n hx hb dL_law_19 rfl (lv_at hl 0 rfl) ?_
  refine va_slen hx hb hX hbl (Nat.not_le.mpr hbl) hS dL_law_20 ?_
  refine lv_bipush (v := 6) hx hb dL_law_21 (by decide +kernel) ?_
  refine lv_isub hx hb dL_law_23 ?_
  refine lv_icmp_gt (tgt := 899) hx hb dL_law_24 rfl (fun _ => l_exit (h := h) (i := i) F H locs ls hR hV hS hl) (fun z => ?_)
  rw [l_cmp hL hi] at z
  exact kf (by omega) H locs ls hR hV hS hl
theorem l_loop (F : lwF p s m meth c b L xs G) : ∀ (n i : Nat) (h : mH), L ≤ i + n → i ≤ L → Iv (256 * (i : Int)) h → lwE p l e s m below meth c b G 18 i [] h := by
  intro n
  have hL : L ≤ 3072 := F.2.2.2.2
  induction n with
  | zero =>
    intro i h h1 h2 I
    exact l_head F h2 (fun z => by omega)
  | succ n ih =>
    intro i h h1 h2 I
    refine l_head F h2 (fun z => ?_)
    refine l_body F I z (by omega) (fun h3 I3 => ?_)
    refine l_next F (ih (i + 6) h3 (by omega) z ?_)
    have e : 256 * ((i + 6 : Nat) : Int) = 256 * (i : Int) + 1536 := by omega
    rw [e]
    exact I3
end LOOP
