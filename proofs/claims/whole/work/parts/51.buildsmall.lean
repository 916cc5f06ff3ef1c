/-! the constructors: records, words; Car, Loop, Pad -/
def M0_init : mM := (yX0_init, cX0_init, 2, none, 1, 20)
def M1_init : mM := (yX1_init, cX1_init, 2, none, 3, 62)
def M2_init : mM := (yX2_init, cX2_init, 1, none, 1, 20)
def M3_init : mM := (yX3_init, cX3_init, 1, none, 1, 20)
def M4_init : mM := (yX4_init, cX4_init, 2, none, 2, 41)
def M5_init : mM := (yX5_init, cX5_init, 2, none, 3, 62)
def M6_init : mM := (yX6_init, cX6_init, 1, none, 4, 83)
def M7_init : mM := (yX7_init, cX7_init, 1, none, 1, 20)
theorem cal0_init : CalM M0_init 1 := ⟨by decide, tb_of 82 (by decide +kernel) rfl, tb_of 54 (by decide +kernel) rfl, ⟨by decide +kernel, by decide +kernel⟩, by decide +kernel⟩
theorem cal1_init : CalM M1_init 0 := ⟨by decide, tb_of 231 (by decide +kernel) rfl, tb_of 57 (by decide +kernel) rfl, ⟨by decide +kernel, by decide +kernel⟩, by decide +kernel⟩
theorem cal2_init : CalM M2_init 0 := ⟨by decide, tb_of 136 (by decide +kernel) rfl, tb_of 55 (by decide +kernel) rfl, ⟨by decide +kernel, by decide +kernel⟩, by decide +kernel⟩
theorem cal3_init : CalM M3_init 0 := ⟨by decide, tb_of 216 (by decide +kernel) rfl, tb_of 56 (by decide +kernel) rfl, ⟨by decide +kernel, by decide +kernel⟩, by decide +kernel⟩
theorem cal4_init : CalM M4_init 0 := ⟨by decide, tb_of 73 (by decide +kernel) rfl, tb_of 53 (by decide +kernel) rfl, ⟨by decide +kernel, by decide +kernel⟩, by decide +kernel⟩
theorem cal5_init : CalM M5_init 0 := ⟨by decide, tb_of 251 (by decide +kernel) rfl, tb_of 58 (by decide +kernel) rfl, ⟨by decide +kernel, by decide +kernel⟩, by decide +kernel⟩
theorem cal6_init : CalM M6_init 0 := ⟨by decide, tb_of 65 (by decide +kernel) rfl, tb_of 52 (by decide +kernel) rfl, ⟨by decide +kernel, by decide +kernel⟩, by decide +kernel⟩
theorem cal7_init : CalM M7_init 0 := ⟨by decide, tb_of 655 (by decide +kernel) rfl, tb_of 59 (by decide +kernel) rfl, ⟨by decide +kernel, by decide +kernel⟩, by decide +kernel⟩
theorem ci4_37 : CfI RX4 M0_init 37 1 := ⟨cal0_init, rfl, rfl, tb_of 81 (by decide +kernel) rfl, Or.inl (tb_of 80 (by decide +kernel) rfl)⟩
theorem ci4_40 : CfI RX4 M2_init 40 0 := ⟨cal2_init, rfl, rfl, tb_of 135 (by decide +kernel) rfl, Or.inr ⟨RX6, List.mem_of_getElem? (i := 0) rfl⟩⟩
theorem ci6_11 : CfI RX6 M4_init 11 0 := ⟨cal4_init, rfl, rfl, tb_of 72 (by decide +kernel) rfl, Or.inl (tb_of 71 (by decide +kernel) rfl)⟩
theorem ci6_21 : CfI RX6 M2_init 21 0 := ⟨cal2_init, rfl, rfl, tb_of 135 (by decide +kernel) rfl, Or.inr ⟨RX6, List.mem_of_getElem? (i := 1) rfl⟩⟩
theorem ci6_32 : CfI RX6 M3_init 32 0 := ⟨cal3_init, rfl, rfl, tb_of 215 (by decide +kernel) rfl, Or.inr ⟨RX6, List.mem_of_getElem? (i := 2) rfl⟩⟩
theorem ci6_39 : CfI RX6 M1_init 39 0 := ⟨cal1_init, rfl, rfl, tb_of 230 (by decide +kernel) rfl, Or.inl (tb_of 229 (by decide +kernel) rfl)⟩
theorem ci6_46 : CfI RX6 M5_init 46 0 := ⟨cal5_init, rfl, rfl, tb_of 250 (by decide +kernel) rfl, Or.inl (tb_of 249 (by decide +kernel) rfl)⟩
theorem ci1_17 : CfI RX1 M4_init 17 0 := ⟨cal4_init, rfl, rfl, tb_of 72 (by decide +kernel) rfl, Or.inl (tb_of 235 (by decide +kernel) rfl)⟩
theorem ci5_21 : CfI RX5 M4_init 21 0 := ⟨cal4_init, rfl, rfl, tb_of 72 (by decide +kernel) rfl, Or.inl (tb_of 254 (by decide +kernel) rfl)⟩
theorem ciL_9 : CfI RL M6_init 9 0 := ⟨cal6_init, rfl, rfl, tb_of 64 (by decide +kernel) rfl, Or.inl (tb_of 63 (by decide +kernel) rfl)⟩
theorem ciL_12 : CfI RL M7_init 12 0 := ⟨cal7_init, rfl, rfl, tb_of 654 (by decide +kernel) rfl, Or.inl (tb_of 653 (by decide +kernel) rfl)⟩
theorem oi_0 : Jvm.Cond.methodLink RX0 3 Lib.objectInit ∈ TB := tb_of 83 (by decide +kernel) rfl
theorem oi_1 : Jvm.Cond.methodLink RX1 3 Lib.objectInit ∈ TB := tb_of 232 (by decide +kernel) rfl
theorem oi_2 : Jvm.Cond.methodLink RX2 3 Lib.objectInit ∈ TB := tb_of 137 (by decide +kernel) rfl
theorem oi_3 : Jvm.Cond.methodLink RX3 3 Lib.objectInit ∈ TB := tb_of 217 (by decide +kernel) rfl
theorem oi_4 : Jvm.Cond.methodLink RX4 3 Lib.objectInit ∈ TB := tb_of 74 (by decide +kernel) rfl
theorem oi_5 : Jvm.Cond.methodLink RX5 3 Lib.objectInit ∈ TB := tb_of 252 (by decide +kernel) rfl
theorem oi_6 : Jvm.Cond.methodLink RX6 3 Lib.objectInit ∈ TB := tb_of 66 (by decide +kernel) rfl
theorem oi_7 : Jvm.Cond.methodLink RX7 1 Lib.objectInit ∈ TB := tb_of 656 (by decide +kernel) rfl
theorem oi_i : Jvm.Cond.instanceMethod Lib.objectInit ∈ TB := tb_of 67 (by decide +kernel) rfl
theorem oi_c : Jvm.Cond.code Lib.objectInit ⟨#[0xb1]⟩ 1 none ∈ TB := tb_of 68 (by decide +kernel) rfl
theorem acI : Jvm.Cond.arrayClass .int ∈ TB := tb_of 132 (by decide +kernel) rfl
theorem acC : Jvm.Cond.arrayClass .char ∈ TB := tb_of 226 (by decide +kernel) rfl
theorem acB : Jvm.Cond.arrayClass .boolean ∈ TB := tb_of 262 (by decide +kernel) rfl
theorem fin0_9 : FinF RX0 9 5 0 .int := ⟨0, RX0, TX0, cls0, by decide, tb_of 84 (by decide +kernel) rfl, rfl, rfl, rfl, by decide +kernel⟩
theorem fin1_11 : FinF RX1 11 11 0 (.array (.object RX4)) := ⟨1, RX1, TX1, cls1, by decide, tb_of 236 (by decide +kernel) rfl, rfl, rfl, rfl, by decide +kernel⟩
theorem fin3_9 : FinF RX3 9 9 0 (.array .char) := ⟨3, RX3, TX3, cls3, by decide, tb_of 218 (by decide +kernel) rfl, rfl, rfl, rfl, by decide +kernel⟩
theorem fin4_11 : FinF RX4 11 0 0 (.array (.object RX0)) := ⟨4, RX4, TX4, cls4, by decide, tb_of 176 (by decide +kernel) rfl, rfl, rfl, rfl, by decide +kernel⟩
theorem fin4_19 : FinF RX4 19 0 1 (.array (.object RX2)) := ⟨4, RX4, TX4, cls4, by decide, tb_of 177 (by decide +kernel) rfl, rfl, rfl, rfl, by decide +kernel⟩
theorem fin4_23 : FinF RX4 23 0 2 (.array .int) := ⟨4, RX4, TX4, cls4, by decide, tb_of 178 (by decide +kernel) rfl, rfl, rfl, rfl, by decide +kernel⟩
theorem fin4_27 : FinF RX4 27 0 3 (.array (.object RX0)) := ⟨4, RX4, TX4, cls4, by decide, tb_of 179 (by decide +kernel) rfl, rfl, rfl, rfl, by decide +kernel⟩
theorem fin5_11 : FinF RX5 11 13 0 (.array (.object RX4)) := ⟨5, RX5, TX5, cls5, by decide, tb_of 255 (by decide +kernel) rfl, rfl, rfl, rfl, by decide +kernel⟩
theorem fin5_17 : FinF RX5 17 13 1 (.array .boolean) := ⟨5, RX5, TX5, cls5, by decide, tb_of 256 (by decide +kernel) rfl, rfl, rfl, rfl, by decide +kernel⟩
theorem fin6_12 : FinF RX6 12 7 0 (.object RX4) := ⟨6, RX6, TX6, cls6, by decide, tb_of 263 (by decide +kernel) rfl, rfl, rfl, rfl, by decide +kernel⟩
theorem fin6_16 : FinF RX6 16 7 1 (.object RX4) := ⟨6, RX6, TX6, cls6, by decide, tb_of 264 (by decide +kernel) rfl, rfl, rfl, rfl, by decide +kernel⟩
theorem fin6_22 : FinF RX6 22 7 2 (.object RX2) := ⟨6, RX6, TX6, cls6, by decide, tb_of 265 (by decide +kernel) rfl, rfl, rfl, rfl, by decide +kernel⟩
theorem fin6_26 : FinF RX6 26 7 3 (.array .int) := ⟨6, RX6, TX6, cls6, by decide, tb_of 266 (by decide +kernel) rfl, rfl, rfl, rfl, by decide +kernel⟩
theorem fin6_33 : FinF RX6 33 7 4 (.object RX3) := ⟨6, RX6, TX6, cls6, by decide, tb_of 267 (by decide +kernel) rfl, rfl, rfl, rfl, by decide +kernel⟩
theorem fin6_40 : FinF RX6 40 7 5 (.object RX1) := ⟨6, RX6, TX6, cls6, by decide, tb_of 268 (by decide +kernel) rfl, rfl, rfl, rfl, by decide +kernel⟩
theorem fin6_47 : FinF RX6 47 7 6 (.object RX5) := ⟨6, RX6, TX6, cls6, by decide, tb_of 269 (by decide +kernel) rfl, rfl, rfl, rfl, by decide +kernel⟩
theorem fin7_7 : FinF RX7 7 20 0 (.array .int) := ⟨7, RX7, TX7, cls7, by decide, tb_of 657 (by decide +kernel) rfl, rfl, rfl, rfl, by decide +kernel⟩
theorem fin7_13 : FinF RX7 13 20 1 (.array .int) := ⟨7, RX7, TX7, cls7, by decide, tb_of 658 (by decide +kernel) rfl, rfl, rfl, rfl, by decide +kernel⟩
theorem fin7_16 : FinF RX7 16 20 2 (.array .int) := ⟨7, RX7, TX7, cls7, by decide, tb_of 659 (by decide +kernel) rfl, rfl, rfl, rfl, by decide +kernel⟩
theorem fin7_19 : FinF RX7 19 20 4 (.array .int) := ⟨7, RX7, TX7, cls7, by decide, tb_of 661 (by decide +kernel) rfl, rfl, rfl, rfl, by decide +kernel⟩
theorem fin7_22 : FinF RX7 22 20 5 (.array .boolean) := ⟨7, RX7, TX7, cls7, by decide, tb_of 662 (by decide +kernel) rfl, rfl, rfl, rfl, by decide +kernel⟩
theorem fin7_26 : FinF RX7 26 20 6 (.array .int) := ⟨7, RX7, TX7, cls7, by decide, tb_of 663 (by decide +kernel) rfl, rfl, rfl, rfl, by decide +kernel⟩
theorem fin7_29 : FinF RX7 29 20 9 (.array .int) := ⟨7, RX7, TX7, cls7, by decide, tb_of 666 (by decide +kernel) rfl, rfl, rfl, rfl, by decide +kernel⟩
theorem fin7_32 : FinF RX7 32 20 10 (.array .int) := ⟨7, RX7, TX7, cls7, by decide, tb_of 667 (by decide +kernel) rfl, rfl, rfl, rfl, by decide +kernel⟩
theorem fin7_35 : FinF RX7 35 20 11 (.array .int) := ⟨7, RX7, TX7, cls7, by decide, tb_of 668 (by decide +kernel) rfl, rfl, rfl, rfl, by decide +kernel⟩
theorem zok0 : ∀ j, j < 11 → ∀ N, cv (aN N) (zV (tyX0 j)) = defaultValue (tyX0 j) := by
  intro j hj N
  unfold tyX0
  split <;> rfl
theorem zok1 : ∀ j, j < 3 → ∀ N, cv (aN N) (zV (tyX1 j)) = defaultValue (tyX1 j) := by
  intro j hj N
  unfold tyX1
  split <;> rfl
theorem zok2 : ∀ j, j < 9 → ∀ N, cv (aN N) (zV (tyX2 j)) = defaultValue (tyX2 j) := by
  intro j hj N
  unfold tyX2
  split <;> rfl
theorem zok3 : ∀ j, j < 2 → ∀ N, cv (aN N) (zV (tyX3 j)) = defaultValue (tyX3 j) := by
  intro j hj N
  unfold tyX3
  split <;> rfl
theorem zok4 : ∀ j, j < 9 → ∀ N, cv (aN N) (zV (tyX4 j)) = defaultValue (tyX4 j) := by
  intro j hj N
  unfold tyX4
  split <;> rfl
theorem zok5 : ∀ j, j < 2 → ∀ N, cv (aN N) (zV (tyX5 j)) = defaultValue (tyX5 j) := by
  intro j hj N
  unfold tyX5
  split <;> rfl
theorem zok6 : ∀ j, j < 7 → ∀ N, cv (aN N) (zV (tyX6 j)) = defaultValue (tyX6 j) := by
  intro j hj N
  unfold tyX6
  split <;> rfl
theorem zok7 : ∀ j, j < 15 → ∀ N, cv (aN N) (zV (tyX7 j)) = defaultValue (tyX7 j) := by
  intro j hj N
  unfold tyX7
  split <;> rfl
abbrev rf (q : Nat) : mW := .inr (.inr (some (0, 0, q)))
theorem n0_init {q : Nat} {x : Int32} {h : nH} {K : nH → Prop} (hq : q < h.2) (hk : (h.1 q).1 = .inl 0) (kk : K (nSet h q 0 (vI x))) : nE M0_init (0, 0) 0 (l0M M0_init [rf q, .inl x]) [] h 0 0 K := by
  refine nE.aload_n (q := q) dX0_init_0 rfl ?_
  refine nE.oinit dX0_init_1 oi_0 oi_i oi_c ⟨by decide, by decide⟩ ?_
  refine nE.aload_n (q := q) dX0_init_4 rfl ?_
  refine nE.iload_n (x := x) dX0_init_5 rfl ?_
  refine nE.putF (w := .inl x) dX0_init_6 fin0_9 rfl hq hk (fun _ => rfl) (fun _ => rfl) ?_
  exact nE.vret dX0_init_9 rfl (Nat.le_refl _) (Nat.le_refl _) kk
theorem n2_init {q : Nat} {h : nH} {K : nH → Prop} (kk : K h) : nE M2_init (0, 0) 0 (l0M M2_init [rf q]) [] h 0 0 K := by
  refine nE.aload_n (q := q) dX2_init_0 rfl ?_
  refine nE.oinit dX2_init_1 oi_2 oi_i oi_c ⟨by decide, by decide⟩ ?_
  exact nE.vret dX2_init_4 rfl (Nat.le_refl _) (Nat.le_refl _) kk
theorem n3_init {q : Nat} {h : nH} {K : nH → Prop} (hq : q < h.2) (hk : (h.1 q).1 = .inl 3) (kk : K (nSet (nPush h (.inr (.char, 60), fun _ => vI 0)) q 0 (vQ h.2))) : nE M3_init (1, 60) 0 (l0M M3_init [rf q]) [] h 0 0 K := by
  refine nE.aload_n (q := q) dX3_init_0 rfl ?_
  refine nE.oinit dX3_init_1 oi_3 oi_i oi_c ⟨by decide, by decide⟩ ?_
  refine nE.aload_n (q := q) dX3_init_4 rfl ?_
  refine nE.bipush (v := 60) dX3_init_5 (by decide +kernel) ?_
  refine nE.newa (t := .char) (N := 60) dX3_init_7 rfl acC (fun _ => rfl) (by decide +kernel) (by decide +kernel) (Nat.le_of_ble_eq_true rfl) (Nat.le_of_ble_eq_true rfl) (Nat.le_of_ble_eq_true rfl) ?_
  refine nE.putF (w := rf h.2) dX3_init_9 fin3_9 rfl (Nat.lt_succ_of_lt hq) (by rw [nPush_ne (Nat.ne_of_lt hq)]; exact hk) (fun _ => rfl) (fun _ => rfl) ?_
  exact nE.vret dX3_init_12 rfl (Nat.le_refl _) (Nat.le_refl _) kk
