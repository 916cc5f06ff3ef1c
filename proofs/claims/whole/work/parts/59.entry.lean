/-! what the tables say at the law's entry -/
theorem cls_ex {s : State} {args : Array Value} (hts : ∀ w ∈ lw_tbl, w.before args s = true) : ∀ ci : Nat, ∃ p : ClassId × (Nat → Nat), ∀ q : vw_C, vwCl[ci]? = some q → u_Kn s q.1 q.2.1 q.2.2 p.1 p.2 := by
  intro ci
  have K : ∀ {k : Nat} {C : String} {T : u_T}, ClsF k ci C T → Jvm.Cond.instantiable C (kz k) ∈ TB → ∃ p : ClassId × (Nat → Nat), ∀ q : vw_C, vwCl[ci]? = some q → u_Kn s q.1 q.2.1 q.2.2 p.1 p.2 := by
    intro k C T F hi
    obtain ⟨-, hvc, hws, -⟩ := F
    obtain ⟨cC, iS, h⟩ := u_known (C := C) (T := T) (N := kz k) (n := kz k) hts (fun w hw => tb_tbl (hws w hw)) (hts _ (tb_tbl hi))
    exact ⟨(cC, iS), fun q hq => by cases hvc.symm.trans hq; exact h⟩
  by_cases h : ci < 8
  · rcases (show ci = 0 ∨ ci = 1 ∨ ci = 2 ∨ ci = 3 ∨ ci = 4 ∨ ci = 5 ∨ ci = 6 ∨ ci = 7 by omega) with rfl | rfl | rfl | rfl | rfl | rfl | rfl | rfl
    · exact K cls0 (tb_of 79 (by decide +kernel) rfl)
    · exact K cls1 (tb_of 228 (by decide +kernel) rfl)
    · exact K cls2 (tb_of 133 (by decide +kernel) rfl)
    · exact K cls3 (tb_of 213 (by decide +kernel) rfl)
    · exact K cls4 (tb_of 70 (by decide +kernel) rfl)
    · exact K cls5 (tb_of 248 (by decide +kernel) rfl)
    · exact K cls6 (tb_of 62 (by decide +kernel) rfl)
    · exact K cls7 (tb_of 652 (by decide +kernel) rfl)
  · refine ⟨(0, fun _ => 0), fun q hq => ?_⟩
    have hq2 : ci < vwCl.length := (List.getElem?_eq_some_iff.mp hq).1
    exact absurd hq2 h
def cA0 (s : State) (t : FieldType) : ClassId := (s.vm.findClass ("[" ++ t.toString)).getD 0
theorem arr_p {s : State} {args : Array Value} {t : FieldType} (h : (Jvm.Cond.arrayClass t).before args s = true) : ArrOfT s (cA0 s t) t ∧ s.vm.findClass ("[" ++ t.toString) = some (cA0 s t) := by
  obtain ⟨c, k, comp, h1, h2, h3⟩ := Cond.arrayClass_spec h
  have e : cA0 s t = c := by
    unfold cA0
    rw [h1]
    rfl
  rw [e]
  exact ⟨fun n z => ⟨fun _ h => (by cases h), k, h2, comp, h3⟩, h1⟩
theorem arr_o {s : State} {C : String} (h : va_AO C s) : ArrOfT s (cA0 s (.object C)) (.object C) ∧ va_RA s (cA0 s (.object C)) (.object C) := by
  obtain ⟨comp, c, k, h1, h2, h3, h4, h5⟩ := Cond.arrayOver_spec h
  have e : cA0 s (.object C) = c := by
    unfold cA0
    rw [h5]
    rfl
  rw [e]
  exact ⟨fun n z => ⟨fun _ h => (by cases h), k, h3, comp, h4⟩, k, comp, h3, h4, h1, h5⟩
theorem ao_entry {s : State} {args : Array Value} (hts : ∀ w ∈ lw_tbl, w.before args s = true) : ∀ C, C = RX0 ∨ C = RX2 ∨ C = RX4 → va_AO C s := by
  intro C hC
  rcases hC with rfl | rfl | rfl
  · exact va_AO.of (hts _ (List.mem_of_getElem? (i := 76) (by decide +kernel)))
  · exact va_AO.of (hts _ (List.mem_of_getElem? (i := 78) (by decide +kernel)))
  · exact va_AO.of (hts _ (List.mem_of_getElem? (i := 234) (by decide +kernel)))
theorem kn_entry {s : State} {args : Array Value} (hts : ∀ w ∈ lw_tbl, w.before args s = true) (N : Nat) : ∃ (dC : Nat → ClassId) (dI : Nat → Nat → Nat), nKn (N, cA0 s, dC, dI) s := by
  have H := cls_ex hts
  refine ⟨fun ci => (Classical.choose (H ci)).1, fun ci => (Classical.choose (H ci)).2, fun ci q hq => Classical.choose_spec (H ci) q hq, fun t a h => ?_, fun t ht => ?_, fun w hw => ?_, ao_entry hts⟩
  · show a = cA0 s t
    unfold cA0
    rw [h]
    rfl
  · simp only [ATs, List.mem_cons, List.not_mem_nil, or_false] at ht
    rcases ht with rfl | rfl | rfl | rfl | rfl | rfl
    · exact arr_p (hts _ (tb_tbl acI))
    · exact arr_p (hts _ (tb_tbl acC))
    · exact arr_p (hts _ (tb_tbl acB))
    · exact arr_o (ao_entry hts _ (Or.inl rfl))
    · exact arr_o (ao_entry hts _ (Or.inr (Or.inl rfl)))
    · exact arr_o (ao_entry hts _ (Or.inr (Or.inr rfl)))
  · simp only [NWI, List.mem_cons, List.not_mem_nil, or_false] at hw
    rcases hw with rfl | rfl | rfl
    · exact va_Nw.of rfl (hts _ (List.mem_of_getElem? (i := 134) (by decide +kernel)))
    · exact va_Nw.of rfl (hts _ (List.mem_of_getElem? (i := 211) (by decide +kernel)))
    · exact va_Nw.of rfl (hts _ (List.mem_of_getElem? (i := 214) (by decide +kernel)))
theorem nw_entry {s : State} {args : Array Value} (hts : ∀ w ∈ lw_tbl, w.before args s = true) : ∀ w ∈ NW, va_Nw w s := by
  intro w hw
  simp only [NW, List.mem_cons, List.not_mem_nil, or_false] at hw
  rcases hw with rfl | rfl | rfl | rfl
  · exact va_Nw.of rfl (hts _ (List.mem_of_getElem? (i := 576) (by decide +kernel)))
  · exact va_Nw.of rfl (hts _ (List.mem_of_getElem? (i := 321) (by decide +kernel)))
  · exact va_Nw.of rfl (hts _ (List.mem_of_getElem? (i := 343) (by decide +kernel)))
  · exact va_Nw.of rfl (hts _ (List.mem_of_getElem? (i := 411) (by decide +kernel)))
/-! the law: its end, what holds at its entry (the skeleton's rows) -/
def R_law : String := "LoopListenersLaw"
def lw_P (b : Addr) (xs : List Int32) (args : Array Value) (s : State) : Prop := args = #[.ref b] ∧ s.IntsAt b xs ∧ xs.length ≤ 3072 ∧ (Jvm.Cond.and given_1 narrow_1).before args s = true
def lw_Q (_ : Array Value) (s : State) (o : Outcome) (t : State) : Prop := o = .returned (some (.int 1)) ∧ Framed s o t [] 600000 7302250
def lw_Z (below : List Frame) (a : Array Value) (s : State) : State → Prop := fun t => ∃ o, t.status = .running ∧ Ended t below o ∧ lw_Q a s o t
/-- the law's own end, with 1 on the stack, nothing written that was there before, its room as the claim has it -/
theorem lw_ret {p : Program} {l : Launch} {e : Env} {s : State} {m : MethodId} {below : List Frame} {meth : Method} {c : Code} {b : Nat} (hx : p.tables.exec = Jvm.exec) (hb : c.code = code) (hr : meth.sig.returnType = ret) (hlocks : meth.locks = false) {pc : Nat} {H : Heap} {ls : Array Slot} (hdg : decode code pc = .ok (.ireturn, 1)) : W p l e room_1 s m #[Value.ref b] below meth c H [] 600000 7302250 (lw_Z below #[Value.ref b] s) (F0 m pc ls [.int 1]) := by
  intro T hT X
  obtain ⟨fs, hret, hrun, hended, hW, hframe⟩ := X.leave (v := some (.int 1)) (hlocks := hlocks) (fun h => by rw [hr] at h; cases h)
  have hmeth' : T.vm.method? m = some meth := X.method'
  refine ⟨T.setFrames fs, ?_, .returned (some (.int 1)), hrun, hended, rfl, ⟨_, rfl⟩, hW, hframe⟩
  jvm_step X.here [X.here.top, hx, hb, hdg, hmeth', hr, ret, narrow_b1]
  (try refine ⟨rfl, ?_⟩); (try refine ⟨rfl, ?_⟩)
  first | (intro acts; rw [hret _ acts rfl rfl rfl]) | rw [hret _ _ rfl rfl rfl]
  exact Steps.refl _
/-- what holds at the law's entry: the machine, the code, the tables' words (any of lw_tbl by 'hts w (by decide +kernel)'), the script of L ints xs at the cell b, what the Statement gives of the start (any of its parts by flat_of_before) -/
def lw_At (p : Program) (s : State) (m : MethodId) (meth : Method) (c : Code) (b L : Nat) (xs : Nat → Int32) : Prop :=
  p.tables.exec = Jvm.exec ∧ c.code = code ∧ meth.sig.returnType = ret ∧ c.maxLocals = 4 ∧ s.vm.findClass R_law = some m.cls ∧ (∀ w ∈ lw_tbl, w.before #[Value.ref b] s = true) ∧ va_X b L xs s s.heap ∧ b < s.heap.size ∧ meth.locks = false ∧ (Jvm.Cond.and given_1 narrow_1).before #[Value.ref b] s = true
