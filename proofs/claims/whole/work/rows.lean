section
-- ===== PART A: goes FIRST, ahead of the names: the tables' words, and 'selects' of the private methods out of them =====
/-- a private method of a class that the tables say can be made, by its rows of tables_1 -/
def lw_okq (q : MethodName × Nat) : Prop := (q.1.cls ≠ "java/lang/invoke/MethodHandle" ∧ q.1.cls ≠ "java/lang/invoke/VarHandle") ∧ Cond.instantiable q.1.cls q.2 ∈ tables_1 ∧ Cond.privateMethod q.1 ∈ tables_1 ∧ Cond.instanceMethod q.1 ∈ tables_1
theorem lw_p0 : lw_okq (⟨"LoopListeners$History", "notedState", "()LLoopListeners$Road;"⟩, 3) := ⟨⟨by decide +kernel, by decide +kernel⟩, List.mem_of_getElem? (i := 177) (by decide +kernel), List.mem_of_getElem? (i := 243) (by decide +kernel), List.mem_of_getElem? (i := 244) (by decide +kernel)⟩
theorem lw_p1 : lw_okq (⟨"LoopListeners", "recorded", "(I)I"⟩, 7) := ⟨⟨by decide +kernel, by decide +kernel⟩, List.mem_of_getElem? (i := 11) (by decide +kernel), List.mem_of_getElem? (i := 274) (by decide +kernel), List.mem_of_getElem? (i := 275) (by decide +kernel)⟩
theorem lw_p2 : lw_okq (⟨"LoopListeners$Road", "markCarsOver", "(LLoopListeners$Loop;I)V"⟩, 9) := ⟨⟨by decide +kernel, by decide +kernel⟩, List.mem_of_getElem? (i := 19) (by decide +kernel), List.mem_of_getElem? (i := 301) (by decide +kernel), List.mem_of_getElem? (i := 302) (by decide +kernel)⟩
theorem lw_p3 : lw_okq (⟨"LoopListeners$Road", "take", "(III)V"⟩, 9) := ⟨⟨by decide +kernel, by decide +kernel⟩, List.mem_of_getElem? (i := 19) (by decide +kernel), List.mem_of_getElem? (i := 333) (by decide +kernel), List.mem_of_getElem? (i := 334) (by decide +kernel)⟩
theorem lw_p4 : lw_okq (⟨"LoopListeners$Road", "orderMovers", "()I"⟩, 9) := ⟨⟨by decide +kernel, by decide +kernel⟩, List.mem_of_getElem? (i := 19) (by decide +kernel), List.mem_of_getElem? (i := 372) (by decide +kernel), List.mem_of_getElem? (i := 373) (by decide +kernel)⟩
theorem lw_p5 : lw_okq (⟨"LoopListeners$Road", "insertMover", "(LLoopListeners$Car;I)V"⟩, 9) := ⟨⟨by decide +kernel, by decide +kernel⟩, List.mem_of_getElem? (i := 19) (by decide +kernel), List.mem_of_getElem? (i := 376) (by decide +kernel), List.mem_of_getElem? (i := 377) (by decide +kernel)⟩
theorem lw_p6 : lw_okq (⟨"LoopListeners$Road", "moveCar", "(LLoopListeners$Car;)V"⟩, 9) := ⟨⟨by decide +kernel, by decide +kernel⟩, List.mem_of_getElem? (i := 19) (by decide +kernel), List.mem_of_getElem? (i := 380) (by decide +kernel), List.mem_of_getElem? (i := 381) (by decide +kernel)⟩
theorem lw_p7 : lw_okq (⟨"LoopListeners$Road", "isFreeBeside", "(LLoopListeners$Car;)Z"⟩, 9) := ⟨⟨by decide +kernel, by decide +kernel⟩, List.mem_of_getElem? (i := 19) (by decide +kernel), List.mem_of_getElem? (i := 384) (by decide +kernel), List.mem_of_getElem? (i := 385) (by decide +kernel)⟩
theorem lw_p8 : lw_okq (⟨"LoopListeners$Road", "changeLane", "(LLoopListeners$Car;)V"⟩, 9) := ⟨⟨by decide +kernel, by decide +kernel⟩, List.mem_of_getElem? (i := 19) (by decide +kernel), List.mem_of_getElem? (i := 392) (by decide +kernel), List.mem_of_getElem? (i := 393) (by decide +kernel)⟩
theorem lw_p9 : lw_okq (⟨"LoopListeners$Road", "notePassings", "()V"⟩, 9) := ⟨⟨by decide +kernel, by decide +kernel⟩, List.mem_of_getElem? (i := 19) (by decide +kernel), List.mem_of_getElem? (i := 396) (by decide +kernel), List.mem_of_getElem? (i := 397) (by decide +kernel)⟩
theorem lw_p10 : lw_okq (⟨"LoopListeners$Road", "countPassings", "(I)V"⟩, 9) := ⟨⟨by decide +kernel, by decide +kernel⟩, List.mem_of_getElem? (i := 19) (by decide +kernel), List.mem_of_getElem? (i := 404) (by decide +kernel), List.mem_of_getElem? (i := 405) (by decide +kernel)⟩
theorem lw_p11 : lw_okq (⟨"LoopListeners$Road", "metalIn", "(ILLoopListeners$Loop;)I"⟩, 9) := ⟨⟨by decide +kernel, by decide +kernel⟩, List.mem_of_getElem? (i := 19) (by decide +kernel), List.mem_of_getElem? (i := 412) (by decide +kernel), List.mem_of_getElem? (i := 413) (by decide +kernel)⟩
theorem lw_p12 : lw_okq (⟨"LoopListeners", "hearTrial", "(ILLoopListeners$Loop;I)I"⟩, 7) := ⟨⟨by decide +kernel, by decide +kernel⟩, List.mem_of_getElem? (i := 11) (by decide +kernel), List.mem_of_getElem? (i := 486) (by decide +kernel), List.mem_of_getElem? (i := 487) (by decide +kernel)⟩
theorem lw_p13 : lw_okq (⟨"LoopListeners", "countedWith", "(LLoopListeners$Loop;II)I"⟩, 7) := ⟨⟨by decide +kernel, by decide +kernel⟩, List.mem_of_getElem? (i := 11) (by decide +kernel), List.mem_of_getElem? (i := 491) (by decide +kernel), List.mem_of_getElem? (i := 492) (by decide +kernel)⟩
theorem lw_p14 : lw_okq (⟨"LoopListeners", "obey", "(I)I"⟩, 7) := ⟨⟨by decide +kernel, by decide +kernel⟩, List.mem_of_getElem? (i := 11) (by decide +kernel), List.mem_of_getElem? (i := 558) (by decide +kernel), List.mem_of_getElem? (i := 559) (by decide +kernel)⟩
theorem lw_p15 : lw_okq (⟨"LoopListeners$Slots", "isSlot", "(I)Z"⟩, 2) := ⟨⟨by decide +kernel, by decide +kernel⟩, List.mem_of_getElem? (i := 197) (by decide +kernel), List.mem_of_getElem? (i := 588) (by decide +kernel), List.mem_of_getElem? (i := 589) (by decide +kernel)⟩
def lw_privs_1 : List (MethodName × Nat) := [(⟨"LoopListeners$History", "notedState", "()LLoopListeners$Road;"⟩, 3), (⟨"LoopListeners", "recorded", "(I)I"⟩, 7), (⟨"LoopListeners$Road", "markCarsOver", "(LLoopListeners$Loop;I)V"⟩, 9), (⟨"LoopListeners$Road", "take", "(III)V"⟩, 9), (⟨"LoopListeners$Road", "orderMovers", "()I"⟩, 9), (⟨"LoopListeners$Road", "insertMover", "(LLoopListeners$Car;I)V"⟩, 9), (⟨"LoopListeners$Road", "moveCar", "(LLoopListeners$Car;)V"⟩, 9), (⟨"LoopListeners$Road", "isFreeBeside", "(LLoopListeners$Car;)Z"⟩, 9), (⟨"LoopListeners$Road", "changeLane", "(LLoopListeners$Car;)V"⟩, 9), (⟨"LoopListeners$Road", "notePassings", "()V"⟩, 9), (⟨"LoopListeners$Road", "countPassings", "(I)V"⟩, 9), (⟨"LoopListeners$Road", "metalIn", "(ILLoopListeners$Loop;)I"⟩, 9), (⟨"LoopListeners", "hearTrial", "(ILLoopListeners$Loop;I)I"⟩, 7), (⟨"LoopListeners", "countedWith", "(LLoopListeners$Loop;II)I"⟩, 7), (⟨"LoopListeners", "obey", "(I)I"⟩, 7), (⟨"LoopListeners$Slots", "isSlot", "(I)Z"⟩, 2)]
theorem lw_r1 : ∀ q ∈ lw_privs_1, lw_okq q := List.forall_mem_cons.mpr ⟨lw_p0, List.forall_mem_cons.mpr ⟨lw_p1, List.forall_mem_cons.mpr ⟨lw_p2, List.forall_mem_cons.mpr ⟨lw_p3, List.forall_mem_cons.mpr ⟨lw_p4, List.forall_mem_cons.mpr ⟨lw_p5, List.forall_mem_cons.mpr ⟨lw_p6, List.forall_mem_cons.mpr ⟨lw_p7, List.forall_mem_cons.mpr ⟨lw_p8, List.forall_mem_cons.mpr ⟨lw_p9, List.forall_mem_cons.mpr ⟨lw_p10, List.forall_mem_cons.mpr ⟨lw_p11, List.forall_mem_cons.mpr ⟨lw_p12, List.forall_mem_cons.mpr ⟨lw_p13, List.forall_mem_cons.mpr ⟨lw_p14, List.forall_mem_cons.mpr ⟨lw_p15, fun _ h => absurd h List.not_mem_nil⟩⟩⟩⟩⟩⟩⟩⟩⟩⟩⟩⟩⟩⟩⟩⟩
theorem lw_p16 : lw_okq (⟨"LoopListenersModel", "record", "()V"⟩, 15) := ⟨⟨by decide +kernel, by decide +kernel⟩, List.mem_of_getElem? (i := 601) (by decide +kernel), List.mem_of_getElem? (i := 660) (by decide +kernel), List.mem_of_getElem? (i := 661) (by decide +kernel)⟩
theorem lw_p17 : lw_okq (⟨"LoopListenersModel", "bookL", "(III)V"⟩, 15) := ⟨⟨by decide +kernel, by decide +kernel⟩, List.mem_of_getElem? (i := 601) (by decide +kernel), List.mem_of_getElem? (i := 671) (by decide +kernel), List.mem_of_getElem? (i := 672) (by decide +kernel)⟩
theorem lw_p18 : lw_okq (⟨"LoopListenersModel", "ofC", "(II)I"⟩, 15) := ⟨⟨by decide +kernel, by decide +kernel⟩, List.mem_of_getElem? (i := 601) (by decide +kernel), List.mem_of_getElem? (i := 675) (by decide +kernel), List.mem_of_getElem? (i := 676) (by decide +kernel)⟩
theorem lw_p19 : lw_okq (⟨"LoopListenersModel", "isOver", "(II)Z"⟩, 15) := ⟨⟨by decide +kernel, by decide +kernel⟩, List.mem_of_getElem? (i := 601) (by decide +kernel), List.mem_of_getElem? (i := 679) (by decide +kernel), List.mem_of_getElem? (i := 680) (by decide +kernel)⟩
theorem lw_p20 : lw_okq (⟨"LoopListenersModel", "ofL", "(II)I"⟩, 15) := ⟨⟨by decide +kernel, by decide +kernel⟩, List.mem_of_getElem? (i := 601) (by decide +kernel), List.mem_of_getElem? (i := 683) (by decide +kernel), List.mem_of_getElem? (i := 684) (by decide +kernel)⟩
theorem lw_p21 : lw_okq (⟨"LoopListenersModel", "isOn", "(I)Z"⟩, 15) := ⟨⟨by decide +kernel, by decide +kernel⟩, List.mem_of_getElem? (i := 601) (by decide +kernel), List.mem_of_getElem? (i := 687) (by decide +kernel), List.mem_of_getElem? (i := 688) (by decide +kernel)⟩
theorem lw_p22 : lw_okq (⟨"LoopListenersModel", "lastCell", "(I)I"⟩, 15) := ⟨⟨by decide +kernel, by decide +kernel⟩, List.mem_of_getElem? (i := 601) (by decide +kernel), List.mem_of_getElem? (i := 691) (by decide +kernel), List.mem_of_getElem? (i := 692) (by decide +kernel)⟩
theorem lw_p23 : lw_okq (⟨"LoopListenersModel", "bookC", "(III)V"⟩, 15) := ⟨⟨by decide +kernel, by decide +kernel⟩, List.mem_of_getElem? (i := 601) (by decide +kernel), List.mem_of_getElem? (i := 695) (by decide +kernel), List.mem_of_getElem? (i := 696) (by decide +kernel)⟩
theorem lw_p24 : lw_okq (⟨"LoopListenersModel", "isLoop", "(I)Z"⟩, 15) := ⟨⟨by decide +kernel, by decide +kernel⟩, List.mem_of_getElem? (i := 601) (by decide +kernel), List.mem_of_getElem? (i := 703) (by decide +kernel), List.mem_of_getElem? (i := 704) (by decide +kernel)⟩
theorem lw_p25 : lw_okq (⟨"LoopListenersModel", "layCells", "()V"⟩, 15) := ⟨⟨by decide +kernel, by decide +kernel⟩, List.mem_of_getElem? (i := 601) (by decide +kernel), List.mem_of_getElem? (i := 711) (by decide +kernel), List.mem_of_getElem? (i := 712) (by decide +kernel)⟩
theorem lw_p26 : lw_okq (⟨"LoopListenersModel", "mark", "(II)V"⟩, 15) := ⟨⟨by decide +kernel, by decide +kernel⟩, List.mem_of_getElem? (i := 601) (by decide +kernel), List.mem_of_getElem? (i := 715) (by decide +kernel), List.mem_of_getElem? (i := 716) (by decide +kernel)⟩
theorem lw_p27 : lw_okq (⟨"LoopListenersModel", "isFree", "(II)Z"⟩, 15) := ⟨⟨by decide +kernel, by decide +kernel⟩, List.mem_of_getElem? (i := 601) (by decide +kernel), List.mem_of_getElem? (i := 719) (by decide +kernel), List.mem_of_getElem? (i := 720) (by decide +kernel)⟩
theorem lw_p28 : lw_okq (⟨"LoopListenersModel", "isCar", "(I)Z"⟩, 15) := ⟨⟨by decide +kernel, by decide +kernel⟩, List.mem_of_getElem? (i := 601) (by decide +kernel), List.mem_of_getElem? (i := 727) (by decide +kernel), List.mem_of_getElem? (i := 728) (by decide +kernel)⟩
theorem lw_p29 : lw_okq (⟨"LoopListenersModel", "pass", "(I)V"⟩, 15) := ⟨⟨by decide +kernel, by decide +kernel⟩, List.mem_of_getElem? (i := 601) (by decide +kernel), List.mem_of_getElem? (i := 739) (by decide +kernel), List.mem_of_getElem? (i := 740) (by decide +kernel)⟩
theorem lw_p30 : lw_okq (⟨"LoopListenersModel", "moveAll", "()V"⟩, 15) := ⟨⟨by decide +kernel, by decide +kernel⟩, List.mem_of_getElem? (i := 601) (by decide +kernel), List.mem_of_getElem? (i := 743) (by decide +kernel), List.mem_of_getElem? (i := 744) (by decide +kernel)⟩
theorem lw_p31 : lw_okq (⟨"LoopListenersModel", "move", "(I)V"⟩, 15) := ⟨⟨by decide +kernel, by decide +kernel⟩, List.mem_of_getElem? (i := 601) (by decide +kernel), List.mem_of_getElem? (i := 747) (by decide +kernel), List.mem_of_getElem? (i := 748) (by decide +kernel)⟩
def lw_privs_2 : List (MethodName × Nat) := [(⟨"LoopListenersModel", "record", "()V"⟩, 15), (⟨"LoopListenersModel", "bookL", "(III)V"⟩, 15), (⟨"LoopListenersModel", "ofC", "(II)I"⟩, 15), (⟨"LoopListenersModel", "isOver", "(II)Z"⟩, 15), (⟨"LoopListenersModel", "ofL", "(II)I"⟩, 15), (⟨"LoopListenersModel", "isOn", "(I)Z"⟩, 15), (⟨"LoopListenersModel", "lastCell", "(I)I"⟩, 15), (⟨"LoopListenersModel", "bookC", "(III)V"⟩, 15), (⟨"LoopListenersModel", "isLoop", "(I)Z"⟩, 15), (⟨"LoopListenersModel", "layCells", "()V"⟩, 15), (⟨"LoopListenersModel", "mark", "(II)V"⟩, 15), (⟨"LoopListenersModel", "isFree", "(II)Z"⟩, 15), (⟨"LoopListenersModel", "isCar", "(I)Z"⟩, 15), (⟨"LoopListenersModel", "pass", "(I)V"⟩, 15), (⟨"LoopListenersModel", "moveAll", "()V"⟩, 15), (⟨"LoopListenersModel", "move", "(I)V"⟩, 15)]
theorem lw_r2 : ∀ q ∈ lw_privs_2, lw_okq q := List.forall_mem_cons.mpr ⟨lw_p16, List.forall_mem_cons.mpr ⟨lw_p17, List.forall_mem_cons.mpr ⟨lw_p18, List.forall_mem_cons.mpr ⟨lw_p19, List.forall_mem_cons.mpr ⟨lw_p20, List.forall_mem_cons.mpr ⟨lw_p21, List.forall_mem_cons.mpr ⟨lw_p22, List.forall_mem_cons.mpr ⟨lw_p23, List.forall_mem_cons.mpr ⟨lw_p24, List.forall_mem_cons.mpr ⟨lw_p25, List.forall_mem_cons.mpr ⟨lw_p26, List.forall_mem_cons.mpr ⟨lw_p27, List.forall_mem_cons.mpr ⟨lw_p28, List.forall_mem_cons.mpr ⟨lw_p29, List.forall_mem_cons.mpr ⟨lw_p30, List.forall_mem_cons.mpr ⟨lw_p31, fun _ h => absurd h List.not_mem_nil⟩⟩⟩⟩⟩⟩⟩⟩⟩⟩⟩⟩⟩⟩⟩⟩
theorem lw_p32 : lw_okq (⟨"LoopListenersModel", "canChange", "(I)Z"⟩, 15) := ⟨⟨by decide +kernel, by decide +kernel⟩, List.mem_of_getElem? (i := 601) (by decide +kernel), List.mem_of_getElem? (i := 751) (by decide +kernel), List.mem_of_getElem? (i := 752) (by decide +kernel)⟩
theorem lw_p33 : lw_okq (⟨"LoopListenersModel", "passAll", "()V"⟩, 15) := ⟨⟨by decide +kernel, by decide +kernel⟩, List.mem_of_getElem? (i := 601) (by decide +kernel), List.mem_of_getElem? (i := 755) (by decide +kernel), List.mem_of_getElem? (i := 756) (by decide +kernel)⟩
theorem lw_p34 : lw_okq (⟨"LoopListenersModel", "overBy", "(I)I"⟩, 15) := ⟨⟨by decide +kernel, by decide +kernel⟩, List.mem_of_getElem? (i := 601) (by decide +kernel), List.mem_of_getElem? (i := 759) (by decide +kernel), List.mem_of_getElem? (i := 760) (by decide +kernel)⟩
theorem lw_p35 : lw_okq (⟨"LoopListenersModel", "listener", "()I"⟩, 15) := ⟨⟨by decide +kernel, by decide +kernel⟩, List.mem_of_getElem? (i := 601) (by decide +kernel), List.mem_of_getElem? (i := 763) (by decide +kernel), List.mem_of_getElem? (i := 764) (by decide +kernel)⟩
theorem lw_p36 : lw_okq (⟨"LoopListenersModel", "listen", "(I)V"⟩, 15) := ⟨⟨by decide +kernel, by decide +kernel⟩, List.mem_of_getElem? (i := 601) (by decide +kernel), List.mem_of_getElem? (i := 767) (by decide +kernel), List.mem_of_getElem? (i := 768) (by decide +kernel)⟩
theorem lw_p37 : lw_okq (⟨"LoopListenersModel", "strength", "(I)I"⟩, 15) := ⟨⟨by decide +kernel, by decide +kernel⟩, List.mem_of_getElem? (i := 601) (by decide +kernel), List.mem_of_getElem? (i := 771) (by decide +kernel), List.mem_of_getElem? (i := 772) (by decide +kernel)⟩
theorem lw_p38 : lw_okq (⟨"LoopListenersModel", "metal", "(II)I"⟩, 15) := ⟨⟨by decide +kernel, by decide +kernel⟩, List.mem_of_getElem? (i := 601) (by decide +kernel), List.mem_of_getElem? (i := 775) (by decide +kernel), List.mem_of_getElem? (i := 776) (by decide +kernel)⟩
theorem lw_p39 : lw_okq (⟨"LoopListenersModel", "errorOf", "(I)I"⟩, 15) := ⟨⟨by decide +kernel, by decide +kernel⟩, List.mem_of_getElem? (i := 601) (by decide +kernel), List.mem_of_getElem? (i := 791) (by decide +kernel), List.mem_of_getElem? (i := 792) (by decide +kernel)⟩
theorem lw_p40 : lw_okq (⟨"LoopListenersModel", "gone", "()I"⟩, 15) := ⟨⟨by decide +kernel, by decide +kernel⟩, List.mem_of_getElem? (i := 601) (by decide +kernel), List.mem_of_getElem? (i := 803) (by decide +kernel), List.mem_of_getElem? (i := 804) (by decide +kernel)⟩
theorem lw_p41 : lw_okq (⟨"LoopListenersModel", "sum", "(I)I"⟩, 15) := ⟨⟨by decide +kernel, by decide +kernel⟩, List.mem_of_getElem? (i := 601) (by decide +kernel), List.mem_of_getElem? (i := 807) (by decide +kernel), List.mem_of_getElem? (i := 808) (by decide +kernel)⟩
theorem lw_p42 : lw_okq (⟨"LoopListenersModel", "counted", "(III)I"⟩, 15) := ⟨⟨by decide +kernel, by decide +kernel⟩, List.mem_of_getElem? (i := 601) (by decide +kernel), List.mem_of_getElem? (i := 819) (by decide +kernel), List.mem_of_getElem? (i := 820) (by decide +kernel)⟩
theorem lw_p43 : lw_okq (⟨"LoopListenersModel", "keep", "()V"⟩, 15) := ⟨⟨by decide +kernel, by decide +kernel⟩, List.mem_of_getElem? (i := 601) (by decide +kernel), List.mem_of_getElem? (i := 823) (by decide +kernel), List.mem_of_getElem? (i := 824) (by decide +kernel)⟩
theorem lw_p44 : lw_okq (⟨"LoopListenersModel", "comeBack", "()V"⟩, 15) := ⟨⟨by decide +kernel, by decide +kernel⟩, List.mem_of_getElem? (i := 601) (by decide +kernel), List.mem_of_getElem? (i := 827) (by decide +kernel), List.mem_of_getElem? (i := 828) (by decide +kernel)⟩
theorem lw_p45 : lw_okq (⟨"LoopListenersModel", "faultOf", "()I"⟩, 15) := ⟨⟨by decide +kernel, by decide +kernel⟩, List.mem_of_getElem? (i := 601) (by decide +kernel), List.mem_of_getElem? (i := 863) (by decide +kernel), List.mem_of_getElem? (i := 864) (by decide +kernel)⟩
theorem lw_p46 : lw_okq (⟨"LoopListenersModel", "readOne", "()V"⟩, 15) := ⟨⟨by decide +kernel, by decide +kernel⟩, List.mem_of_getElem? (i := 601) (by decide +kernel), List.mem_of_getElem? (i := 867) (by decide +kernel), List.mem_of_getElem? (i := 868) (by decide +kernel)⟩
theorem lw_p47 : lw_okq (⟨"LoopListenersModel", "sign", "()I"⟩, 15) := ⟨⟨by decide +kernel, by decide +kernel⟩, List.mem_of_getElem? (i := 601) (by decide +kernel), List.mem_of_getElem? (i := 871) (by decide +kernel), List.mem_of_getElem? (i := 872) (by decide +kernel)⟩
def lw_privs_3 : List (MethodName × Nat) := [(⟨"LoopListenersModel", "canChange", "(I)Z"⟩, 15), (⟨"LoopListenersModel", "passAll", "()V"⟩, 15), (⟨"LoopListenersModel", "overBy", "(I)I"⟩, 15), (⟨"LoopListenersModel", "listener", "()I"⟩, 15), (⟨"LoopListenersModel", "listen", "(I)V"⟩, 15), (⟨"LoopListenersModel", "strength", "(I)I"⟩, 15), (⟨"LoopListenersModel", "metal", "(II)I"⟩, 15), (⟨"LoopListenersModel", "errorOf", "(I)I"⟩, 15), (⟨"LoopListenersModel", "gone", "()I"⟩, 15), (⟨"LoopListenersModel", "sum", "(I)I"⟩, 15), (⟨"LoopListenersModel", "counted", "(III)I"⟩, 15), (⟨"LoopListenersModel", "keep", "()V"⟩, 15), (⟨"LoopListenersModel", "comeBack", "()V"⟩, 15), (⟨"LoopListenersModel", "faultOf", "()I"⟩, 15), (⟨"LoopListenersModel", "readOne", "()V"⟩, 15), (⟨"LoopListenersModel", "sign", "()I"⟩, 15)]
theorem lw_r3 : ∀ q ∈ lw_privs_3, lw_okq q := List.forall_mem_cons.mpr ⟨lw_p32, List.forall_mem_cons.mpr ⟨lw_p33, List.forall_mem_cons.mpr ⟨lw_p34, List.forall_mem_cons.mpr ⟨lw_p35, List.forall_mem_cons.mpr ⟨lw_p36, List.forall_mem_cons.mpr ⟨lw_p37, List.forall_mem_cons.mpr ⟨lw_p38, List.forall_mem_cons.mpr ⟨lw_p39, List.forall_mem_cons.mpr ⟨lw_p40, List.forall_mem_cons.mpr ⟨lw_p41, List.forall_mem_cons.mpr ⟨lw_p42, List.forall_mem_cons.mpr ⟨lw_p43, List.forall_mem_cons.mpr ⟨lw_p44, List.forall_mem_cons.mpr ⟨lw_p45, List.forall_mem_cons.mpr ⟨lw_p46, List.forall_mem_cons.mpr ⟨lw_p47, fun _ h => absurd h List.not_mem_nil⟩⟩⟩⟩⟩⟩⟩⟩⟩⟩⟩⟩⟩⟩⟩⟩
theorem lw_p48 : lw_okq (⟨"LoopListenersModel", "one", "(II)I"⟩, 15) := ⟨⟨by decide +kernel, by decide +kernel⟩, List.mem_of_getElem? (i := 601) (by decide +kernel), List.mem_of_getElem? (i := 875) (by decide +kernel), List.mem_of_getElem? (i := 876) (by decide +kernel)⟩
theorem lw_p49 : lw_okq (⟨"LoopListenersModel", "number", "()I"⟩, 15) := ⟨⟨by decide +kernel, by decide +kernel⟩, List.mem_of_getElem? (i := 601) (by decide +kernel), List.mem_of_getElem? (i := 879) (by decide +kernel), List.mem_of_getElem? (i := 880) (by decide +kernel)⟩
theorem lw_p50 : lw_okq (⟨"LoopListenersModel", "carry", "(I)I"⟩, 15) := ⟨⟨by decide +kernel, by decide +kernel⟩, List.mem_of_getElem? (i := 601) (by decide +kernel), List.mem_of_getElem? (i := 887) (by decide +kernel), List.mem_of_getElem? (i := 888) (by decide +kernel)⟩
def lw_privs_4 : List (MethodName × Nat) := [(⟨"LoopListenersModel", "one", "(II)I"⟩, 15), (⟨"LoopListenersModel", "number", "()I"⟩, 15), (⟨"LoopListenersModel", "carry", "(I)I"⟩, 15)]
theorem lw_r4 : ∀ q ∈ lw_privs_4, lw_okq q := List.forall_mem_cons.mpr ⟨lw_p48, List.forall_mem_cons.mpr ⟨lw_p49, List.forall_mem_cons.mpr ⟨lw_p50, fun _ h => absurd h List.not_mem_nil⟩⟩⟩
def lw_privs : List (MethodName × Nat) := lw_privs_1 ++ (lw_privs_2 ++ (lw_privs_3 ++ (lw_privs_4)))
def lw_tbl : List Cond := k2_sels lw_privs ++ tables_1
theorem lw_privs_ok : ∀ q ∈ lw_privs, lw_okq q := by
  show ∀ q ∈ lw_privs_1 ++ (lw_privs_2 ++ (lw_privs_3 ++ (lw_privs_4))), lw_okq q
  exact List.forall_mem_append.mpr ⟨lw_r1, List.forall_mem_append.mpr ⟨lw_r2, List.forall_mem_append.mpr ⟨lw_r3, lw_r4⟩⟩⟩
-- ===== end of PART A =====
def RX0 : String := "LoopListeners$Car"
def TX0 : u_T := fun k => match k with
  | 0 => ("LoopListeners$Car", "number", "I", true)
  | 1 => ("LoopListeners$Car", "lane", "I", false)
  | 2 => ("LoopListeners$Car", "front", "I", false)
  | 3 => ("LoopListeners$Car", "length", "I", false)
  | 4 => ("LoopListeners$Car", "speed", "I", false)
  | 5 => ("LoopListeners$Car", "metal", "I", false)
  | 6 => ("LoopListeners$Car", "gone", "Z", false)
  | 7 => ("LoopListeners$Car", "wants", "Z", false)
  | 8 => ("LoopListeners$Car", "changes", "I", false)
  | 9 => ("LoopListeners$Car", "waits", "I", false)
  | _ => ("LoopListeners$Car", "wasOver", "I", false)
def tyX0 : Nat → FieldType := fun k => match k with
  | 0 => .int
  | 1 => .int
  | 2 => .int
  | 3 => .int
  | 4 => .int
  | 5 => .int
  | 6 => .boolean
  | 7 => .boolean
  | 8 => .int
  | 9 => .int
  | _ => .int
theorem nmX0 : ∀ a, a < 11 → ∀ b, b < 11 → a ≠ b → (TX0 a).2.1 ≠ (TX0 b).2.1 := by decide +kernel
theorem tyX0_ok : ∀ k, k < 11 → parseFieldDescriptor (TX0 k).2.2.1 = some (tyX0 k) := by decide +kernel
abbrev cX0_init : ByteArray := prog_2_method_1_code
def yX0_init : MethodName := ⟨RX0, "<init>", "(I)V"⟩
abbrev cX0_arrive : ByteArray := prog_2_method_2_code
def yX0_arrive : MethodName := ⟨RX0, "arrive", "(IIII)V"⟩
abbrev cX0_become : ByteArray := prog_2_method_3_code
def yX0_become : MethodName := ⟨RX0, "become", "(LLoopListeners$Car;)V"⟩
abbrev cX0_last : ByteArray := prog_2_method_4_code
def yX0_last : MethodName := ⟨RX0, "last", "()I"⟩
abbrev cX0_about : ByteArray := prog_2_method_5_code
def yX0_about : MethodName := ⟨RX0, "about", "(I)I"⟩
def RX1 : String := "LoopListeners$History"
def TX1 : u_T := fun k => match k with
  | 0 => ("LoopListeners$History", "states", "[LLoopListeners$Road;", true)
  | 1 => ("LoopListeners$History", "noted", "I", false)
  | _ => ("LoopListeners$History", "kept", "I", false)
def tyX1 : Nat → FieldType := fun k => match k with
  | 0 => .array (.object "LoopListeners$Road")
  | 1 => .int
  | _ => .int
theorem nmX1 : ∀ a, a < 3 → ∀ b, b < 3 → a ≠ b → (TX1 a).2.1 ≠ (TX1 b).2.1 := by decide +kernel
theorem tyX1_ok : ∀ k, k < 3 → parseFieldDescriptor (TX1 k).2.2.1 = some (tyX1 k) := by decide +kernel
abbrev cX1_init : ByteArray := prog_3_method_1_code
def yX1_init : MethodName := ⟨RX1, "<init>", "()V"⟩
abbrev cX1_note : ByteArray := prog_3_method_2_code
def yX1_note : MethodName := ⟨RX1, "note", "(LLoopListeners$Road;)V"⟩
abbrev cX1_keep : ByteArray := prog_3_method_3_code
def yX1_keep : MethodName := ⟨RX1, "keep", "()V"⟩
abbrev cX1_stepBack : ByteArray := prog_3_method_4_code
def yX1_stepBack : MethodName := ⟨RX1, "stepBack", "(LLoopListeners$Road;)I"⟩
abbrev cX1_notedState : ByteArray := prog_3_method_5_code
def yX1_notedState : MethodName := ⟨RX1, "notedState", "()LLoopListeners$Road;"⟩
def RX2 : String := "LoopListeners$Loop"
def TX2 : u_T := fun k => match k with
  | 0 => ("LoopListeners$Loop", "lane", "I", false)
  | 1 => ("LoopListeners$Loop", "first", "I", false)
  | 2 => ("LoopListeners$Loop", "cells", "I", false)
  | 3 => ("LoopListeners$Loop", "upper", "I", false)
  | 4 => ("LoopListeners$Loop", "lower", "I", false)
  | 5 => ("LoopListeners$Loop", "on", "Z", false)
  | 6 => ("LoopListeners$Loop", "counted", "I", false)
  | 7 => ("LoopListeners$Loop", "passings", "I", false)
  | _ => ("LoopListeners$Loop", "listened", "I", false)
def tyX2 : Nat → FieldType := fun k => match k with
  | 0 => .int
  | 1 => .int
  | 2 => .int
  | 3 => .int
  | 4 => .int
  | 5 => .boolean
  | 6 => .int
  | 7 => .int
  | _ => .int
theorem nmX2 : ∀ a, a < 9 → ∀ b, b < 9 → a ≠ b → (TX2 a).2.1 ≠ (TX2 b).2.1 := by decide +kernel
theorem tyX2_ok : ∀ k, k < 9 → parseFieldDescriptor (TX2 k).2.2.1 = some (tyX2 k) := by decide +kernel
abbrev cX2_init : ByteArray := prog_4_method_1_code
def yX2_init : MethodName := ⟨RX2, "<init>", "()V"⟩
abbrev cX2_lay : ByteArray := prog_4_method_2_code
def yX2_lay : MethodName := ⟨RX2, "lay", "(IIIII)V"⟩
abbrev cX2_become : ByteArray := prog_4_method_3_code
def yX2_become : MethodName := ⟨RX2, "become", "(LLoopListeners$Loop;)V"⟩
abbrev cX2_isUnder : ByteArray := prog_4_method_4_code
def yX2_isUnder : MethodName := ⟨RX2, "isUnder", "(LLoopListeners$Car;)Z"⟩
abbrev cX2_hear : ByteArray := prog_4_method_5_code
def yX2_hear : MethodName := ⟨RX2, "hear", "(I)V"⟩
abbrev cX2_falselyCounted : ByteArray := prog_4_method_6_code
def yX2_falselyCounted : MethodName := ⟨RX2, "falselyCounted", "()I"⟩
abbrev cX2_about : ByteArray := prog_4_method_7_code
def yX2_about : MethodName := ⟨RX2, "about", "(I)I"⟩
def RX3 : String := "LoopListeners$Pad"
def TX3 : u_T := fun k => match k with
  | 0 => ("LoopListeners$Pad", "signs", "[C", true)
  | _ => ("LoopListeners$Pad", "length", "I", false)
def tyX3 : Nat → FieldType := fun k => match k with
  | 0 => .array .char
  | _ => .int
theorem nmX3 : ∀ a, a < 2 → ∀ b, b < 2 → a ≠ b → (TX3 a).2.1 ≠ (TX3 b).2.1 := by decide +kernel
theorem tyX3_ok : ∀ k, k < 2 → parseFieldDescriptor (TX3 k).2.2.1 = some (tyX3 k) := by decide +kernel
abbrev cX3_init : ByteArray := prog_5_method_1_code
def yX3_init : MethodName := ⟨RX3, "<init>", "()V"⟩
abbrev cX3_append : ByteArray := prog_5_method_2_code
def yX3_append : MethodName := ⟨RX3, "append", "(J)I"⟩
abbrev cX3_signsIn : ByteArray := prog_5_method_3_code
def yX3_signsIn : MethodName := ⟨RX3, "signsIn", "(J)I"⟩
abbrev cX3_empty : ByteArray := prog_5_method_4_code
def yX3_empty : MethodName := ⟨RX3, "empty", "()I"⟩
abbrev cX3_signAt : ByteArray := prog_5_method_5_code
def yX3_signAt : MethodName := ⟨RX3, "signAt", "(I)I"⟩
abbrev cX3_digitAt : ByteArray := prog_5_method_6_code
def yX3_digitAt : MethodName := ⟨RX3, "digitAt", "(I)I"⟩
abbrev cX3_numberAt : ByteArray := prog_5_method_7_code
def yX3_numberAt : MethodName := ⟨RX3, "numberAt", "(I)I"⟩
abbrev cX3_beginsOrder : ByteArray := prog_5_method_8_code
def yX3_beginsOrder : MethodName := ⟨RX3, "beginsOrder", "(I)Z"⟩
abbrev cX3_firstFault : ByteArray := prog_5_method_9_code
def yX3_firstFault : MethodName := ⟨RX3, "firstFault", "()I"⟩
abbrev cX3_dueAfter : ByteArray := prog_5_method_10_code
def yX3_dueAfter : MethodName := ⟨RX3, "dueAfter", "(II)I"⟩
def RX4 : String := "LoopListeners$Road"
def TX4 : u_T := fun k => match k with
  | 0 => ("LoopListeners$Road", "cars", "[LLoopListeners$Car;", true)
  | 1 => ("LoopListeners$Road", "loops", "[LLoopListeners$Loop;", true)
  | 2 => ("LoopListeners$Road", "takers", "[I", true)
  | 3 => ("LoopListeners$Road", "movers", "[LLoopListeners$Car;", true)
  | 4 => ("LoopListeners$Road", "carsCame", "I", false)
  | 5 => ("LoopListeners$Road", "loopsLaid", "I", false)
  | 6 => ("LoopListeners$Road", "tick", "I", false)
  | 7 => ("LoopListeners$Road", "across", "I", false)
  | _ => ("LoopListeners$Road", "turn", "I", false)
def tyX4 : Nat → FieldType := fun k => match k with
  | 0 => .array (.object "LoopListeners$Car")
  | 1 => .array (.object "LoopListeners$Loop")
  | 2 => .array .int
  | 3 => .array (.object "LoopListeners$Car")
  | 4 => .int
  | 5 => .int
  | 6 => .int
  | 7 => .int
  | _ => .int
theorem nmX4 : ∀ a, a < 9 → ∀ b, b < 9 → a ≠ b → (TX4 a).2.1 ≠ (TX4 b).2.1 := by decide +kernel
theorem tyX4_ok : ∀ k, k < 9 → parseFieldDescriptor (TX4 k).2.2.1 = some (tyX4 k) := by decide +kernel
abbrev cX4_init : ByteArray := prog_6_method_1_code
def yX4_init : MethodName := ⟨RX4, "<init>", "()V"⟩
abbrev cX4_become : ByteArray := prog_6_method_2_code
def yX4_become : MethodName := ⟨RX4, "become", "(LLoopListeners$Road;)V"⟩
abbrev cX4_carNumbered : ByteArray := prog_6_method_3_code
def yX4_carNumbered : MethodName := ⟨RX4, "carNumbered", "(I)LLoopListeners$Car;"⟩
abbrev cX4_loopNumbered : ByteArray := prog_6_method_4_code
def yX4_loopNumbered : MethodName := ⟨RX4, "loopNumbered", "(I)LLoopListeners$Loop;"⟩
abbrev cX4_changeSetting : ByteArray := prog_6_method_5_code
def yX4_changeSetting : MethodName := ⟨RX4, "changeSetting", "(II)I"⟩
abbrev cX4_layLoop : ByteArray := prog_6_method_6_code
def yX4_layLoop : MethodName := ⟨RX4, "layLoop", "(IIIII)I"⟩
abbrev cX4_markCarsOver : ByteArray := prog_6_method_7_code
def yX4_markCarsOver : MethodName := ⟨RX4, "markCarsOver", "(LLoopListeners$Loop;I)V"⟩
abbrev cX4_changeBounds : ByteArray := prog_6_method_8_code
def yX4_changeBounds : MethodName := ⟨RX4, "changeBounds", "(III)I"⟩
abbrev cX4_admitCar : ByteArray := prog_6_method_9_code
def yX4_admitCar : MethodName := ⟨RX4, "admitCar", "(IIII)I"⟩
abbrev cX4_turnWish : ByteArray := prog_6_method_10_code
def yX4_turnWish : MethodName := ⟨RX4, "turnWish", "(I)I"⟩
abbrev cX4_changeSpeed : ByteArray := prog_6_method_11_code
def yX4_changeSpeed : MethodName := ⟨RX4, "changeSpeed", "(II)I"⟩
abbrev cX4_letPass : ByteArray := prog_6_method_12_code
def yX4_letPass : MethodName := ⟨RX4, "letPass", "(I)I"⟩
abbrev cX4_listener : ByteArray := prog_6_method_13_code
def yX4_listener : MethodName := ⟨RX4, "listener", "()I"⟩
abbrev cX4_passTick : ByteArray := prog_6_method_14_code
def yX4_passTick : MethodName := ⟨RX4, "passTick", "(I)V"⟩
abbrev cX4_orderMovers : ByteArray := prog_6_method_15_code
def yX4_orderMovers : MethodName := ⟨RX4, "orderMovers", "()I"⟩
abbrev cX4_insertMover : ByteArray := prog_6_method_16_code
def yX4_insertMover : MethodName := ⟨RX4, "insertMover", "(LLoopListeners$Car;I)V"⟩
abbrev cX4_moveCar : ByteArray := prog_6_method_17_code
def yX4_moveCar : MethodName := ⟨RX4, "moveCar", "(LLoopListeners$Car;)V"⟩
abbrev cX4_isFreeBeside : ByteArray := prog_6_method_18_code
def yX4_isFreeBeside : MethodName := ⟨RX4, "isFreeBeside", "(LLoopListeners$Car;)Z"⟩
abbrev cX4_changeLane : ByteArray := prog_6_method_19_code
def yX4_changeLane : MethodName := ⟨RX4, "changeLane", "(LLoopListeners$Car;)V"⟩
abbrev cX4_notePassings : ByteArray := prog_6_method_20_code
def yX4_notePassings : MethodName := ⟨RX4, "notePassings", "()V"⟩
abbrev cX4_countPassings : ByteArray := prog_6_method_21_code
def yX4_countPassings : MethodName := ⟨RX4, "countPassings", "(I)V"⟩
abbrev cX4_loopsUnder : ByteArray := prog_6_method_22_code
def yX4_loopsUnder : MethodName := ⟨RX4, "loopsUnder", "(LLoopListeners$Car;)I"⟩
abbrev cX4_strengthOf : ByteArray := prog_6_method_23_code
def yX4_strengthOf : MethodName := ⟨RX4, "strengthOf", "(LLoopListeners$Loop;)I"⟩
abbrev cX4_metalIn : ByteArray := prog_6_method_24_code
def yX4_metalIn : MethodName := ⟨RX4, "metalIn", "(ILLoopListeners$Loop;)I"⟩
abbrev cX4_takerOf : ByteArray := prog_6_method_25_code
def yX4_takerOf : MethodName := ⟨RX4, "takerOf", "(II)I"⟩
abbrev cX4_take : ByteArray := prog_6_method_26_code
def yX4_take : MethodName := ⟨RX4, "take", "(III)V"⟩
abbrev cX4_carsGone : ByteArray := prog_6_method_27_code
def yX4_carsGone : MethodName := ⟨RX4, "carsGone", "()I"⟩
abbrev cX4_sumOfLoops : ByteArray := prog_6_method_28_code
def yX4_sumOfLoops : MethodName := ⟨RX4, "sumOfLoops", "(I)I"⟩
abbrev cX4_allAmounts : ByteArray := prog_6_method_29_code
def yX4_allAmounts : MethodName := ⟨RX4, "allAmounts", "()I"⟩
def RX5 : String := "LoopListeners$Slots"
def TX5 : u_T := fun k => match k with
  | 0 => ("LoopListeners$Slots", "roads", "[LLoopListeners$Road;", true)
  | _ => ("LoopListeners$Slots", "saved", "[Z", true)
def tyX5 : Nat → FieldType := fun k => match k with
  | 0 => .array (.object "LoopListeners$Road")
  | _ => .array .boolean
theorem nmX5 : ∀ a, a < 2 → ∀ b, b < 2 → a ≠ b → (TX5 a).2.1 ≠ (TX5 b).2.1 := by decide +kernel
theorem tyX5_ok : ∀ k, k < 2 → parseFieldDescriptor (TX5 k).2.2.1 = some (tyX5 k) := by decide +kernel
abbrev cX5_init : ByteArray := prog_7_method_1_code
def yX5_init : MethodName := ⟨RX5, "<init>", "()V"⟩
abbrev cX5_keep : ByteArray := prog_7_method_2_code
def yX5_keep : MethodName := ⟨RX5, "keep", "(ILLoopListeners$Road;)I"⟩
abbrev cX5_giveBack : ByteArray := prog_7_method_3_code
def yX5_giveBack : MethodName := ⟨RX5, "giveBack", "(ILLoopListeners$Road;)I"⟩
abbrev cX5_isSlot : ByteArray := prog_7_method_4_code
def yX5_isSlot : MethodName := ⟨RX5, "isSlot", "(I)Z"⟩
def RX6 : String := "LoopListeners"
def TX6 : u_T := fun k => match k with
  | 0 => ("LoopListeners", "now", "LLoopListeners$Road;", true)
  | 1 => ("LoopListeners", "trial", "LLoopListeners$Road;", true)
  | 2 => ("LoopListeners", "trialLoop", "LLoopListeners$Loop;", true)
  | 3 => ("LoopListeners", "heard", "[I", true)
  | 4 => ("LoopListeners", "pad", "LLoopListeners$Pad;", true)
  | 5 => ("LoopListeners", "history", "LLoopListeners$History;", true)
  | _ => ("LoopListeners", "slots", "LLoopListeners$Slots;", true)
def tyX6 : Nat → FieldType := fun k => match k with
  | 0 => .object "LoopListeners$Road"
  | 1 => .object "LoopListeners$Road"
  | 2 => .object "LoopListeners$Loop"
  | 3 => .array .int
  | 4 => .object "LoopListeners$Pad"
  | 5 => .object "LoopListeners$History"
  | _ => .object "LoopListeners$Slots"
theorem nmX6 : ∀ a, a < 7 → ∀ b, b < 7 → a ≠ b → (TX6 a).2.1 ≠ (TX6 b).2.1 := by decide +kernel
theorem tyX6_ok : ∀ k, k < 7 → parseFieldDescriptor (TX6 k).2.2.1 = some (tyX6 k) := by decide +kernel
abbrev cX6_init : ByteArray := prog_1_method_1_code
def yX6_init : MethodName := ⟨RX6, "<init>", "()V"⟩
abbrev cX6_set : ByteArray := prog_1_method_2_code
def yX6_set : MethodName := ⟨RX6, "set", "(II)I"⟩
abbrev cX6_loop : ByteArray := prog_1_method_3_code
def yX6_loop : MethodName := ⟨RX6, "loop", "(IIIII)I"⟩
abbrev cX6_bounds : ByteArray := prog_1_method_4_code
def yX6_bounds : MethodName := ⟨RX6, "bounds", "(III)I"⟩
abbrev cX6_come : ByteArray := prog_1_method_5_code
def yX6_come : MethodName := ⟨RX6, "come", "(IIII)I"⟩
abbrev cX6_want : ByteArray := prog_1_method_6_code
def yX6_want : MethodName := ⟨RX6, "want", "(I)I"⟩
abbrev cX6_speed : ByteArray := prog_1_method_7_code
def yX6_speed : MethodName := ⟨RX6, "speed", "(II)I"⟩
abbrev cX6_ticks : ByteArray := prog_1_method_8_code
def yX6_ticks : MethodName := ⟨RX6, "ticks", "(I)I"⟩
abbrev cX6_recorded : ByteArray := prog_1_method_9_code
def yX6_recorded : MethodName := ⟨RX6, "recorded", "(I)I"⟩
abbrev cX6_ofCar : ByteArray := prog_1_method_10_code
def yX6_ofCar : MethodName := ⟨RX6, "ofCar", "(II)I"⟩
abbrev cX6_ofLoop : ByteArray := prog_1_method_11_code
def yX6_ofLoop : MethodName := ⟨RX6, "ofLoop", "(II)I"⟩
abbrev cX6_error : ByteArray := prog_1_method_12_code
def yX6_error : MethodName := ⟨RX6, "error", "(I)I"⟩
abbrev cX6_carAt : ByteArray := prog_1_method_13_code
def yX6_carAt : MethodName := ⟨RX6, "carAt", "(II)I"⟩
abbrev cX6_count : ByteArray := prog_1_method_14_code
def yX6_count : MethodName := ⟨RX6, "count", "(I)I"⟩
abbrev cX6_inside : ByteArray := prog_1_method_15_code
def yX6_inside : MethodName := ⟨RX6, "inside", "(II)I"⟩
abbrev cX6_countsIn : ByteArray := prog_1_method_16_code
def yX6_countsIn : MethodName := ⟨RX6, "countsIn", "(II)I"⟩
abbrev cX6_countsAlone : ByteArray := prog_1_method_17_code
def yX6_countsAlone : MethodName := ⟨RX6, "countsAlone", "(II)I"⟩
abbrev cX6_bestUpper : ByteArray := prog_1_method_18_code
def yX6_bestUpper : MethodName := ⟨RX6, "bestUpper", "(II)I"⟩
abbrev cX6_hearTrial : ByteArray := prog_1_method_19_code
def yX6_hearTrial : MethodName := ⟨RX6, "hearTrial", "(ILLoopListeners$Loop;I)I"⟩
abbrev cX6_countedWith : ByteArray := prog_1_method_20_code
def yX6_countedWith : MethodName := ⟨RX6, "countedWith", "(LLoopListeners$Loop;II)I"⟩
abbrev cX6_bestTurn : ByteArray := prog_1_method_21_code
def yX6_bestTurn : MethodName := ⟨RX6, "bestTurn", "(I)I"⟩
abbrev cX6_goneIn : ByteArray := prog_1_method_22_code
def yX6_goneIn : MethodName := ⟨RX6, "goneIn", "(I)I"⟩
abbrev cX6_put : ByteArray := prog_1_method_23_code
def yX6_put : MethodName := ⟨RX6, "put", "(J)I"⟩
abbrev cX6_wipe : ByteArray := prog_1_method_24_code
def yX6_wipe : MethodName := ⟨RX6, "wipe", "()I"⟩
abbrev cX6_fault : ByteArray := prog_1_method_25_code
def yX6_fault : MethodName := ⟨RX6, "fault", "()I"⟩
abbrev cX6_carryOut : ByteArray := prog_1_method_26_code
def yX6_carryOut : MethodName := ⟨RX6, "carryOut", "()I"⟩
abbrev cX6_obey : ByteArray := prog_1_method_27_code
def yX6_obey : MethodName := ⟨RX6, "obey", "(I)I"⟩
abbrev cX6_undo : ByteArray := prog_1_method_28_code
def yX6_undo : MethodName := ⟨RX6, "undo", "()I"⟩
abbrev cX6_save : ByteArray := prog_1_method_29_code
def yX6_save : MethodName := ⟨RX6, "save", "(I)I"⟩
abbrev cX6_restore : ByteArray := prog_1_method_30_code
def yX6_restore : MethodName := ⟨RX6, "restore", "(I)I"⟩
abbrev cX6_isWithin : ByteArray := prog_1_method_31_code
def yX6_isWithin : MethodName := ⟨RX6, "isWithin", "(III)Z"⟩
abbrev cX6_isTicks : ByteArray := prog_1_method_32_code
def yX6_isTicks : MethodName := ⟨RX6, "isTicks", "(I)Z"⟩
abbrev cX6_areBounds : ByteArray := prog_1_method_33_code
def yX6_areBounds : MethodName := ⟨RX6, "areBounds", "(II)Z"⟩
def RX7 : String := "LoopListenersModel"
def TX7 : u_T := fun k => match k with
  | 0 => ("LoopListenersModel", "now", "[I", true)
  | 1 => ("LoopListenersModel", "kept", "[I", true)
  | 2 => ("LoopListenersModel", "history", "[I", true)
  | 3 => ("LoopListenersModel", "undos", "I", false)
  | 4 => ("LoopListenersModel", "saved", "[I", true)
  | 5 => ("LoopListenersModel", "isSaved", "[Z", true)
  | 6 => ("LoopListenersModel", "pad", "[I", true)
  | 7 => ("LoopListenersModel", "signs", "I", false)
  | 8 => ("LoopListenersModel", "isInText", "Z", false)
  | 9 => ("LoopListenersModel", "cells", "[I", true)
  | 10 => ("LoopListenersModel", "order", "[I", true)
  | 11 => ("LoopListenersModel", "orders", "[I", true)
  | 12 => ("LoopListenersModel", "read", "I", false)
  | 13 => ("LoopListenersModel", "place", "I", false)
  | _ => ("LoopListenersModel", "isWrong", "Z", false)
def tyX7 : Nat → FieldType := fun k => match k with
  | 0 => .array .int
  | 1 => .array .int
  | 2 => .array .int
  | 3 => .int
  | 4 => .array .int
  | 5 => .array .boolean
  | 6 => .array .int
  | 7 => .int
  | 8 => .boolean
  | 9 => .array .int
  | 10 => .array .int
  | 11 => .array .int
  | 12 => .int
  | 13 => .int
  | _ => .boolean
theorem nmX7 : ∀ a, a < 15 → ∀ b, b < 15 → a ≠ b → (TX7 a).2.1 ≠ (TX7 b).2.1 := by decide +kernel
theorem tyX7_ok : ∀ k, k < 15 → parseFieldDescriptor (TX7 k).2.2.1 = some (tyX7 k) := by decide +kernel
abbrev cX7_init : ByteArray := prog_9_method_1_code
def yX7_init : MethodName := ⟨RX7, "<init>", "()V"⟩
abbrev cX7_in : ByteArray := prog_9_method_2_code
def yX7_in : MethodName := ⟨RX7, "in", "(III)Z"⟩
abbrev cX7_record : ByteArray := prog_9_method_3_code
def yX7_record : MethodName := ⟨RX7, "record", "()V"⟩
abbrev cX7_keep : ByteArray := prog_9_method_4_code
def yX7_keep : MethodName := ⟨RX7, "keep", "()V"⟩
abbrev cX7_comeBack : ByteArray := prog_9_method_5_code
def yX7_comeBack : MethodName := ⟨RX7, "comeBack", "()V"⟩
abbrev cX7_ofC : ByteArray := prog_9_method_6_code
def yX7_ofC : MethodName := ⟨RX7, "ofC", "(II)I"⟩
abbrev cX7_bookC : ByteArray := prog_9_method_7_code
def yX7_bookC : MethodName := ⟨RX7, "bookC", "(III)V"⟩
abbrev cX7_ofL : ByteArray := prog_9_method_8_code
def yX7_ofL : MethodName := ⟨RX7, "ofL", "(II)I"⟩
abbrev cX7_bookL : ByteArray := prog_9_method_9_code
def yX7_bookL : MethodName := ⟨RX7, "bookL", "(III)V"⟩
abbrev cX7_isOn : ByteArray := prog_9_method_10_code
def yX7_isOn : MethodName := ⟨RX7, "isOn", "(I)Z"⟩
abbrev cX7_lastCell : ByteArray := prog_9_method_11_code
def yX7_lastCell : MethodName := ⟨RX7, "lastCell", "(I)I"⟩
abbrev cX7_mark : ByteArray := prog_9_method_12_code
def yX7_mark : MethodName := ⟨RX7, "mark", "(II)V"⟩
abbrev cX7_layCells : ByteArray := prog_9_method_13_code
def yX7_layCells : MethodName := ⟨RX7, "layCells", "()V"⟩
abbrev cX7_isFree : ByteArray := prog_9_method_14_code
def yX7_isFree : MethodName := ⟨RX7, "isFree", "(II)Z"⟩
abbrev cX7_canChange : ByteArray := prog_9_method_15_code
def yX7_canChange : MethodName := ⟨RX7, "canChange", "(I)Z"⟩
abbrev cX7_move : ByteArray := prog_9_method_16_code
def yX7_move : MethodName := ⟨RX7, "move", "(I)V"⟩
abbrev cX7_moveAll : ByteArray := prog_9_method_17_code
def yX7_moveAll : MethodName := ⟨RX7, "moveAll", "()V"⟩
abbrev cX7_isOver : ByteArray := prog_9_method_18_code
def yX7_isOver : MethodName := ⟨RX7, "isOver", "(II)Z"⟩
abbrev cX7_overBy : ByteArray := prog_9_method_19_code
def yX7_overBy : MethodName := ⟨RX7, "overBy", "(I)I"⟩
abbrev cX7_passAll : ByteArray := prog_9_method_20_code
def yX7_passAll : MethodName := ⟨RX7, "passAll", "()V"⟩
abbrev cX7_metal : ByteArray := prog_9_method_21_code
def yX7_metal : MethodName := ⟨RX7, "metal", "(II)I"⟩
abbrev cX7_strength : ByteArray := prog_9_method_22_code
def yX7_strength : MethodName := ⟨RX7, "strength", "(I)I"⟩
abbrev cX7_listen : ByteArray := prog_9_method_23_code
def yX7_listen : MethodName := ⟨RX7, "listen", "(I)V"⟩
abbrev cX7_listener : ByteArray := prog_9_method_24_code
def yX7_listener : MethodName := ⟨RX7, "listener", "()I"⟩
abbrev cX7_pass : ByteArray := prog_9_method_25_code
def yX7_pass : MethodName := ⟨RX7, "pass", "(I)V"⟩
abbrev cX7_set : ByteArray := prog_9_method_26_code
def yX7_set : MethodName := ⟨RX7, "set", "(II)I"⟩
abbrev cX7_areBounds : ByteArray := prog_9_method_27_code
def yX7_areBounds : MethodName := ⟨RX7, "areBounds", "(II)Z"⟩
abbrev cX7_loop : ByteArray := prog_9_method_28_code
def yX7_loop : MethodName := ⟨RX7, "loop", "(IIIII)I"⟩
abbrev cX7_isLoop : ByteArray := prog_9_method_29_code
def yX7_isLoop : MethodName := ⟨RX7, "isLoop", "(I)Z"⟩
abbrev cX7_isCar : ByteArray := prog_9_method_30_code
def yX7_isCar : MethodName := ⟨RX7, "isCar", "(I)Z"⟩
abbrev cX7_bounds : ByteArray := prog_9_method_31_code
def yX7_bounds : MethodName := ⟨RX7, "bounds", "(III)I"⟩
abbrev cX7_come : ByteArray := prog_9_method_32_code
def yX7_come : MethodName := ⟨RX7, "come", "(IIII)I"⟩
abbrev cX7_want : ByteArray := prog_9_method_33_code
def yX7_want : MethodName := ⟨RX7, "want", "(I)I"⟩
abbrev cX7_speed : ByteArray := prog_9_method_34_code
def yX7_speed : MethodName := ⟨RX7, "speed", "(II)I"⟩
abbrev cX7_ticks : ByteArray := prog_9_method_35_code
def yX7_ticks : MethodName := ⟨RX7, "ticks", "(I)I"⟩
abbrev cX7_ofCar : ByteArray := prog_9_method_36_code
def yX7_ofCar : MethodName := ⟨RX7, "ofCar", "(II)I"⟩
abbrev cX7_ofLoop : ByteArray := prog_9_method_37_code
def yX7_ofLoop : MethodName := ⟨RX7, "ofLoop", "(II)I"⟩
abbrev cX7_errorOf : ByteArray := prog_9_method_38_code
def yX7_errorOf : MethodName := ⟨RX7, "errorOf", "(I)I"⟩
abbrev cX7_error : ByteArray := prog_9_method_39_code
def yX7_error : MethodName := ⟨RX7, "error", "(I)I"⟩
abbrev cX7_carAt : ByteArray := prog_9_method_40_code
def yX7_carAt : MethodName := ⟨RX7, "carAt", "(II)I"⟩
abbrev cX7_gone : ByteArray := prog_9_method_41_code
def yX7_gone : MethodName := ⟨RX7, "gone", "()I"⟩
abbrev cX7_sum : ByteArray := prog_9_method_42_code
def yX7_sum : MethodName := ⟨RX7, "sum", "(I)I"⟩
abbrev cX7_count : ByteArray := prog_9_method_43_code
def yX7_count : MethodName := ⟨RX7, "count", "(I)I"⟩
abbrev cX7_inside : ByteArray := prog_9_method_44_code
def yX7_inside : MethodName := ⟨RX7, "inside", "(II)I"⟩
abbrev cX7_counted : ByteArray := prog_9_method_45_code
def yX7_counted : MethodName := ⟨RX7, "counted", "(III)I"⟩
abbrev cX7_countsIn : ByteArray := prog_9_method_46_code
def yX7_countsIn : MethodName := ⟨RX7, "countsIn", "(II)I"⟩
abbrev cX7_countsAlone : ByteArray := prog_9_method_47_code
def yX7_countsAlone : MethodName := ⟨RX7, "countsAlone", "(II)I"⟩
abbrev cX7_amount : ByteArray := prog_9_method_48_code
def yX7_amount : MethodName := ⟨RX7, "amount", "(I)I"⟩
abbrev cX7_bestUpper : ByteArray := prog_9_method_49_code
def yX7_bestUpper : MethodName := ⟨RX7, "bestUpper", "(II)I"⟩
abbrev cX7_bestTurn : ByteArray := prog_9_method_50_code
def yX7_bestTurn : MethodName := ⟨RX7, "bestTurn", "(I)I"⟩
abbrev cX7_goneIn : ByteArray := prog_9_method_51_code
def yX7_goneIn : MethodName := ⟨RX7, "goneIn", "(I)I"⟩
abbrev cX7_sign : ByteArray := prog_9_method_52_code
def yX7_sign : MethodName := ⟨RX7, "sign", "()I"⟩
abbrev cX7_one : ByteArray := prog_9_method_53_code
def yX7_one : MethodName := ⟨RX7, "one", "(II)I"⟩
abbrev cX7_number : ByteArray := prog_9_method_54_code
def yX7_number : MethodName := ⟨RX7, "number", "()I"⟩
abbrev cX7_readOne : ByteArray := prog_9_method_55_code
def yX7_readOne : MethodName := ⟨RX7, "readOne", "()V"⟩
abbrev cX7_faultOf : ByteArray := prog_9_method_56_code
def yX7_faultOf : MethodName := ⟨RX7, "faultOf", "()I"⟩
abbrev cX7_put : ByteArray := prog_9_method_57_code
def yX7_put : MethodName := ⟨RX7, "put", "(J)I"⟩
abbrev cX7_wipe : ByteArray := prog_9_method_58_code
def yX7_wipe : MethodName := ⟨RX7, "wipe", "()I"⟩
abbrev cX7_fault : ByteArray := prog_9_method_59_code
def yX7_fault : MethodName := ⟨RX7, "fault", "()I"⟩
abbrev cX7_carry : ByteArray := prog_9_method_60_code
def yX7_carry : MethodName := ⟨RX7, "carry", "(I)I"⟩
abbrev cX7_carryOut : ByteArray := prog_9_method_61_code
def yX7_carryOut : MethodName := ⟨RX7, "carryOut", "()I"⟩
abbrev cX7_undo : ByteArray := prog_9_method_62_code
def yX7_undo : MethodName := ⟨RX7, "undo", "()I"⟩
abbrev cX7_save : ByteArray := prog_9_method_63_code
def yX7_save : MethodName := ⟨RX7, "save", "(I)I"⟩
abbrev cX7_restore : ByteArray := prog_9_method_64_code
def yX7_restore : MethodName := ⟨RX7, "restore", "(I)I"⟩
def RJ9 : String := "java/lang/Math"
abbrev cJ9_abs_0f7a4 : ByteArray := prog_10_method_59_code
def yJ9_abs_0f7a4 : MethodName := ⟨RJ9, "abs", "(I)I"⟩
abbrev cJ9_min_7cf53 : ByteArray := prog_10_method_69_code
def yJ9_min_7cf53 : MethodName := ⟨RJ9, "min", "(II)I"⟩
def RL : String := "LoopListenersLaw"
abbrev cL_law : ByteArray := code
def yL_law : MethodName := ⟨RL, "law", "([I)Z"⟩
abbrev vwCl : List vw_C := [(RX0, TX0, 11), (RX1, TX1, 3), (RX2, TX2, 9), (RX3, TX3, 2), (RX4, TX4, 9), (RX5, TX5, 2), (RX6, TX6, 7), (RX7, TX7, 15)]
end
section
theorem dX0_init_0 : decode cX0_init 0 = .ok (.aload_n 0, 1) := by decide +kernel
theorem dX0_init_1 : decode cX0_init 1 = .ok (.invokespecial 3, 3) := by decide +kernel
theorem dX0_init_4 : decode cX0_init 4 = .ok (.aload_n 0, 1) := by decide +kernel
theorem dX0_init_5 : decode cX0_init 5 = .ok (.iload_n 1, 1) := by decide +kernel
theorem dX0_init_6 : decode cX0_init 6 = .ok (.putfield 9, 3) := by decide +kernel
theorem dX0_init_9 : decode cX0_init 9 = .ok (.return_, 1) := by decide +kernel
theorem dX0_arrive_0 : decode cX0_arrive 0 = .ok (.aload_n 0, 1) := by decide +kernel
theorem dX0_arrive_1 : decode cX0_arrive 1 = .ok (.iload_n 1, 1) := by decide +kernel
theorem dX0_arrive_2 : decode cX0_arrive 2 = .ok (.putfield 15, 3) := by decide +kernel
theorem dX0_arrive_5 : decode cX0_arrive 5 = .ok (.aload_n 0, 1) := by decide +kernel
theorem dX0_arrive_6 : decode cX0_arrive 6 = .ok (.iconst 0, 1) := by decide +kernel
theorem dX0_arrive_7 : decode cX0_arrive 7 = .ok (.putfield 18, 3) := by decide +kernel
theorem dX0_arrive_10 : decode cX0_arrive 10 = .ok (.aload_n 0, 1) := by decide +kernel
theorem dX0_arrive_11 : decode cX0_arrive 11 = .ok (.iload_n 2, 1) := by decide +kernel
theorem dX0_arrive_12 : decode cX0_arrive 12 = .ok (.putfield 21, 3) := by decide +kernel
theorem dX0_arrive_15 : decode cX0_arrive 15 = .ok (.aload_n 0, 1) := by decide +kernel
theorem dX0_arrive_16 : decode cX0_arrive 16 = .ok (.iload_n 3, 1) := by decide +kernel
theorem dX0_arrive_17 : decode cX0_arrive 17 = .ok (.putfield 24, 3) := by decide +kernel
theorem dX0_arrive_20 : decode cX0_arrive 20 = .ok (.aload_n 0, 1) := by decide +kernel
theorem dX0_arrive_21 : decode cX0_arrive 21 = .ok (.iload 4, 2) := by decide +kernel
theorem dX0_arrive_23 : decode cX0_arrive 23 = .ok (.putfield 27, 3) := by decide +kernel
theorem dX0_arrive_26 : decode cX0_arrive 26 = .ok (.aload_n 0, 1) := by decide +kernel
theorem dX0_arrive_27 : decode cX0_arrive 27 = .ok (.iconst 0, 1) := by decide +kernel
theorem dX0_arrive_28 : decode cX0_arrive 28 = .ok (.putfield 30, 3) := by decide +kernel
theorem dX0_arrive_31 : decode cX0_arrive 31 = .ok (.aload_n 0, 1) := by decide +kernel
theorem dX0_arrive_32 : decode cX0_arrive 32 = .ok (.iconst 0, 1) := by decide +kernel
theorem dX0_arrive_33 : decode cX0_arrive 33 = .ok (.putfield 34, 3) := by decide +kernel
theorem dX0_arrive_36 : decode cX0_arrive 36 = .ok (.aload_n 0, 1) := by decide +kernel
theorem dX0_arrive_37 : decode cX0_arrive 37 = .ok (.iconst 0, 1) := by decide +kernel
theorem dX0_arrive_38 : decode cX0_arrive 38 = .ok (.putfield 37, 3) := by decide +kernel
theorem dX0_arrive_41 : decode cX0_arrive 41 = .ok (.aload_n 0, 1) := by decide +kernel
theorem dX0_arrive_42 : decode cX0_arrive 42 = .ok (.iconst 0, 1) := by decide +kernel
theorem dX0_arrive_43 : decode cX0_arrive 43 = .ok (.putfield 40, 3) := by decide +kernel
theorem dX0_arrive_46 : decode cX0_arrive 46 = .ok (.aload_n 0, 1) := by decide +kernel
theorem dX0_arrive_47 : decode cX0_arrive 47 = .ok (.iconst 0, 1) := by decide +kernel
theorem dX0_arrive_48 : decode cX0_arrive 48 = .ok (.putfield 43, 3) := by decide +kernel
theorem dX0_arrive_51 : decode cX0_arrive 51 = .ok (.return_, 1) := by decide +kernel
theorem dX0_become_0 : decode cX0_become 0 = .ok (.aload_n 0, 1) := by decide +kernel
theorem dX0_become_1 : decode cX0_become 1 = .ok (.aload_n 1, 1) := by decide +kernel
theorem dX0_become_2 : decode cX0_become 2 = .ok (.getfield 15, 3) := by decide +kernel
theorem dX0_become_5 : decode cX0_become 5 = .ok (.putfield 15, 3) := by decide +kernel
theorem dX0_become_8 : decode cX0_become 8 = .ok (.aload_n 0, 1) := by decide +kernel
theorem dX0_become_9 : decode cX0_become 9 = .ok (.aload_n 1, 1) := by decide +kernel
theorem dX0_become_10 : decode cX0_become 10 = .ok (.getfield 18, 3) := by decide +kernel
theorem dX0_become_13 : decode cX0_become 13 = .ok (.putfield 18, 3) := by decide +kernel
theorem dX0_become_16 : decode cX0_become 16 = .ok (.aload_n 0, 1) := by decide +kernel
theorem dX0_become_17 : decode cX0_become 17 = .ok (.aload_n 1, 1) := by decide +kernel
theorem dX0_become_18 : decode cX0_become 18 = .ok (.getfield 21, 3) := by decide +kernel
theorem dX0_become_21 : decode cX0_become 21 = .ok (.putfield 21, 3) := by decide +kernel
theorem dX0_become_24 : decode cX0_become 24 = .ok (.aload_n 0, 1) := by decide +kernel
theorem dX0_become_25 : decode cX0_become 25 = .ok (.aload_n 1, 1) := by decide +kernel
theorem dX0_become_26 : decode cX0_become 26 = .ok (.getfield 24, 3) := by decide +kernel
theorem dX0_become_29 : decode cX0_become 29 = .ok (.putfield 24, 3) := by decide +kernel
theorem dX0_become_32 : decode cX0_become 32 = .ok (.aload_n 0, 1) := by decide +kernel
theorem dX0_become_33 : decode cX0_become 33 = .ok (.aload_n 1, 1) := by decide +kernel
theorem dX0_become_34 : decode cX0_become 34 = .ok (.getfield 27, 3) := by decide +kernel
theorem dX0_become_37 : decode cX0_become 37 = .ok (.putfield 27, 3) := by decide +kernel
theorem dX0_become_40 : decode cX0_become 40 = .ok (.aload_n 0, 1) := by decide +kernel
theorem dX0_become_41 : decode cX0_become 41 = .ok (.aload_n 1, 1) := by decide +kernel
theorem dX0_become_42 : decode cX0_become 42 = .ok (.getfield 30, 3) := by decide +kernel
theorem dX0_become_45 : decode cX0_become 45 = .ok (.putfield 30, 3) := by decide +kernel
theorem dX0_become_48 : decode cX0_become 48 = .ok (.aload_n 0, 1) := by decide +kernel
theorem dX0_become_49 : decode cX0_become 49 = .ok (.aload_n 1, 1) := by decide +kernel
theorem dX0_become_50 : decode cX0_become 50 = .ok (.getfield 34, 3) := by decide +kernel
theorem dX0_become_53 : decode cX0_become 53 = .ok (.putfield 34, 3) := by decide +kernel
theorem dX0_become_56 : decode cX0_become 56 = .ok (.aload_n 0, 1) := by decide +kernel
theorem dX0_become_57 : decode cX0_become 57 = .ok (.aload_n 1, 1) := by decide +kernel
theorem dX0_become_58 : decode cX0_become 58 = .ok (.getfield 37, 3) := by decide +kernel
theorem dX0_become_61 : decode cX0_become 61 = .ok (.putfield 37, 3) := by decide +kernel
theorem dX0_become_64 : decode cX0_become 64 = .ok (.aload_n 0, 1) := by decide +kernel
theorem dX0_become_65 : decode cX0_become 65 = .ok (.aload_n 1, 1) := by decide +kernel
theorem dX0_become_66 : decode cX0_become 66 = .ok (.getfield 40, 3) := by decide +kernel
theorem dX0_become_69 : decode cX0_become 69 = .ok (.putfield 40, 3) := by decide +kernel
theorem dX0_become_72 : decode cX0_become 72 = .ok (.aload_n 0, 1) := by decide +kernel
theorem dX0_become_73 : decode cX0_become 73 = .ok (.aload_n 1, 1) := by decide +kernel
theorem dX0_become_74 : decode cX0_become 74 = .ok (.getfield 43, 3) := by decide +kernel
theorem dX0_become_77 : decode cX0_become 77 = .ok (.putfield 43, 3) := by decide +kernel
theorem dX0_become_80 : decode cX0_become 80 = .ok (.return_, 1) := by decide +kernel
theorem dX0_last_0 : decode cX0_last 0 = .ok (.aload_n 0, 1) := by decide +kernel
theorem dX0_last_1 : decode cX0_last 1 = .ok (.getfield 18, 3) := by decide +kernel
theorem dX0_last_4 : decode cX0_last 4 = .ok (.aload_n 0, 1) := by decide +kernel
theorem dX0_last_5 : decode cX0_last 5 = .ok (.getfield 21, 3) := by decide +kernel
theorem dX0_last_8 : decode cX0_last 8 = .ok (.isub, 1) := by decide +kernel
theorem dX0_last_9 : decode cX0_last 9 = .ok (.iconst 1, 1) := by decide +kernel
theorem dX0_last_10 : decode cX0_last 10 = .ok (.iadd, 1) := by decide +kernel
theorem dX0_last_11 : decode cX0_last 11 = .ok (.ireturn, 1) := by decide +kernel
theorem dX0_about_0 : decode cX0_about 0 = .ok (.iload_n 1, 1) := by decide +kernel
theorem dX0_about_1 : decode cX0_about 1 = .ok (.tableswitch 112 0 8 #[51, 56, 61, 66, 71, 76, 89, 102, 107], 51) := by decide +kernel
theorem dX0_about_52 : decode cX0_about 52 = .ok (.aload_n 0, 1) := by decide +kernel
theorem dX0_about_53 : decode cX0_about 53 = .ok (.getfield 15, 3) := by decide +kernel
theorem dX0_about_56 : decode cX0_about 56 = .ok (.ireturn, 1) := by decide +kernel
theorem dX0_about_57 : decode cX0_about 57 = .ok (.aload_n 0, 1) := by decide +kernel
theorem dX0_about_58 : decode cX0_about 58 = .ok (.getfield 18, 3) := by decide +kernel
theorem dX0_about_61 : decode cX0_about 61 = .ok (.ireturn, 1) := by decide +kernel
theorem dX0_about_62 : decode cX0_about 62 = .ok (.aload_n 0, 1) := by decide +kernel
theorem dX0_about_63 : decode cX0_about 63 = .ok (.getfield 21, 3) := by decide +kernel
theorem dX0_about_66 : decode cX0_about 66 = .ok (.ireturn, 1) := by decide +kernel
theorem dX0_about_67 : decode cX0_about 67 = .ok (.aload_n 0, 1) := by decide +kernel
theorem dX0_about_68 : decode cX0_about 68 = .ok (.getfield 24, 3) := by decide +kernel
theorem dX0_about_71 : decode cX0_about 71 = .ok (.ireturn, 1) := by decide +kernel
theorem dX0_about_72 : decode cX0_about 72 = .ok (.aload_n 0, 1) := by decide +kernel
theorem dX0_about_73 : decode cX0_about 73 = .ok (.getfield 27, 3) := by decide +kernel
theorem dX0_about_76 : decode cX0_about 76 = .ok (.ireturn, 1) := by decide +kernel
theorem dX0_about_77 : decode cX0_about 77 = .ok (.aload_n 0, 1) := by decide +kernel
theorem dX0_about_78 : decode cX0_about 78 = .ok (.getfield 30, 3) := by decide +kernel
theorem dX0_about_81 : decode cX0_about 81 = .ok (.ifCond .eq 7, 3) := by decide +kernel
theorem dX0_about_84 : decode cX0_about 84 = .ok (.iconst 1, 1) := by decide +kernel
theorem dX0_about_85 : decode cX0_about 85 = .ok (.goto 4, 3) := by decide +kernel
theorem dX0_about_88 : decode cX0_about 88 = .ok (.iconst 0, 1) := by decide +kernel
theorem dX0_about_89 : decode cX0_about 89 = .ok (.ireturn, 1) := by decide +kernel
theorem dX0_about_90 : decode cX0_about 90 = .ok (.aload_n 0, 1) := by decide +kernel
theorem dX0_about_91 : decode cX0_about 91 = .ok (.getfield 34, 3) := by decide +kernel
theorem dX0_about_94 : decode cX0_about 94 = .ok (.ifCond .eq 7, 3) := by decide +kernel
theorem dX0_about_97 : decode cX0_about 97 = .ok (.iconst 1, 1) := by decide +kernel
theorem dX0_about_98 : decode cX0_about 98 = .ok (.goto 4, 3) := by decide +kernel
theorem dX0_about_101 : decode cX0_about 101 = .ok (.iconst 0, 1) := by decide +kernel
theorem dX0_about_102 : decode cX0_about 102 = .ok (.ireturn, 1) := by decide +kernel
theorem dX0_about_103 : decode cX0_about 103 = .ok (.aload_n 0, 1) := by decide +kernel
theorem dX0_about_104 : decode cX0_about 104 = .ok (.getfield 37, 3) := by decide +kernel
theorem dX0_about_107 : decode cX0_about 107 = .ok (.ireturn, 1) := by decide +kernel
theorem dX0_about_108 : decode cX0_about 108 = .ok (.aload_n 0, 1) := by decide +kernel
theorem dX0_about_109 : decode cX0_about 109 = .ok (.getfield 40, 3) := by decide +kernel
theorem dX0_about_112 : decode cX0_about 112 = .ok (.ireturn, 1) := by decide +kernel
theorem dX0_about_113 : decode cX0_about 113 = .ok (.bipush (-2), 2) := by decide +kernel
theorem dX0_about_115 : decode cX0_about 115 = .ok (.ireturn, 1) := by decide +kernel
theorem dX1_init_0 : decode cX1_init 0 = .ok (.aload_n 0, 1) := by decide +kernel
theorem dX1_init_1 : decode cX1_init 1 = .ok (.invokespecial 3, 3) := by decide +kernel
theorem dX1_init_4 : decode cX1_init 4 = .ok (.aload_n 0, 1) := by decide +kernel
theorem dX1_init_5 : decode cX1_init 5 = .ok (.bipush 7, 2) := by decide +kernel
theorem dX1_init_7 : decode cX1_init 7 = .ok (.anewarray 9, 3) := by decide +kernel
theorem dX1_init_10 : decode cX1_init 10 = .ok (.putfield 11, 3) := by decide +kernel
theorem dX1_init_13 : decode cX1_init 13 = .ok (.iconst 0, 1) := by decide +kernel
theorem dX1_init_14 : decode cX1_init 14 = .ok (.istore_n 1, 1) := by decide +kernel
theorem dX1_init_15 : decode cX1_init 15 = .ok (.iload_n 1, 1) := by decide +kernel
theorem dX1_init_16 : decode cX1_init 16 = .ok (.aload_n 0, 1) := by decide +kernel
theorem dX1_init_17 : decode cX1_init 17 = .ok (.getfield 11, 3) := by decide +kernel
theorem dX1_init_20 : decode cX1_init 20 = .ok (.arraylength, 1) := by decide +kernel
theorem dX1_init_21 : decode cX1_init 21 = .ok (.if_icmp .ge 22, 3) := by decide +kernel
theorem dX1_init_24 : decode cX1_init 24 = .ok (.aload_n 0, 1) := by decide +kernel
theorem dX1_init_25 : decode cX1_init 25 = .ok (.getfield 11, 3) := by decide +kernel
theorem dX1_init_28 : decode cX1_init 28 = .ok (.iload_n 1, 1) := by decide +kernel
theorem dX1_init_29 : decode cX1_init 29 = .ok (.new 9, 3) := by decide +kernel
theorem dX1_init_32 : decode cX1_init 32 = .ok (.dup, 1) := by decide +kernel
theorem dX1_init_33 : decode cX1_init 33 = .ok (.invokespecial 17, 3) := by decide +kernel
theorem dX1_init_36 : decode cX1_init 36 = .ok (.aastore, 1) := by decide +kernel
theorem dX1_init_37 : decode cX1_init 37 = .ok (.iinc 1 1, 3) := by decide +kernel
theorem dX1_init_40 : decode cX1_init 40 = .ok (.goto (-25), 3) := by decide +kernel
theorem dX1_init_43 : decode cX1_init 43 = .ok (.return_, 1) := by decide +kernel
theorem dX1_note_0 : decode cX1_note 0 = .ok (.aload_n 0, 1) := by decide +kernel
theorem dX1_note_1 : decode cX1_note 1 = .ok (.invokevirtual 18, 3) := by decide +kernel
theorem dX1_note_4 : decode cX1_note 4 = .ok (.astore_n 2, 1) := by decide +kernel
theorem dX1_note_5 : decode cX1_note 5 = .ok (.aload_n 2, 1) := by decide +kernel
theorem dX1_note_6 : decode cX1_note 6 = .ok (.ifnull 8, 3) := by decide +kernel
theorem dX1_note_9 : decode cX1_note 9 = .ok (.aload_n 2, 1) := by decide +kernel
theorem dX1_note_10 : decode cX1_note 10 = .ok (.aload_n 1, 1) := by decide +kernel
theorem dX1_note_11 : decode cX1_note 11 = .ok (.invokevirtual 22, 3) := by decide +kernel
theorem dX1_note_14 : decode cX1_note 14 = .ok (.return_, 1) := by decide +kernel
theorem dX1_keep_0 : decode cX1_keep 0 = .ok (.aload_n 0, 1) := by decide +kernel
theorem dX1_keep_1 : decode cX1_keep 1 = .ok (.aload_n 0, 1) := by decide +kernel
theorem dX1_keep_2 : decode cX1_keep 2 = .ok (.getfield 26, 3) := by decide +kernel
theorem dX1_keep_5 : decode cX1_keep 5 = .ok (.iconst 1, 1) := by decide +kernel
theorem dX1_keep_6 : decode cX1_keep 6 = .ok (.iadd, 1) := by decide +kernel
theorem dX1_keep_7 : decode cX1_keep 7 = .ok (.aload_n 0, 1) := by decide +kernel
theorem dX1_keep_8 : decode cX1_keep 8 = .ok (.getfield 11, 3) := by decide +kernel
theorem dX1_keep_11 : decode cX1_keep 11 = .ok (.arraylength, 1) := by decide +kernel
theorem dX1_keep_12 : decode cX1_keep 12 = .ok (.if_icmp .ge 12, 3) := by decide +kernel
theorem dX1_keep_15 : decode cX1_keep 15 = .ok (.aload_n 0, 1) := by decide +kernel
theorem dX1_keep_16 : decode cX1_keep 16 = .ok (.getfield 26, 3) := by decide +kernel
theorem dX1_keep_19 : decode cX1_keep 19 = .ok (.iconst 1, 1) := by decide +kernel
theorem dX1_keep_20 : decode cX1_keep 20 = .ok (.iadd, 1) := by decide +kernel
theorem dX1_keep_21 : decode cX1_keep 21 = .ok (.goto 4, 3) := by decide +kernel
theorem dX1_keep_24 : decode cX1_keep 24 = .ok (.iconst 0, 1) := by decide +kernel
theorem dX1_keep_25 : decode cX1_keep 25 = .ok (.putfield 26, 3) := by decide +kernel
theorem dX1_keep_28 : decode cX1_keep 28 = .ok (.aload_n 0, 1) := by decide +kernel
theorem dX1_keep_29 : decode cX1_keep 29 = .ok (.aload_n 0, 1) := by decide +kernel
theorem dX1_keep_30 : decode cX1_keep 30 = .ok (.getfield 30, 3) := by decide +kernel
theorem dX1_keep_33 : decode cX1_keep 33 = .ok (.iconst 1, 1) := by decide +kernel
theorem dX1_keep_34 : decode cX1_keep 34 = .ok (.iadd, 1) := by decide +kernel
theorem dX1_keep_35 : decode cX1_keep 35 = .ok (.bipush 6, 2) := by decide +kernel
theorem dX1_keep_37 : decode cX1_keep 37 = .ok (.invokestatic 33, 3) := by decide +kernel
theorem dX1_keep_40 : decode cX1_keep 40 = .ok (.putfield 30, 3) := by decide +kernel
theorem dX1_keep_43 : decode cX1_keep 43 = .ok (.return_, 1) := by decide +kernel
theorem dX1_stepBack_0 : decode cX1_stepBack 0 = .ok (.aload_n 0, 1) := by decide +kernel
theorem dX1_stepBack_1 : decode cX1_stepBack 1 = .ok (.getfield 30, 3) := by decide +kernel
theorem dX1_stepBack_4 : decode cX1_stepBack 4 = .ok (.ifCond .gt 6, 3) := by decide +kernel
theorem dX1_stepBack_7 : decode cX1_stepBack 7 = .ok (.bipush (-5), 2) := by decide +kernel
theorem dX1_stepBack_9 : decode cX1_stepBack 9 = .ok (.ireturn, 1) := by decide +kernel
theorem dX1_stepBack_10 : decode cX1_stepBack 10 = .ok (.aload_n 0, 1) := by decide +kernel
theorem dX1_stepBack_11 : decode cX1_stepBack 11 = .ok (.dup, 1) := by decide +kernel
theorem dX1_stepBack_12 : decode cX1_stepBack 12 = .ok (.getfield 30, 3) := by decide +kernel
theorem dX1_stepBack_15 : decode cX1_stepBack 15 = .ok (.iconst 1, 1) := by decide +kernel
theorem dX1_stepBack_16 : decode cX1_stepBack 16 = .ok (.isub, 1) := by decide +kernel
theorem dX1_stepBack_17 : decode cX1_stepBack 17 = .ok (.putfield 30, 3) := by decide +kernel
theorem dX1_stepBack_20 : decode cX1_stepBack 20 = .ok (.aload_n 0, 1) := by decide +kernel
theorem dX1_stepBack_21 : decode cX1_stepBack 21 = .ok (.aload_n 0, 1) := by decide +kernel
theorem dX1_stepBack_22 : decode cX1_stepBack 22 = .ok (.getfield 26, 3) := by decide +kernel
theorem dX1_stepBack_25 : decode cX1_stepBack 25 = .ok (.ifCond .le 12, 3) := by decide +kernel
theorem dX1_stepBack_28 : decode cX1_stepBack 28 = .ok (.aload_n 0, 1) := by decide +kernel
theorem dX1_stepBack_29 : decode cX1_stepBack 29 = .ok (.getfield 26, 3) := by decide +kernel
theorem dX1_stepBack_32 : decode cX1_stepBack 32 = .ok (.iconst 1, 1) := by decide +kernel
theorem dX1_stepBack_33 : decode cX1_stepBack 33 = .ok (.isub, 1) := by decide +kernel
theorem dX1_stepBack_34 : decode cX1_stepBack 34 = .ok (.goto 10, 3) := by decide +kernel
theorem dX1_stepBack_37 : decode cX1_stepBack 37 = .ok (.aload_n 0, 1) := by decide +kernel
theorem dX1_stepBack_38 : decode cX1_stepBack 38 = .ok (.getfield 11, 3) := by decide +kernel
theorem dX1_stepBack_41 : decode cX1_stepBack 41 = .ok (.arraylength, 1) := by decide +kernel
theorem dX1_stepBack_42 : decode cX1_stepBack 42 = .ok (.iconst 1, 1) := by decide +kernel
theorem dX1_stepBack_43 : decode cX1_stepBack 43 = .ok (.isub, 1) := by decide +kernel
theorem dX1_stepBack_44 : decode cX1_stepBack 44 = .ok (.putfield 26, 3) := by decide +kernel
theorem dX1_stepBack_47 : decode cX1_stepBack 47 = .ok (.aload_n 0, 1) := by decide +kernel
theorem dX1_stepBack_48 : decode cX1_stepBack 48 = .ok (.invokevirtual 18, 3) := by decide +kernel
theorem dX1_stepBack_51 : decode cX1_stepBack 51 = .ok (.astore_n 2, 1) := by decide +kernel
theorem dX1_stepBack_52 : decode cX1_stepBack 52 = .ok (.aload_n 2, 1) := by decide +kernel
theorem dX1_stepBack_53 : decode cX1_stepBack 53 = .ok (.ifnull 8, 3) := by decide +kernel
theorem dX1_stepBack_56 : decode cX1_stepBack 56 = .ok (.aload_n 1, 1) := by decide +kernel
theorem dX1_stepBack_57 : decode cX1_stepBack 57 = .ok (.aload_n 2, 1) := by decide +kernel
theorem dX1_stepBack_58 : decode cX1_stepBack 58 = .ok (.invokevirtual 22, 3) := by decide +kernel
theorem dX1_stepBack_61 : decode cX1_stepBack 61 = .ok (.aload_n 0, 1) := by decide +kernel
theorem dX1_stepBack_62 : decode cX1_stepBack 62 = .ok (.getfield 30, 3) := by decide +kernel
theorem dX1_stepBack_65 : decode cX1_stepBack 65 = .ok (.ireturn, 1) := by decide +kernel
theorem dX1_notedState_0 : decode cX1_notedState 0 = .ok (.aload_n 0, 1) := by decide +kernel
theorem dX1_notedState_1 : decode cX1_notedState 1 = .ok (.getfield 26, 3) := by decide +kernel
theorem dX1_notedState_4 : decode cX1_notedState 4 = .ok (.ifCond .lt 27, 3) := by decide +kernel
theorem dX1_notedState_7 : decode cX1_notedState 7 = .ok (.aload_n 0, 1) := by decide +kernel
theorem dX1_notedState_8 : decode cX1_notedState 8 = .ok (.getfield 26, 3) := by decide +kernel
theorem dX1_notedState_11 : decode cX1_notedState 11 = .ok (.aload_n 0, 1) := by decide +kernel
theorem dX1_notedState_12 : decode cX1_notedState 12 = .ok (.getfield 11, 3) := by decide +kernel
theorem dX1_notedState_15 : decode cX1_notedState 15 = .ok (.arraylength, 1) := by decide +kernel
theorem dX1_notedState_16 : decode cX1_notedState 16 = .ok (.if_icmp .ge 15, 3) := by decide +kernel
theorem dX1_notedState_19 : decode cX1_notedState 19 = .ok (.aload_n 0, 1) := by decide +kernel
theorem dX1_notedState_20 : decode cX1_notedState 20 = .ok (.getfield 11, 3) := by decide +kernel
theorem dX1_notedState_23 : decode cX1_notedState 23 = .ok (.aload_n 0, 1) := by decide +kernel
theorem dX1_notedState_24 : decode cX1_notedState 24 = .ok (.getfield 26, 3) := by decide +kernel
theorem dX1_notedState_27 : decode cX1_notedState 27 = .ok (.aaload, 1) := by decide +kernel
theorem dX1_notedState_28 : decode cX1_notedState 28 = .ok (.goto 4, 3) := by decide +kernel
theorem dX1_notedState_31 : decode cX1_notedState 31 = .ok (.aconst_null, 1) := by decide +kernel
theorem dX1_notedState_32 : decode cX1_notedState 32 = .ok (.areturn, 1) := by decide +kernel
theorem dX2_init_0 : decode cX2_init 0 = .ok (.aload_n 0, 1) := by decide +kernel
theorem dX2_init_1 : decode cX2_init 1 = .ok (.invokespecial 3, 3) := by decide +kernel
theorem dX2_init_4 : decode cX2_init 4 = .ok (.return_, 1) := by decide +kernel
theorem dX2_lay_0 : decode cX2_lay 0 = .ok (.aload_n 0, 1) := by decide +kernel
theorem dX2_lay_1 : decode cX2_lay 1 = .ok (.iload_n 1, 1) := by decide +kernel
theorem dX2_lay_2 : decode cX2_lay 2 = .ok (.putfield 9, 3) := by decide +kernel
theorem dX2_lay_5 : decode cX2_lay 5 = .ok (.aload_n 0, 1) := by decide +kernel
theorem dX2_lay_6 : decode cX2_lay 6 = .ok (.iload_n 2, 1) := by decide +kernel
theorem dX2_lay_7 : decode cX2_lay 7 = .ok (.putfield 15, 3) := by decide +kernel
theorem dX2_lay_10 : decode cX2_lay 10 = .ok (.aload_n 0, 1) := by decide +kernel
theorem dX2_lay_11 : decode cX2_lay 11 = .ok (.iload_n 3, 1) := by decide +kernel
theorem dX2_lay_12 : decode cX2_lay 12 = .ok (.putfield 18, 3) := by decide +kernel
theorem dX2_lay_15 : decode cX2_lay 15 = .ok (.aload_n 0, 1) := by decide +kernel
theorem dX2_lay_16 : decode cX2_lay 16 = .ok (.iload 4, 2) := by decide +kernel
theorem dX2_lay_18 : decode cX2_lay 18 = .ok (.putfield 21, 3) := by decide +kernel
theorem dX2_lay_21 : decode cX2_lay 21 = .ok (.aload_n 0, 1) := by decide +kernel
theorem dX2_lay_22 : decode cX2_lay 22 = .ok (.iload 5, 2) := by decide +kernel
theorem dX2_lay_24 : decode cX2_lay 24 = .ok (.putfield 24, 3) := by decide +kernel
theorem dX2_lay_27 : decode cX2_lay 27 = .ok (.aload_n 0, 1) := by decide +kernel
theorem dX2_lay_28 : decode cX2_lay 28 = .ok (.iconst 0, 1) := by decide +kernel
theorem dX2_lay_29 : decode cX2_lay 29 = .ok (.putfield 27, 3) := by decide +kernel
theorem dX2_lay_32 : decode cX2_lay 32 = .ok (.aload_n 0, 1) := by decide +kernel
theorem dX2_lay_33 : decode cX2_lay 33 = .ok (.iconst 0, 1) := by decide +kernel
theorem dX2_lay_34 : decode cX2_lay 34 = .ok (.putfield 31, 3) := by decide +kernel
theorem dX2_lay_37 : decode cX2_lay 37 = .ok (.aload_n 0, 1) := by decide +kernel
theorem dX2_lay_38 : decode cX2_lay 38 = .ok (.iconst 0, 1) := by decide +kernel
theorem dX2_lay_39 : decode cX2_lay 39 = .ok (.putfield 34, 3) := by decide +kernel
theorem dX2_lay_42 : decode cX2_lay 42 = .ok (.aload_n 0, 1) := by decide +kernel
theorem dX2_lay_43 : decode cX2_lay 43 = .ok (.iconst 0, 1) := by decide +kernel
theorem dX2_lay_44 : decode cX2_lay 44 = .ok (.putfield 37, 3) := by decide +kernel
theorem dX2_lay_47 : decode cX2_lay 47 = .ok (.return_, 1) := by decide +kernel
theorem dX2_become_0 : decode cX2_become 0 = .ok (.aload_n 0, 1) := by decide +kernel
theorem dX2_become_1 : decode cX2_become 1 = .ok (.aload_n 1, 1) := by decide +kernel
theorem dX2_become_2 : decode cX2_become 2 = .ok (.getfield 9, 3) := by decide +kernel
theorem dX2_become_5 : decode cX2_become 5 = .ok (.putfield 9, 3) := by decide +kernel
theorem dX2_become_8 : decode cX2_become 8 = .ok (.aload_n 0, 1) := by decide +kernel
theorem dX2_become_9 : decode cX2_become 9 = .ok (.aload_n 1, 1) := by decide +kernel
theorem dX2_become_10 : decode cX2_become 10 = .ok (.getfield 15, 3) := by decide +kernel
theorem dX2_become_13 : decode cX2_become 13 = .ok (.putfield 15, 3) := by decide +kernel
theorem dX2_become_16 : decode cX2_become 16 = .ok (.aload_n 0, 1) := by decide +kernel
theorem dX2_become_17 : decode cX2_become 17 = .ok (.aload_n 1, 1) := by decide +kernel
theorem dX2_become_18 : decode cX2_become 18 = .ok (.getfield 18, 3) := by decide +kernel
theorem dX2_become_21 : decode cX2_become 21 = .ok (.putfield 18, 3) := by decide +kernel
theorem dX2_become_24 : decode cX2_become 24 = .ok (.aload_n 0, 1) := by decide +kernel
theorem dX2_become_25 : decode cX2_become 25 = .ok (.aload_n 1, 1) := by decide +kernel
theorem dX2_become_26 : decode cX2_become 26 = .ok (.getfield 21, 3) := by decide +kernel
theorem dX2_become_29 : decode cX2_become 29 = .ok (.putfield 21, 3) := by decide +kernel
theorem dX2_become_32 : decode cX2_become 32 = .ok (.aload_n 0, 1) := by decide +kernel
theorem dX2_become_33 : decode cX2_become 33 = .ok (.aload_n 1, 1) := by decide +kernel
theorem dX2_become_34 : decode cX2_become 34 = .ok (.getfield 24, 3) := by decide +kernel
theorem dX2_become_37 : decode cX2_become 37 = .ok (.putfield 24, 3) := by decide +kernel
theorem dX2_become_40 : decode cX2_become 40 = .ok (.aload_n 0, 1) := by decide +kernel
theorem dX2_become_41 : decode cX2_become 41 = .ok (.aload_n 1, 1) := by decide +kernel
theorem dX2_become_42 : decode cX2_become 42 = .ok (.getfield 27, 3) := by decide +kernel
theorem dX2_become_45 : decode cX2_become 45 = .ok (.putfield 27, 3) := by decide +kernel
theorem dX2_become_48 : decode cX2_become 48 = .ok (.aload_n 0, 1) := by decide +kernel
theorem dX2_become_49 : decode cX2_become 49 = .ok (.aload_n 1, 1) := by decide +kernel
theorem dX2_become_50 : decode cX2_become 50 = .ok (.getfield 31, 3) := by decide +kernel
theorem dX2_become_53 : decode cX2_become 53 = .ok (.putfield 31, 3) := by decide +kernel
theorem dX2_become_56 : decode cX2_become 56 = .ok (.aload_n 0, 1) := by decide +kernel
theorem dX2_become_57 : decode cX2_become 57 = .ok (.aload_n 1, 1) := by decide +kernel
theorem dX2_become_58 : decode cX2_become 58 = .ok (.getfield 34, 3) := by decide +kernel
theorem dX2_become_61 : decode cX2_become 61 = .ok (.putfield 34, 3) := by decide +kernel
theorem dX2_become_64 : decode cX2_become 64 = .ok (.aload_n 0, 1) := by decide +kernel
theorem dX2_become_65 : decode cX2_become 65 = .ok (.aload_n 1, 1) := by decide +kernel
theorem dX2_become_66 : decode cX2_become 66 = .ok (.getfield 37, 3) := by decide +kernel
theorem dX2_become_69 : decode cX2_become 69 = .ok (.putfield 37, 3) := by decide +kernel
theorem dX2_become_72 : decode cX2_become 72 = .ok (.return_, 1) := by decide +kernel
theorem dX2_isUnder_0 : decode cX2_isUnder 0 = .ok (.aload_n 1, 1) := by decide +kernel
theorem dX2_isUnder_1 : decode cX2_isUnder 1 = .ok (.getfield 40, 3) := by decide +kernel
theorem dX2_isUnder_4 : decode cX2_isUnder 4 = .ok (.aload_n 1, 1) := by decide +kernel
theorem dX2_isUnder_5 : decode cX2_isUnder 5 = .ok (.getfield 45, 3) := by decide +kernel
theorem dX2_isUnder_8 : decode cX2_isUnder 8 = .ok (.isub, 1) := by decide +kernel
theorem dX2_isUnder_9 : decode cX2_isUnder 9 = .ok (.iconst 1, 1) := by decide +kernel
theorem dX2_isUnder_10 : decode cX2_isUnder 10 = .ok (.iadd, 1) := by decide +kernel
theorem dX2_isUnder_11 : decode cX2_isUnder 11 = .ok (.istore_n 2, 1) := by decide +kernel
theorem dX2_isUnder_12 : decode cX2_isUnder 12 = .ok (.aload_n 0, 1) := by decide +kernel
theorem dX2_isUnder_13 : decode cX2_isUnder 13 = .ok (.getfield 9, 3) := by decide +kernel
theorem dX2_isUnder_16 : decode cX2_isUnder 16 = .ok (.aload_n 1, 1) := by decide +kernel
theorem dX2_isUnder_17 : decode cX2_isUnder 17 = .ok (.getfield 48, 3) := by decide +kernel
theorem dX2_isUnder_20 : decode cX2_isUnder 20 = .ok (.if_icmp .ne 31, 3) := by decide +kernel
theorem dX2_isUnder_23 : decode cX2_isUnder 23 = .ok (.aload_n 0, 1) := by decide +kernel
theorem dX2_isUnder_24 : decode cX2_isUnder 24 = .ok (.getfield 15, 3) := by decide +kernel
theorem dX2_isUnder_27 : decode cX2_isUnder 27 = .ok (.aload_n 1, 1) := by decide +kernel
theorem dX2_isUnder_28 : decode cX2_isUnder 28 = .ok (.getfield 40, 3) := by decide +kernel
theorem dX2_isUnder_31 : decode cX2_isUnder 31 = .ok (.if_icmp .gt 20, 3) := by decide +kernel
theorem dX2_isUnder_34 : decode cX2_isUnder 34 = .ok (.iload_n 2, 1) := by decide +kernel
theorem dX2_isUnder_35 : decode cX2_isUnder 35 = .ok (.aload_n 0, 1) := by decide +kernel
theorem dX2_isUnder_36 : decode cX2_isUnder 36 = .ok (.getfield 15, 3) := by decide +kernel
theorem dX2_isUnder_39 : decode cX2_isUnder 39 = .ok (.aload_n 0, 1) := by decide +kernel
theorem dX2_isUnder_40 : decode cX2_isUnder 40 = .ok (.getfield 18, 3) := by decide +kernel
theorem dX2_isUnder_43 : decode cX2_isUnder 43 = .ok (.iadd, 1) := by decide +kernel
theorem dX2_isUnder_44 : decode cX2_isUnder 44 = .ok (.if_icmp .ge 7, 3) := by decide +kernel
theorem dX2_isUnder_47 : decode cX2_isUnder 47 = .ok (.iconst 1, 1) := by decide +kernel
theorem dX2_isUnder_48 : decode cX2_isUnder 48 = .ok (.goto 4, 3) := by decide +kernel
theorem dX2_isUnder_51 : decode cX2_isUnder 51 = .ok (.iconst 0, 1) := by decide +kernel
theorem dX2_isUnder_52 : decode cX2_isUnder 52 = .ok (.ireturn, 1) := by decide +kernel
theorem dX2_hear_0 : decode cX2_hear 0 = .ok (.aload_n 0, 1) := by decide +kernel
theorem dX2_hear_1 : decode cX2_hear 1 = .ok (.dup, 1) := by decide +kernel
theorem dX2_hear_2 : decode cX2_hear 2 = .ok (.getfield 37, 3) := by decide +kernel
theorem dX2_hear_5 : decode cX2_hear 5 = .ok (.iconst 1, 1) := by decide +kernel
theorem dX2_hear_6 : decode cX2_hear 6 = .ok (.iadd, 1) := by decide +kernel
theorem dX2_hear_7 : decode cX2_hear 7 = .ok (.putfield 37, 3) := by decide +kernel
theorem dX2_hear_10 : decode cX2_hear 10 = .ok (.aload_n 0, 1) := by decide +kernel
theorem dX2_hear_11 : decode cX2_hear 11 = .ok (.getfield 27, 3) := by decide +kernel
theorem dX2_hear_14 : decode cX2_hear 14 = .ok (.ifCond .ne 29, 3) := by decide +kernel
theorem dX2_hear_17 : decode cX2_hear 17 = .ok (.iload_n 1, 1) := by decide +kernel
theorem dX2_hear_18 : decode cX2_hear 18 = .ok (.aload_n 0, 1) := by decide +kernel
theorem dX2_hear_19 : decode cX2_hear 19 = .ok (.getfield 21, 3) := by decide +kernel
theorem dX2_hear_22 : decode cX2_hear 22 = .ok (.if_icmp .lt 21, 3) := by decide +kernel
theorem dX2_hear_25 : decode cX2_hear 25 = .ok (.aload_n 0, 1) := by decide +kernel
theorem dX2_hear_26 : decode cX2_hear 26 = .ok (.iconst 1, 1) := by decide +kernel
theorem dX2_hear_27 : decode cX2_hear 27 = .ok (.putfield 27, 3) := by decide +kernel
theorem dX2_hear_30 : decode cX2_hear 30 = .ok (.aload_n 0, 1) := by decide +kernel
theorem dX2_hear_31 : decode cX2_hear 31 = .ok (.dup, 1) := by decide +kernel
theorem dX2_hear_32 : decode cX2_hear 32 = .ok (.getfield 31, 3) := by decide +kernel
theorem dX2_hear_35 : decode cX2_hear 35 = .ok (.iconst 1, 1) := by decide +kernel
theorem dX2_hear_36 : decode cX2_hear 36 = .ok (.iadd, 1) := by decide +kernel
theorem dX2_hear_37 : decode cX2_hear 37 = .ok (.putfield 31, 3) := by decide +kernel
theorem dX2_hear_40 : decode cX2_hear 40 = .ok (.goto 23, 3) := by decide +kernel
theorem dX2_hear_43 : decode cX2_hear 43 = .ok (.aload_n 0, 1) := by decide +kernel
theorem dX2_hear_44 : decode cX2_hear 44 = .ok (.getfield 27, 3) := by decide +kernel
theorem dX2_hear_47 : decode cX2_hear 47 = .ok (.ifCond .eq 16, 3) := by decide +kernel
theorem dX2_hear_50 : decode cX2_hear 50 = .ok (.iload_n 1, 1) := by decide +kernel
theorem dX2_hear_51 : decode cX2_hear 51 = .ok (.aload_n 0, 1) := by decide +kernel
theorem dX2_hear_52 : decode cX2_hear 52 = .ok (.getfield 24, 3) := by decide +kernel
theorem dX2_hear_55 : decode cX2_hear 55 = .ok (.if_icmp .ge 8, 3) := by decide +kernel
theorem dX2_hear_58 : decode cX2_hear 58 = .ok (.aload_n 0, 1) := by decide +kernel
theorem dX2_hear_59 : decode cX2_hear 59 = .ok (.iconst 0, 1) := by decide +kernel
theorem dX2_hear_60 : decode cX2_hear 60 = .ok (.putfield 27, 3) := by decide +kernel
theorem dX2_hear_63 : decode cX2_hear 63 = .ok (.return_, 1) := by decide +kernel
theorem dX2_falselyCounted_0 : decode cX2_falselyCounted 0 = .ok (.aload_n 0, 1) := by decide +kernel
theorem dX2_falselyCounted_1 : decode cX2_falselyCounted 1 = .ok (.getfield 31, 3) := by decide +kernel
theorem dX2_falselyCounted_4 : decode cX2_falselyCounted 4 = .ok (.aload_n 0, 1) := by decide +kernel
theorem dX2_falselyCounted_5 : decode cX2_falselyCounted 5 = .ok (.getfield 34, 3) := by decide +kernel
theorem dX2_falselyCounted_8 : decode cX2_falselyCounted 8 = .ok (.isub, 1) := by decide +kernel
theorem dX2_falselyCounted_9 : decode cX2_falselyCounted 9 = .ok (.ireturn, 1) := by decide +kernel
theorem dX2_about_0 : decode cX2_about 0 = .ok (.iload_n 1, 1) := by decide +kernel
theorem dX2_about_1 : decode cX2_about 1 = .ok (.tableswitch 108 0 9 #[55, 60, 65, 70, 75, 80, 93, 98, 108, 103], 55) := by decide +kernel
theorem dX2_about_56 : decode cX2_about 56 = .ok (.aload_n 0, 1) := by decide +kernel
theorem dX2_about_57 : decode cX2_about 57 = .ok (.getfield 9, 3) := by decide +kernel
theorem dX2_about_60 : decode cX2_about 60 = .ok (.ireturn, 1) := by decide +kernel
theorem dX2_about_61 : decode cX2_about 61 = .ok (.aload_n 0, 1) := by decide +kernel
theorem dX2_about_62 : decode cX2_about 62 = .ok (.getfield 15, 3) := by decide +kernel
theorem dX2_about_65 : decode cX2_about 65 = .ok (.ireturn, 1) := by decide +kernel
theorem dX2_about_66 : decode cX2_about 66 = .ok (.aload_n 0, 1) := by decide +kernel
theorem dX2_about_67 : decode cX2_about 67 = .ok (.getfield 18, 3) := by decide +kernel
theorem dX2_about_70 : decode cX2_about 70 = .ok (.ireturn, 1) := by decide +kernel
theorem dX2_about_71 : decode cX2_about 71 = .ok (.aload_n 0, 1) := by decide +kernel
theorem dX2_about_72 : decode cX2_about 72 = .ok (.getfield 21, 3) := by decide +kernel
theorem dX2_about_75 : decode cX2_about 75 = .ok (.ireturn, 1) := by decide +kernel
theorem dX2_about_76 : decode cX2_about 76 = .ok (.aload_n 0, 1) := by decide +kernel
theorem dX2_about_77 : decode cX2_about 77 = .ok (.getfield 24, 3) := by decide +kernel
theorem dX2_about_80 : decode cX2_about 80 = .ok (.ireturn, 1) := by decide +kernel
theorem dX2_about_81 : decode cX2_about 81 = .ok (.aload_n 0, 1) := by decide +kernel
theorem dX2_about_82 : decode cX2_about 82 = .ok (.getfield 27, 3) := by decide +kernel
theorem dX2_about_85 : decode cX2_about 85 = .ok (.ifCond .eq 7, 3) := by decide +kernel
theorem dX2_about_88 : decode cX2_about 88 = .ok (.iconst 1, 1) := by decide +kernel
theorem dX2_about_89 : decode cX2_about 89 = .ok (.goto 4, 3) := by decide +kernel
theorem dX2_about_92 : decode cX2_about 92 = .ok (.iconst 0, 1) := by decide +kernel
theorem dX2_about_93 : decode cX2_about 93 = .ok (.ireturn, 1) := by decide +kernel
theorem dX2_about_94 : decode cX2_about 94 = .ok (.aload_n 0, 1) := by decide +kernel
theorem dX2_about_95 : decode cX2_about 95 = .ok (.getfield 31, 3) := by decide +kernel
theorem dX2_about_98 : decode cX2_about 98 = .ok (.ireturn, 1) := by decide +kernel
theorem dX2_about_99 : decode cX2_about 99 = .ok (.aload_n 0, 1) := by decide +kernel
theorem dX2_about_100 : decode cX2_about 100 = .ok (.getfield 34, 3) := by decide +kernel
theorem dX2_about_103 : decode cX2_about 103 = .ok (.ireturn, 1) := by decide +kernel
theorem dX2_about_104 : decode cX2_about 104 = .ok (.aload_n 0, 1) := by decide +kernel
theorem dX2_about_105 : decode cX2_about 105 = .ok (.getfield 37, 3) := by decide +kernel
theorem dX2_about_108 : decode cX2_about 108 = .ok (.ireturn, 1) := by decide +kernel
theorem dX2_about_109 : decode cX2_about 109 = .ok (.bipush (-2), 2) := by decide +kernel
theorem dX2_about_111 : decode cX2_about 111 = .ok (.ireturn, 1) := by decide +kernel
theorem dX3_init_0 : decode cX3_init 0 = .ok (.aload_n 0, 1) := by decide +kernel
theorem dX3_init_1 : decode cX3_init 1 = .ok (.invokespecial 3, 3) := by decide +kernel
theorem dX3_init_4 : decode cX3_init 4 = .ok (.aload_n 0, 1) := by decide +kernel
theorem dX3_init_5 : decode cX3_init 5 = .ok (.bipush 60, 2) := by decide +kernel
theorem dX3_init_7 : decode cX3_init 7 = .ok (.newarray .char, 2) := by decide +kernel
theorem dX3_init_9 : decode cX3_init 9 = .ok (.putfield 9, 3) := by decide +kernel
theorem dX3_init_12 : decode cX3_init 12 = .ok (.return_, 1) := by decide +kernel
theorem dX3_append_0 : decode cX3_append 0 = .ok (.lload_n 1, 1) := by decide +kernel
theorem dX3_append_1 : decode cX3_append 1 = .ok (.invokestatic 15, 3) := by decide +kernel
theorem dX3_append_4 : decode cX3_append 4 = .ok (.istore_n 3, 1) := by decide +kernel
theorem dX3_append_5 : decode cX3_append 5 = .ok (.iload_n 3, 1) := by decide +kernel
theorem dX3_append_6 : decode cX3_append 6 = .ok (.ifCond .ne 6, 3) := by decide +kernel
theorem dX3_append_9 : decode cX3_append 9 = .ok (.bipush (-2), 2) := by decide +kernel
theorem dX3_append_11 : decode cX3_append 11 = .ok (.ireturn, 1) := by decide +kernel
theorem dX3_append_12 : decode cX3_append 12 = .ok (.aload_n 0, 1) := by decide +kernel
theorem dX3_append_13 : decode cX3_append 13 = .ok (.getfield 19, 3) := by decide +kernel
theorem dX3_append_16 : decode cX3_append 16 = .ok (.iload_n 3, 1) := by decide +kernel
theorem dX3_append_17 : decode cX3_append 17 = .ok (.iadd, 1) := by decide +kernel
theorem dX3_append_18 : decode cX3_append 18 = .ok (.aload_n 0, 1) := by decide +kernel
theorem dX3_append_19 : decode cX3_append 19 = .ok (.getfield 9, 3) := by decide +kernel
theorem dX3_append_22 : decode cX3_append 22 = .ok (.arraylength, 1) := by decide +kernel
theorem dX3_append_23 : decode cX3_append 23 = .ok (.if_icmp .le 6, 3) := by decide +kernel
theorem dX3_append_26 : decode cX3_append 26 = .ok (.bipush (-4), 2) := by decide +kernel
theorem dX3_append_28 : decode cX3_append 28 = .ok (.ireturn, 1) := by decide +kernel
theorem dX3_append_29 : decode cX3_append 29 = .ok (.iload_n 3, 1) := by decide +kernel
theorem dX3_append_30 : decode cX3_append 30 = .ok (.iconst 1, 1) := by decide +kernel
theorem dX3_append_31 : decode cX3_append 31 = .ok (.isub, 1) := by decide +kernel
theorem dX3_append_32 : decode cX3_append 32 = .ok (.istore 4, 2) := by decide +kernel
theorem dX3_append_34 : decode cX3_append 34 = .ok (.iload 4, 2) := by decide +kernel
theorem dX3_append_36 : decode cX3_append 36 = .ok (.ifCond .lt 60, 3) := by decide +kernel
theorem dX3_append_39 : decode cX3_append 39 = .ok (.aload_n 0, 1) := by decide +kernel
theorem dX3_append_40 : decode cX3_append 40 = .ok (.getfield 19, 3) := by decide +kernel
theorem dX3_append_43 : decode cX3_append 43 = .ok (.ifCond .lt 47, 3) := by decide +kernel
theorem dX3_append_46 : decode cX3_append 46 = .ok (.aload_n 0, 1) := by decide +kernel
theorem dX3_append_47 : decode cX3_append 47 = .ok (.getfield 19, 3) := by decide +kernel
theorem dX3_append_50 : decode cX3_append 50 = .ok (.aload_n 0, 1) := by decide +kernel
theorem dX3_append_51 : decode cX3_append 51 = .ok (.getfield 9, 3) := by decide +kernel
theorem dX3_append_54 : decode cX3_append 54 = .ok (.arraylength, 1) := by decide +kernel
theorem dX3_append_55 : decode cX3_append 55 = .ok (.if_icmp .ge 35, 3) := by decide +kernel
theorem dX3_append_58 : decode cX3_append 58 = .ok (.aload_n 0, 1) := by decide +kernel
theorem dX3_append_59 : decode cX3_append 59 = .ok (.getfield 9, 3) := by decide +kernel
theorem dX3_append_62 : decode cX3_append 62 = .ok (.aload_n 0, 1) := by decide +kernel
theorem dX3_append_63 : decode cX3_append 63 = .ok (.getfield 19, 3) := by decide +kernel
theorem dX3_append_66 : decode cX3_append 66 = .ok (.lload_n 1, 1) := by decide +kernel
theorem dX3_append_67 : decode cX3_append 67 = .ok (.bipush 8, 2) := by decide +kernel
theorem dX3_append_69 : decode cX3_append 69 = .ok (.iload 4, 2) := by decide +kernel
theorem dX3_append_71 : decode cX3_append 71 = .ok (.imul, 1) := by decide +kernel
theorem dX3_append_72 : decode cX3_append 72 = .ok (.lushr, 1) := by decide +kernel
theorem dX3_append_73 : decode cX3_append 73 = .ok (.ldc2_w 23, 3) := by decide +kernel
theorem dX3_append_76 : decode cX3_append 76 = .ok (.land, 1) := by decide +kernel
theorem dX3_append_77 : decode cX3_append 77 = .ok (.l2i, 1) := by decide +kernel
theorem dX3_append_78 : decode cX3_append 78 = .ok (.i2c, 1) := by decide +kernel
theorem dX3_append_79 : decode cX3_append 79 = .ok (.castore, 1) := by decide +kernel
theorem dX3_append_80 : decode cX3_append 80 = .ok (.aload_n 0, 1) := by decide +kernel
theorem dX3_append_81 : decode cX3_append 81 = .ok (.dup, 1) := by decide +kernel
theorem dX3_append_82 : decode cX3_append 82 = .ok (.getfield 19, 3) := by decide +kernel
theorem dX3_append_85 : decode cX3_append 85 = .ok (.iconst 1, 1) := by decide +kernel
theorem dX3_append_86 : decode cX3_append 86 = .ok (.iadd, 1) := by decide +kernel
theorem dX3_append_87 : decode cX3_append 87 = .ok (.putfield 19, 3) := by decide +kernel
theorem dX3_append_90 : decode cX3_append 90 = .ok (.iinc 4 (-1), 3) := by decide +kernel
theorem dX3_append_93 : decode cX3_append 93 = .ok (.goto (-59), 3) := by decide +kernel
theorem dX3_append_96 : decode cX3_append 96 = .ok (.aload_n 0, 1) := by decide +kernel
theorem dX3_append_97 : decode cX3_append 97 = .ok (.getfield 19, 3) := by decide +kernel
theorem dX3_append_100 : decode cX3_append 100 = .ok (.ireturn, 1) := by decide +kernel
theorem dX3_signsIn_0 : decode cX3_signsIn 0 = .ok (.lload_n 0, 1) := by decide +kernel
theorem dX3_signsIn_1 : decode cX3_signsIn 1 = .ok (.lstore_n 2, 1) := by decide +kernel
theorem dX3_signsIn_2 : decode cX3_signsIn 2 = .ok (.iconst 0, 1) := by decide +kernel
theorem dX3_signsIn_3 : decode cX3_signsIn 3 = .ok (.istore 4, 2) := by decide +kernel
theorem dX3_signsIn_5 : decode cX3_signsIn 5 = .ok (.iload 4, 2) := by decide +kernel
theorem dX3_signsIn_7 : decode cX3_signsIn 7 = .ok (.bipush 8, 2) := by decide +kernel
theorem dX3_signsIn_9 : decode cX3_signsIn 9 = .ok (.if_icmp .ge 42, 3) := by decide +kernel
theorem dX3_signsIn_12 : decode cX3_signsIn 12 = .ok (.lload_n 2, 1) := by decide +kernel
theorem dX3_signsIn_13 : decode cX3_signsIn 13 = .ok (.ldc2_w 23, 3) := by decide +kernel
theorem dX3_signsIn_16 : decode cX3_signsIn 16 = .ok (.land, 1) := by decide +kernel
theorem dX3_signsIn_17 : decode cX3_signsIn 17 = .ok (.lconst 0, 1) := by decide +kernel
theorem dX3_signsIn_18 : decode cX3_signsIn 18 = .ok (.lcmp, 1) := by decide +kernel
theorem dX3_signsIn_19 : decode cX3_signsIn 19 = .ok (.ifCond .eq 32, 3) := by decide +kernel
theorem dX3_signsIn_22 : decode cX3_signsIn 22 = .ok (.lload_n 2, 1) := by decide +kernel
theorem dX3_signsIn_23 : decode cX3_signsIn 23 = .ok (.ldc2_w 23, 3) := by decide +kernel
theorem dX3_signsIn_26 : decode cX3_signsIn 26 = .ok (.land, 1) := by decide +kernel
theorem dX3_signsIn_27 : decode cX3_signsIn 27 = .ok (.l2i, 1) := by decide +kernel
theorem dX3_signsIn_28 : decode cX3_signsIn 28 = .ok (.bipush 33, 2) := by decide +kernel
theorem dX3_signsIn_30 : decode cX3_signsIn 30 = .ok (.bipush 126, 2) := by decide +kernel
theorem dX3_signsIn_32 : decode cX3_signsIn 32 = .ok (.invokestatic 25, 3) := by decide +kernel
theorem dX3_signsIn_35 : decode cX3_signsIn 35 = .ok (.ifCond .ne 5, 3) := by decide +kernel
theorem dX3_signsIn_38 : decode cX3_signsIn 38 = .ok (.iconst 0, 1) := by decide +kernel
theorem dX3_signsIn_39 : decode cX3_signsIn 39 = .ok (.ireturn, 1) := by decide +kernel
theorem dX3_signsIn_40 : decode cX3_signsIn 40 = .ok (.lload_n 2, 1) := by decide +kernel
theorem dX3_signsIn_41 : decode cX3_signsIn 41 = .ok (.bipush 8, 2) := by decide +kernel
theorem dX3_signsIn_43 : decode cX3_signsIn 43 = .ok (.lushr, 1) := by decide +kernel
theorem dX3_signsIn_44 : decode cX3_signsIn 44 = .ok (.lstore_n 2, 1) := by decide +kernel
theorem dX3_signsIn_45 : decode cX3_signsIn 45 = .ok (.iinc 4 1, 3) := by decide +kernel
theorem dX3_signsIn_48 : decode cX3_signsIn 48 = .ok (.goto (-43), 3) := by decide +kernel
theorem dX3_signsIn_51 : decode cX3_signsIn 51 = .ok (.lload_n 2, 1) := by decide +kernel
theorem dX3_signsIn_52 : decode cX3_signsIn 52 = .ok (.lconst 0, 1) := by decide +kernel
theorem dX3_signsIn_53 : decode cX3_signsIn 53 = .ok (.lcmp, 1) := by decide +kernel
theorem dX3_signsIn_54 : decode cX3_signsIn 54 = .ok (.ifCond .ne 8, 3) := by decide +kernel
theorem dX3_signsIn_57 : decode cX3_signsIn 57 = .ok (.iload 4, 2) := by decide +kernel
theorem dX3_signsIn_59 : decode cX3_signsIn 59 = .ok (.goto 4, 3) := by decide +kernel
theorem dX3_signsIn_62 : decode cX3_signsIn 62 = .ok (.iconst 0, 1) := by decide +kernel
theorem dX3_signsIn_63 : decode cX3_signsIn 63 = .ok (.ireturn, 1) := by decide +kernel
theorem dX3_empty_0 : decode cX3_empty 0 = .ok (.aload_n 0, 1) := by decide +kernel
theorem dX3_empty_1 : decode cX3_empty 1 = .ok (.getfield 19, 3) := by decide +kernel
theorem dX3_empty_4 : decode cX3_empty 4 = .ok (.istore_n 1, 1) := by decide +kernel
theorem dX3_empty_5 : decode cX3_empty 5 = .ok (.aload_n 0, 1) := by decide +kernel
theorem dX3_empty_6 : decode cX3_empty 6 = .ok (.iconst 0, 1) := by decide +kernel
theorem dX3_empty_7 : decode cX3_empty 7 = .ok (.putfield 19, 3) := by decide +kernel
theorem dX3_empty_10 : decode cX3_empty 10 = .ok (.iload_n 1, 1) := by decide +kernel
theorem dX3_empty_11 : decode cX3_empty 11 = .ok (.ireturn, 1) := by decide +kernel
theorem dX3_signAt_0 : decode cX3_signAt 0 = .ok (.iload_n 1, 1) := by decide +kernel
theorem dX3_signAt_1 : decode cX3_signAt 1 = .ok (.ifCond .lt 29, 3) := by decide +kernel
theorem dX3_signAt_4 : decode cX3_signAt 4 = .ok (.iload_n 1, 1) := by decide +kernel
theorem dX3_signAt_5 : decode cX3_signAt 5 = .ok (.aload_n 0, 1) := by decide +kernel
theorem dX3_signAt_6 : decode cX3_signAt 6 = .ok (.getfield 19, 3) := by decide +kernel
theorem dX3_signAt_9 : decode cX3_signAt 9 = .ok (.if_icmp .ge 21, 3) := by decide +kernel
theorem dX3_signAt_12 : decode cX3_signAt 12 = .ok (.iload_n 1, 1) := by decide +kernel
theorem dX3_signAt_13 : decode cX3_signAt 13 = .ok (.aload_n 0, 1) := by decide +kernel
theorem dX3_signAt_14 : decode cX3_signAt 14 = .ok (.getfield 9, 3) := by decide +kernel
theorem dX3_signAt_17 : decode cX3_signAt 17 = .ok (.arraylength, 1) := by decide +kernel
theorem dX3_signAt_18 : decode cX3_signAt 18 = .ok (.if_icmp .ge 12, 3) := by decide +kernel
theorem dX3_signAt_21 : decode cX3_signAt 21 = .ok (.aload_n 0, 1) := by decide +kernel
theorem dX3_signAt_22 : decode cX3_signAt 22 = .ok (.getfield 9, 3) := by decide +kernel
theorem dX3_signAt_25 : decode cX3_signAt 25 = .ok (.iload_n 1, 1) := by decide +kernel
theorem dX3_signAt_26 : decode cX3_signAt 26 = .ok (.caload, 1) := by decide +kernel
theorem dX3_signAt_27 : decode cX3_signAt 27 = .ok (.goto 4, 3) := by decide +kernel
theorem dX3_signAt_30 : decode cX3_signAt 30 = .ok (.iconst 0, 1) := by decide +kernel
theorem dX3_signAt_31 : decode cX3_signAt 31 = .ok (.ireturn, 1) := by decide +kernel
theorem dX3_digitAt_0 : decode cX3_digitAt 0 = .ok (.aload_n 0, 1) := by decide +kernel
theorem dX3_digitAt_1 : decode cX3_digitAt 1 = .ok (.iload_n 1, 1) := by decide +kernel
theorem dX3_digitAt_2 : decode cX3_digitAt 2 = .ok (.invokevirtual 29, 3) := by decide +kernel
theorem dX3_digitAt_5 : decode cX3_digitAt 5 = .ok (.bipush 48, 2) := by decide +kernel
theorem dX3_digitAt_7 : decode cX3_digitAt 7 = .ok (.isub, 1) := by decide +kernel
theorem dX3_digitAt_8 : decode cX3_digitAt 8 = .ok (.ireturn, 1) := by decide +kernel
theorem dX3_numberAt_0 : decode cX3_numberAt 0 = .ok (.aload_n 0, 1) := by decide +kernel
theorem dX3_numberAt_1 : decode cX3_numberAt 1 = .ok (.iload_n 1, 1) := by decide +kernel
theorem dX3_numberAt_2 : decode cX3_numberAt 2 = .ok (.iconst 1, 1) := by decide +kernel
theorem dX3_numberAt_3 : decode cX3_numberAt 3 = .ok (.iadd, 1) := by decide +kernel
theorem dX3_numberAt_4 : decode cX3_numberAt 4 = .ok (.invokevirtual 33, 3) := by decide +kernel
theorem dX3_numberAt_7 : decode cX3_numberAt 7 = .ok (.istore_n 2, 1) := by decide +kernel
theorem dX3_numberAt_8 : decode cX3_numberAt 8 = .ok (.iload_n 2, 1) := by decide +kernel
theorem dX3_numberAt_9 : decode cX3_numberAt 9 = .ok (.iconst 0, 1) := by decide +kernel
theorem dX3_numberAt_10 : decode cX3_numberAt 10 = .ok (.bipush 9, 2) := by decide +kernel
theorem dX3_numberAt_12 : decode cX3_numberAt 12 = .ok (.invokestatic 25, 3) := by decide +kernel
theorem dX3_numberAt_15 : decode cX3_numberAt 15 = .ok (.ifCond .eq 16, 3) := by decide +kernel
theorem dX3_numberAt_18 : decode cX3_numberAt 18 = .ok (.aload_n 0, 1) := by decide +kernel
theorem dX3_numberAt_19 : decode cX3_numberAt 19 = .ok (.iload_n 1, 1) := by decide +kernel
theorem dX3_numberAt_20 : decode cX3_numberAt 20 = .ok (.invokevirtual 33, 3) := by decide +kernel
theorem dX3_numberAt_23 : decode cX3_numberAt 23 = .ok (.bipush 10, 2) := by decide +kernel
theorem dX3_numberAt_25 : decode cX3_numberAt 25 = .ok (.imul, 1) := by decide +kernel
theorem dX3_numberAt_26 : decode cX3_numberAt 26 = .ok (.iload_n 2, 1) := by decide +kernel
theorem dX3_numberAt_27 : decode cX3_numberAt 27 = .ok (.iadd, 1) := by decide +kernel
theorem dX3_numberAt_28 : decode cX3_numberAt 28 = .ok (.goto 8, 3) := by decide +kernel
theorem dX3_numberAt_31 : decode cX3_numberAt 31 = .ok (.aload_n 0, 1) := by decide +kernel
theorem dX3_numberAt_32 : decode cX3_numberAt 32 = .ok (.iload_n 1, 1) := by decide +kernel
theorem dX3_numberAt_33 : decode cX3_numberAt 33 = .ok (.invokevirtual 33, 3) := by decide +kernel
theorem dX3_numberAt_36 : decode cX3_numberAt 36 = .ok (.ireturn, 1) := by decide +kernel
theorem dX3_beginsOrder_0 : decode cX3_beginsOrder 0 = .ok (.iload_n 1, 1) := by decide +kernel
theorem dX3_beginsOrder_1 : decode cX3_beginsOrder 1 = .ok (.ifCond .eq 15, 3) := by decide +kernel
theorem dX3_beginsOrder_4 : decode cX3_beginsOrder 4 = .ok (.aload_n 0, 1) := by decide +kernel
theorem dX3_beginsOrder_5 : decode cX3_beginsOrder 5 = .ok (.iload_n 1, 1) := by decide +kernel
theorem dX3_beginsOrder_6 : decode cX3_beginsOrder 6 = .ok (.iconst 1, 1) := by decide +kernel
theorem dX3_beginsOrder_7 : decode cX3_beginsOrder 7 = .ok (.isub, 1) := by decide +kernel
theorem dX3_beginsOrder_8 : decode cX3_beginsOrder 8 = .ok (.invokevirtual 29, 3) := by decide +kernel
theorem dX3_beginsOrder_11 : decode cX3_beginsOrder 11 = .ok (.bipush 59, 2) := by decide +kernel
theorem dX3_beginsOrder_13 : decode cX3_beginsOrder 13 = .ok (.if_icmp .ne 7, 3) := by decide +kernel
theorem dX3_beginsOrder_16 : decode cX3_beginsOrder 16 = .ok (.iconst 1, 1) := by decide +kernel
theorem dX3_beginsOrder_17 : decode cX3_beginsOrder 17 = .ok (.goto 4, 3) := by decide +kernel
theorem dX3_beginsOrder_20 : decode cX3_beginsOrder 20 = .ok (.iconst 0, 1) := by decide +kernel
theorem dX3_beginsOrder_21 : decode cX3_beginsOrder 21 = .ok (.ireturn, 1) := by decide +kernel
theorem dX3_firstFault_0 : decode cX3_firstFault 0 = .ok (.iconst 0, 1) := by decide +kernel
theorem dX3_firstFault_1 : decode cX3_firstFault 1 = .ok (.istore_n 1, 1) := by decide +kernel
theorem dX3_firstFault_2 : decode cX3_firstFault 2 = .ok (.iconst 0, 1) := by decide +kernel
theorem dX3_firstFault_3 : decode cX3_firstFault 3 = .ok (.istore_n 2, 1) := by decide +kernel
theorem dX3_firstFault_4 : decode cX3_firstFault 4 = .ok (.iload_n 2, 1) := by decide +kernel
theorem dX3_firstFault_5 : decode cX3_firstFault 5 = .ok (.aload_n 0, 1) := by decide +kernel
theorem dX3_firstFault_6 : decode cX3_firstFault 6 = .ok (.getfield 19, 3) := by decide +kernel
theorem dX3_firstFault_9 : decode cX3_firstFault 9 = .ok (.if_icmp .ge 26, 3) := by decide +kernel
theorem dX3_firstFault_12 : decode cX3_firstFault 12 = .ok (.iload_n 1, 1) := by decide +kernel
theorem dX3_firstFault_13 : decode cX3_firstFault 13 = .ok (.aload_n 0, 1) := by decide +kernel
theorem dX3_firstFault_14 : decode cX3_firstFault 14 = .ok (.iload_n 2, 1) := by decide +kernel
theorem dX3_firstFault_15 : decode cX3_firstFault 15 = .ok (.invokevirtual 29, 3) := by decide +kernel
theorem dX3_firstFault_18 : decode cX3_firstFault 18 = .ok (.invokestatic 36, 3) := by decide +kernel
theorem dX3_firstFault_21 : decode cX3_firstFault 21 = .ok (.istore_n 1, 1) := by decide +kernel
theorem dX3_firstFault_22 : decode cX3_firstFault 22 = .ok (.iload_n 1, 1) := by decide +kernel
theorem dX3_firstFault_23 : decode cX3_firstFault 23 = .ok (.iconst (-1), 1) := by decide +kernel
theorem dX3_firstFault_24 : decode cX3_firstFault 24 = .ok (.if_icmp .ne 5, 3) := by decide +kernel
theorem dX3_firstFault_27 : decode cX3_firstFault 27 = .ok (.iload_n 2, 1) := by decide +kernel
theorem dX3_firstFault_28 : decode cX3_firstFault 28 = .ok (.ireturn, 1) := by decide +kernel
theorem dX3_firstFault_29 : decode cX3_firstFault 29 = .ok (.iinc 2 1, 3) := by decide +kernel
theorem dX3_firstFault_32 : decode cX3_firstFault 32 = .ok (.goto (-28), 3) := by decide +kernel
theorem dX3_firstFault_35 : decode cX3_firstFault 35 = .ok (.iload_n 1, 1) := by decide +kernel
theorem dX3_firstFault_36 : decode cX3_firstFault 36 = .ok (.bipush 7, 2) := by decide +kernel
theorem dX3_firstFault_38 : decode cX3_firstFault 38 = .ok (.if_icmp .eq 9, 3) := by decide +kernel
theorem dX3_firstFault_41 : decode cX3_firstFault 41 = .ok (.iload_n 1, 1) := by decide +kernel
theorem dX3_firstFault_42 : decode cX3_firstFault 42 = .ok (.bipush 6, 2) := by decide +kernel
theorem dX3_firstFault_44 : decode cX3_firstFault 44 = .ok (.if_icmp .ne 8, 3) := by decide +kernel
theorem dX3_firstFault_47 : decode cX3_firstFault 47 = .ok (.bipush (-6), 2) := by decide +kernel
theorem dX3_firstFault_49 : decode cX3_firstFault 49 = .ok (.goto 7, 3) := by decide +kernel
theorem dX3_firstFault_52 : decode cX3_firstFault 52 = .ok (.aload_n 0, 1) := by decide +kernel
theorem dX3_firstFault_53 : decode cX3_firstFault 53 = .ok (.getfield 19, 3) := by decide +kernel
theorem dX3_firstFault_56 : decode cX3_firstFault 56 = .ok (.ireturn, 1) := by decide +kernel
theorem dX3_dueAfter_0 : decode cX3_dueAfter 0 = .ok (.iload_n 0, 1) := by decide +kernel
theorem dX3_dueAfter_1 : decode cX3_dueAfter 1 = .ok (.tableswitch 213 0 7 #[47, 75, 92, 109, 126, 144, 173, 201], 47) := by decide +kernel
theorem dX3_dueAfter_48 : decode cX3_dueAfter 48 = .ok (.iload_n 1, 1) := by decide +kernel
theorem dX3_dueAfter_49 : decode cX3_dueAfter 49 = .ok (.bipush 99, 2) := by decide +kernel
theorem dX3_dueAfter_51 : decode cX3_dueAfter 51 = .ok (.if_icmp .ne 7, 3) := by decide +kernel
theorem dX3_dueAfter_54 : decode cX3_dueAfter 54 = .ok (.iconst 1, 1) := by decide +kernel
theorem dX3_dueAfter_55 : decode cX3_dueAfter 55 = .ok (.goto 20, 3) := by decide +kernel
theorem dX3_dueAfter_58 : decode cX3_dueAfter 58 = .ok (.iload_n 1, 1) := by decide +kernel
theorem dX3_dueAfter_59 : decode cX3_dueAfter 59 = .ok (.bipush 119, 2) := by decide +kernel
theorem dX3_dueAfter_61 : decode cX3_dueAfter 61 = .ok (.if_icmp .eq 9, 3) := by decide +kernel
theorem dX3_dueAfter_64 : decode cX3_dueAfter 64 = .ok (.iload_n 1, 1) := by decide +kernel
theorem dX3_dueAfter_65 : decode cX3_dueAfter 65 = .ok (.bipush 116, 2) := by decide +kernel
theorem dX3_dueAfter_67 : decode cX3_dueAfter 67 = .ok (.if_icmp .ne 7, 3) := by decide +kernel
theorem dX3_dueAfter_70 : decode cX3_dueAfter 70 = .ok (.iconst 5, 1) := by decide +kernel
theorem dX3_dueAfter_71 : decode cX3_dueAfter 71 = .ok (.goto 4, 3) := by decide +kernel
theorem dX3_dueAfter_74 : decode cX3_dueAfter 74 = .ok (.iconst (-1), 1) := by decide +kernel
theorem dX3_dueAfter_75 : decode cX3_dueAfter 75 = .ok (.ireturn, 1) := by decide +kernel
theorem dX3_dueAfter_76 : decode cX3_dueAfter 76 = .ok (.iload_n 1, 1) := by decide +kernel
theorem dX3_dueAfter_77 : decode cX3_dueAfter 77 = .ok (.bipush 48, 2) := by decide +kernel
theorem dX3_dueAfter_79 : decode cX3_dueAfter 79 = .ok (.bipush 49, 2) := by decide +kernel
theorem dX3_dueAfter_81 : decode cX3_dueAfter 81 = .ok (.invokestatic 25, 3) := by decide +kernel
theorem dX3_dueAfter_84 : decode cX3_dueAfter 84 = .ok (.ifCond .eq 7, 3) := by decide +kernel
theorem dX3_dueAfter_87 : decode cX3_dueAfter 87 = .ok (.iconst 2, 1) := by decide +kernel
theorem dX3_dueAfter_88 : decode cX3_dueAfter 88 = .ok (.goto 4, 3) := by decide +kernel
theorem dX3_dueAfter_91 : decode cX3_dueAfter 91 = .ok (.iconst (-1), 1) := by decide +kernel
theorem dX3_dueAfter_92 : decode cX3_dueAfter 92 = .ok (.ireturn, 1) := by decide +kernel
theorem dX3_dueAfter_93 : decode cX3_dueAfter 93 = .ok (.iload_n 1, 1) := by decide +kernel
theorem dX3_dueAfter_94 : decode cX3_dueAfter 94 = .ok (.bipush 49, 2) := by decide +kernel
theorem dX3_dueAfter_96 : decode cX3_dueAfter 96 = .ok (.bipush 52, 2) := by decide +kernel
theorem dX3_dueAfter_98 : decode cX3_dueAfter 98 = .ok (.invokestatic 25, 3) := by decide +kernel
theorem dX3_dueAfter_101 : decode cX3_dueAfter 101 = .ok (.ifCond .eq 7, 3) := by decide +kernel
theorem dX3_dueAfter_104 : decode cX3_dueAfter 104 = .ok (.iconst 3, 1) := by decide +kernel
theorem dX3_dueAfter_105 : decode cX3_dueAfter 105 = .ok (.goto 4, 3) := by decide +kernel
theorem dX3_dueAfter_108 : decode cX3_dueAfter 108 = .ok (.iconst (-1), 1) := by decide +kernel
theorem dX3_dueAfter_109 : decode cX3_dueAfter 109 = .ok (.ireturn, 1) := by decide +kernel
theorem dX3_dueAfter_110 : decode cX3_dueAfter 110 = .ok (.iload_n 1, 1) := by decide +kernel
theorem dX3_dueAfter_111 : decode cX3_dueAfter 111 = .ok (.bipush 49, 2) := by decide +kernel
theorem dX3_dueAfter_113 : decode cX3_dueAfter 113 = .ok (.bipush 52, 2) := by decide +kernel
theorem dX3_dueAfter_115 : decode cX3_dueAfter 115 = .ok (.invokestatic 25, 3) := by decide +kernel
theorem dX3_dueAfter_118 : decode cX3_dueAfter 118 = .ok (.ifCond .eq 7, 3) := by decide +kernel
theorem dX3_dueAfter_121 : decode cX3_dueAfter 121 = .ok (.iconst 4, 1) := by decide +kernel
theorem dX3_dueAfter_122 : decode cX3_dueAfter 122 = .ok (.goto 4, 3) := by decide +kernel
theorem dX3_dueAfter_125 : decode cX3_dueAfter 125 = .ok (.iconst (-1), 1) := by decide +kernel
theorem dX3_dueAfter_126 : decode cX3_dueAfter 126 = .ok (.ireturn, 1) := by decide +kernel
theorem dX3_dueAfter_127 : decode cX3_dueAfter 127 = .ok (.iload_n 1, 1) := by decide +kernel
theorem dX3_dueAfter_128 : decode cX3_dueAfter 128 = .ok (.bipush 49, 2) := by decide +kernel
theorem dX3_dueAfter_130 : decode cX3_dueAfter 130 = .ok (.bipush 57, 2) := by decide +kernel
theorem dX3_dueAfter_132 : decode cX3_dueAfter 132 = .ok (.invokestatic 25, 3) := by decide +kernel
theorem dX3_dueAfter_135 : decode cX3_dueAfter 135 = .ok (.ifCond .eq 8, 3) := by decide +kernel
theorem dX3_dueAfter_138 : decode cX3_dueAfter 138 = .ok (.bipush 7, 2) := by decide +kernel
theorem dX3_dueAfter_140 : decode cX3_dueAfter 140 = .ok (.goto 4, 3) := by decide +kernel
theorem dX3_dueAfter_143 : decode cX3_dueAfter 143 = .ok (.iconst (-1), 1) := by decide +kernel
theorem dX3_dueAfter_144 : decode cX3_dueAfter 144 = .ok (.ireturn, 1) := by decide +kernel
theorem dX3_dueAfter_145 : decode cX3_dueAfter 145 = .ok (.iload_n 1, 1) := by decide +kernel
theorem dX3_dueAfter_146 : decode cX3_dueAfter 146 = .ok (.bipush 48, 2) := by decide +kernel
theorem dX3_dueAfter_148 : decode cX3_dueAfter 148 = .ok (.if_icmp .ne 8, 3) := by decide +kernel
theorem dX3_dueAfter_151 : decode cX3_dueAfter 151 = .ok (.bipush 7, 2) := by decide +kernel
theorem dX3_dueAfter_153 : decode cX3_dueAfter 153 = .ok (.goto 20, 3) := by decide +kernel
theorem dX3_dueAfter_156 : decode cX3_dueAfter 156 = .ok (.iload_n 1, 1) := by decide +kernel
theorem dX3_dueAfter_157 : decode cX3_dueAfter 157 = .ok (.bipush 49, 2) := by decide +kernel
theorem dX3_dueAfter_159 : decode cX3_dueAfter 159 = .ok (.bipush 57, 2) := by decide +kernel
theorem dX3_dueAfter_161 : decode cX3_dueAfter 161 = .ok (.invokestatic 25, 3) := by decide +kernel
theorem dX3_dueAfter_164 : decode cX3_dueAfter 164 = .ok (.ifCond .eq 8, 3) := by decide +kernel
theorem dX3_dueAfter_167 : decode cX3_dueAfter 167 = .ok (.bipush 6, 2) := by decide +kernel
theorem dX3_dueAfter_169 : decode cX3_dueAfter 169 = .ok (.goto 4, 3) := by decide +kernel
theorem dX3_dueAfter_172 : decode cX3_dueAfter 172 = .ok (.iconst (-1), 1) := by decide +kernel
theorem dX3_dueAfter_173 : decode cX3_dueAfter 173 = .ok (.ireturn, 1) := by decide +kernel
theorem dX3_dueAfter_174 : decode cX3_dueAfter 174 = .ok (.iload_n 1, 1) := by decide +kernel
theorem dX3_dueAfter_175 : decode cX3_dueAfter 175 = .ok (.bipush 48, 2) := by decide +kernel
theorem dX3_dueAfter_177 : decode cX3_dueAfter 177 = .ok (.bipush 57, 2) := by decide +kernel
theorem dX3_dueAfter_179 : decode cX3_dueAfter 179 = .ok (.invokestatic 25, 3) := by decide +kernel
theorem dX3_dueAfter_182 : decode cX3_dueAfter 182 = .ok (.ifCond .eq 8, 3) := by decide +kernel
theorem dX3_dueAfter_185 : decode cX3_dueAfter 185 = .ok (.bipush 7, 2) := by decide +kernel
theorem dX3_dueAfter_187 : decode cX3_dueAfter 187 = .ok (.goto 14, 3) := by decide +kernel
theorem dX3_dueAfter_190 : decode cX3_dueAfter 190 = .ok (.iload_n 1, 1) := by decide +kernel
theorem dX3_dueAfter_191 : decode cX3_dueAfter 191 = .ok (.bipush 59, 2) := by decide +kernel
theorem dX3_dueAfter_193 : decode cX3_dueAfter 193 = .ok (.if_icmp .ne 7, 3) := by decide +kernel
theorem dX3_dueAfter_196 : decode cX3_dueAfter 196 = .ok (.iconst 0, 1) := by decide +kernel
theorem dX3_dueAfter_197 : decode cX3_dueAfter 197 = .ok (.goto 4, 3) := by decide +kernel
theorem dX3_dueAfter_200 : decode cX3_dueAfter 200 = .ok (.iconst (-1), 1) := by decide +kernel
theorem dX3_dueAfter_201 : decode cX3_dueAfter 201 = .ok (.ireturn, 1) := by decide +kernel
theorem dX3_dueAfter_202 : decode cX3_dueAfter 202 = .ok (.iload_n 1, 1) := by decide +kernel
theorem dX3_dueAfter_203 : decode cX3_dueAfter 203 = .ok (.bipush 59, 2) := by decide +kernel
theorem dX3_dueAfter_205 : decode cX3_dueAfter 205 = .ok (.if_icmp .ne 7, 3) := by decide +kernel
theorem dX3_dueAfter_208 : decode cX3_dueAfter 208 = .ok (.iconst 0, 1) := by decide +kernel
theorem dX3_dueAfter_209 : decode cX3_dueAfter 209 = .ok (.goto 4, 3) := by decide +kernel
theorem dX3_dueAfter_212 : decode cX3_dueAfter 212 = .ok (.iconst (-1), 1) := by decide +kernel
theorem dX3_dueAfter_213 : decode cX3_dueAfter 213 = .ok (.ireturn, 1) := by decide +kernel
theorem dX3_dueAfter_214 : decode cX3_dueAfter 214 = .ok (.iconst (-1), 1) := by decide +kernel
theorem dX3_dueAfter_215 : decode cX3_dueAfter 215 = .ok (.ireturn, 1) := by decide +kernel
theorem dX4_init_0 : decode cX4_init 0 = .ok (.aload_n 0, 1) := by decide +kernel
theorem dX4_init_1 : decode cX4_init 1 = .ok (.invokespecial 3, 3) := by decide +kernel
theorem dX4_init_4 : decode cX4_init 4 = .ok (.aload_n 0, 1) := by decide +kernel
theorem dX4_init_5 : decode cX4_init 5 = .ok (.bipush 40, 2) := by decide +kernel
theorem dX4_init_7 : decode cX4_init 7 = .ok (.anewarray 9, 3) := by decide +kernel
theorem dX4_init_10 : decode cX4_init 10 = .ok (.putfield 11, 3) := by decide +kernel
theorem dX4_init_13 : decode cX4_init 13 = .ok (.aload_n 0, 1) := by decide +kernel
theorem dX4_init_14 : decode cX4_init 14 = .ok (.bipush 6, 2) := by decide +kernel
theorem dX4_init_16 : decode cX4_init 16 = .ok (.anewarray 17, 3) := by decide +kernel
theorem dX4_init_19 : decode cX4_init 19 = .ok (.putfield 19, 3) := by decide +kernel
theorem dX4_init_22 : decode cX4_init 22 = .ok (.aload_n 0, 1) := by decide +kernel
theorem dX4_init_23 : decode cX4_init 23 = .ok (.bipush 80, 2) := by decide +kernel
theorem dX4_init_25 : decode cX4_init 25 = .ok (.newarray .int, 2) := by decide +kernel
theorem dX4_init_27 : decode cX4_init 27 = .ok (.putfield 23, 3) := by decide +kernel
theorem dX4_init_30 : decode cX4_init 30 = .ok (.aload_n 0, 1) := by decide +kernel
theorem dX4_init_31 : decode cX4_init 31 = .ok (.bipush 40, 2) := by decide +kernel
theorem dX4_init_33 : decode cX4_init 33 = .ok (.anewarray 9, 3) := by decide +kernel
theorem dX4_init_36 : decode cX4_init 36 = .ok (.putfield 27, 3) := by decide +kernel
theorem dX4_init_39 : decode cX4_init 39 = .ok (.aload_n 0, 1) := by decide +kernel
theorem dX4_init_40 : decode cX4_init 40 = .ok (.iconst 1, 1) := by decide +kernel
theorem dX4_init_41 : decode cX4_init 41 = .ok (.putfield 30, 3) := by decide +kernel
theorem dX4_init_44 : decode cX4_init 44 = .ok (.aload_n 0, 1) := by decide +kernel
theorem dX4_init_45 : decode cX4_init 45 = .ok (.iconst 1, 1) := by decide +kernel
theorem dX4_init_46 : decode cX4_init 46 = .ok (.putfield 34, 3) := by decide +kernel
theorem dX4_init_49 : decode cX4_init 49 = .ok (.iconst 0, 1) := by decide +kernel
theorem dX4_init_50 : decode cX4_init 50 = .ok (.istore_n 1, 1) := by decide +kernel
theorem dX4_init_51 : decode cX4_init 51 = .ok (.iload_n 1, 1) := by decide +kernel
theorem dX4_init_52 : decode cX4_init 52 = .ok (.aload_n 0, 1) := by decide +kernel
theorem dX4_init_53 : decode cX4_init 53 = .ok (.getfield 11, 3) := by decide +kernel
theorem dX4_init_56 : decode cX4_init 56 = .ok (.arraylength, 1) := by decide +kernel
theorem dX4_init_57 : decode cX4_init 57 = .ok (.if_icmp .ge 23, 3) := by decide +kernel
theorem dX4_init_60 : decode cX4_init 60 = .ok (.aload_n 0, 1) := by decide +kernel
theorem dX4_init_61 : decode cX4_init 61 = .ok (.getfield 11, 3) := by decide +kernel
theorem dX4_init_64 : decode cX4_init 64 = .ok (.iload_n 1, 1) := by decide +kernel
theorem dX4_init_65 : decode cX4_init 65 = .ok (.new 9, 3) := by decide +kernel
theorem dX4_init_68 : decode cX4_init 68 = .ok (.dup, 1) := by decide +kernel
theorem dX4_init_69 : decode cX4_init 69 = .ok (.iload_n 1, 1) := by decide +kernel
theorem dX4_init_70 : decode cX4_init 70 = .ok (.invokespecial 37, 3) := by decide +kernel
theorem dX4_init_73 : decode cX4_init 73 = .ok (.aastore, 1) := by decide +kernel
theorem dX4_init_74 : decode cX4_init 74 = .ok (.iinc 1 1, 3) := by decide +kernel
theorem dX4_init_77 : decode cX4_init 77 = .ok (.goto (-26), 3) := by decide +kernel
theorem dX4_init_80 : decode cX4_init 80 = .ok (.iconst 0, 1) := by decide +kernel
theorem dX4_init_81 : decode cX4_init 81 = .ok (.istore_n 1, 1) := by decide +kernel
theorem dX4_init_82 : decode cX4_init 82 = .ok (.iload_n 1, 1) := by decide +kernel
theorem dX4_init_83 : decode cX4_init 83 = .ok (.aload_n 0, 1) := by decide +kernel
theorem dX4_init_84 : decode cX4_init 84 = .ok (.getfield 19, 3) := by decide +kernel
theorem dX4_init_87 : decode cX4_init 87 = .ok (.arraylength, 1) := by decide +kernel
theorem dX4_init_88 : decode cX4_init 88 = .ok (.if_icmp .ge 22, 3) := by decide +kernel
theorem dX4_init_91 : decode cX4_init 91 = .ok (.aload_n 0, 1) := by decide +kernel
theorem dX4_init_92 : decode cX4_init 92 = .ok (.getfield 19, 3) := by decide +kernel
theorem dX4_init_95 : decode cX4_init 95 = .ok (.iload_n 1, 1) := by decide +kernel
theorem dX4_init_96 : decode cX4_init 96 = .ok (.new 17, 3) := by decide +kernel
theorem dX4_init_99 : decode cX4_init 99 = .ok (.dup, 1) := by decide +kernel
theorem dX4_init_100 : decode cX4_init 100 = .ok (.invokespecial 40, 3) := by decide +kernel
theorem dX4_init_103 : decode cX4_init 103 = .ok (.aastore, 1) := by decide +kernel
theorem dX4_init_104 : decode cX4_init 104 = .ok (.iinc 1 1, 3) := by decide +kernel
theorem dX4_init_107 : decode cX4_init 107 = .ok (.goto (-25), 3) := by decide +kernel
theorem dX4_init_110 : decode cX4_init 110 = .ok (.iconst 0, 1) := by decide +kernel
theorem dX4_init_111 : decode cX4_init 111 = .ok (.istore_n 1, 1) := by decide +kernel
theorem dX4_init_112 : decode cX4_init 112 = .ok (.iload_n 1, 1) := by decide +kernel
theorem dX4_init_113 : decode cX4_init 113 = .ok (.aload_n 0, 1) := by decide +kernel
theorem dX4_init_114 : decode cX4_init 114 = .ok (.getfield 23, 3) := by decide +kernel
theorem dX4_init_117 : decode cX4_init 117 = .ok (.arraylength, 1) := by decide +kernel
theorem dX4_init_118 : decode cX4_init 118 = .ok (.if_icmp .ge 17, 3) := by decide +kernel
theorem dX4_init_121 : decode cX4_init 121 = .ok (.aload_n 0, 1) := by decide +kernel
theorem dX4_init_122 : decode cX4_init 122 = .ok (.getfield 23, 3) := by decide +kernel
theorem dX4_init_125 : decode cX4_init 125 = .ok (.iload_n 1, 1) := by decide +kernel
theorem dX4_init_126 : decode cX4_init 126 = .ok (.bipush (-6), 2) := by decide +kernel
theorem dX4_init_128 : decode cX4_init 128 = .ok (.iastore, 1) := by decide +kernel
theorem dX4_init_129 : decode cX4_init 129 = .ok (.iinc 1 1, 3) := by decide +kernel
theorem dX4_init_132 : decode cX4_init 132 = .ok (.goto (-20), 3) := by decide +kernel
theorem dX4_init_135 : decode cX4_init 135 = .ok (.return_, 1) := by decide +kernel
theorem dX4_become_0 : decode cX4_become 0 = .ok (.aload_n 0, 1) := by decide +kernel
theorem dX4_become_1 : decode cX4_become 1 = .ok (.aload_n 1, 1) := by decide +kernel
theorem dX4_become_2 : decode cX4_become 2 = .ok (.getfield 41, 3) := by decide +kernel
theorem dX4_become_5 : decode cX4_become 5 = .ok (.putfield 41, 3) := by decide +kernel
theorem dX4_become_8 : decode cX4_become 8 = .ok (.aload_n 0, 1) := by decide +kernel
theorem dX4_become_9 : decode cX4_become 9 = .ok (.aload_n 1, 1) := by decide +kernel
theorem dX4_become_10 : decode cX4_become 10 = .ok (.getfield 30, 3) := by decide +kernel
theorem dX4_become_13 : decode cX4_become 13 = .ok (.putfield 30, 3) := by decide +kernel
theorem dX4_become_16 : decode cX4_become 16 = .ok (.aload_n 0, 1) := by decide +kernel
theorem dX4_become_17 : decode cX4_become 17 = .ok (.aload_n 1, 1) := by decide +kernel
theorem dX4_become_18 : decode cX4_become 18 = .ok (.getfield 34, 3) := by decide +kernel
theorem dX4_become_21 : decode cX4_become 21 = .ok (.putfield 34, 3) := by decide +kernel
theorem dX4_become_24 : decode cX4_become 24 = .ok (.aload_n 0, 1) := by decide +kernel
theorem dX4_become_25 : decode cX4_become 25 = .ok (.aload_n 1, 1) := by decide +kernel
theorem dX4_become_26 : decode cX4_become 26 = .ok (.getfield 44, 3) := by decide +kernel
theorem dX4_become_29 : decode cX4_become 29 = .ok (.putfield 44, 3) := by decide +kernel
theorem dX4_become_32 : decode cX4_become 32 = .ok (.aload_n 0, 1) := by decide +kernel
theorem dX4_become_33 : decode cX4_become 33 = .ok (.aload_n 1, 1) := by decide +kernel
theorem dX4_become_34 : decode cX4_become 34 = .ok (.getfield 47, 3) := by decide +kernel
theorem dX4_become_37 : decode cX4_become 37 = .ok (.putfield 47, 3) := by decide +kernel
theorem dX4_become_40 : decode cX4_become 40 = .ok (.iconst 0, 1) := by decide +kernel
theorem dX4_become_41 : decode cX4_become 41 = .ok (.istore_n 2, 1) := by decide +kernel
theorem dX4_become_42 : decode cX4_become 42 = .ok (.iload_n 2, 1) := by decide +kernel
theorem dX4_become_43 : decode cX4_become 43 = .ok (.aload_n 0, 1) := by decide +kernel
theorem dX4_become_44 : decode cX4_become 44 = .ok (.getfield 44, 3) := by decide +kernel
theorem dX4_become_47 : decode cX4_become 47 = .ok (.if_icmp .ge 37, 3) := by decide +kernel
theorem dX4_become_50 : decode cX4_become 50 = .ok (.aload_n 0, 1) := by decide +kernel
theorem dX4_become_51 : decode cX4_become 51 = .ok (.iload_n 2, 1) := by decide +kernel
theorem dX4_become_52 : decode cX4_become 52 = .ok (.invokevirtual 50, 3) := by decide +kernel
theorem dX4_become_55 : decode cX4_become 55 = .ok (.astore_n 3, 1) := by decide +kernel
theorem dX4_become_56 : decode cX4_become 56 = .ok (.aload_n 1, 1) := by decide +kernel
theorem dX4_become_57 : decode cX4_become 57 = .ok (.iload_n 2, 1) := by decide +kernel
theorem dX4_become_58 : decode cX4_become 58 = .ok (.invokevirtual 50, 3) := by decide +kernel
theorem dX4_become_61 : decode cX4_become 61 = .ok (.astore 4, 2) := by decide +kernel
theorem dX4_become_63 : decode cX4_become 63 = .ok (.aload_n 3, 1) := by decide +kernel
theorem dX4_become_64 : decode cX4_become 64 = .ok (.ifnull 14, 3) := by decide +kernel
theorem dX4_become_67 : decode cX4_become 67 = .ok (.aload 4, 2) := by decide +kernel
theorem dX4_become_69 : decode cX4_become 69 = .ok (.ifnull 9, 3) := by decide +kernel
theorem dX4_become_72 : decode cX4_become 72 = .ok (.aload_n 3, 1) := by decide +kernel
theorem dX4_become_73 : decode cX4_become 73 = .ok (.aload 4, 2) := by decide +kernel
theorem dX4_become_75 : decode cX4_become 75 = .ok (.invokevirtual 54, 3) := by decide +kernel
theorem dX4_become_78 : decode cX4_become 78 = .ok (.iinc 2 1, 3) := by decide +kernel
theorem dX4_become_81 : decode cX4_become 81 = .ok (.goto (-39), 3) := by decide +kernel
theorem dX4_become_84 : decode cX4_become 84 = .ok (.iconst 0, 1) := by decide +kernel
theorem dX4_become_85 : decode cX4_become 85 = .ok (.istore_n 2, 1) := by decide +kernel
theorem dX4_become_86 : decode cX4_become 86 = .ok (.iload_n 2, 1) := by decide +kernel
theorem dX4_become_87 : decode cX4_become 87 = .ok (.aload_n 0, 1) := by decide +kernel
theorem dX4_become_88 : decode cX4_become 88 = .ok (.getfield 47, 3) := by decide +kernel
theorem dX4_become_91 : decode cX4_become 91 = .ok (.if_icmp .ge 37, 3) := by decide +kernel
theorem dX4_become_94 : decode cX4_become 94 = .ok (.aload_n 0, 1) := by decide +kernel
theorem dX4_become_95 : decode cX4_become 95 = .ok (.iload_n 2, 1) := by decide +kernel
theorem dX4_become_96 : decode cX4_become 96 = .ok (.invokevirtual 58, 3) := by decide +kernel
theorem dX4_become_99 : decode cX4_become 99 = .ok (.astore_n 3, 1) := by decide +kernel
theorem dX4_become_100 : decode cX4_become 100 = .ok (.aload_n 1, 1) := by decide +kernel
theorem dX4_become_101 : decode cX4_become 101 = .ok (.iload_n 2, 1) := by decide +kernel
theorem dX4_become_102 : decode cX4_become 102 = .ok (.invokevirtual 58, 3) := by decide +kernel
theorem dX4_become_105 : decode cX4_become 105 = .ok (.astore 4, 2) := by decide +kernel
theorem dX4_become_107 : decode cX4_become 107 = .ok (.aload_n 3, 1) := by decide +kernel
theorem dX4_become_108 : decode cX4_become 108 = .ok (.ifnull 14, 3) := by decide +kernel
theorem dX4_become_111 : decode cX4_become 111 = .ok (.aload 4, 2) := by decide +kernel
theorem dX4_become_113 : decode cX4_become 113 = .ok (.ifnull 9, 3) := by decide +kernel
theorem dX4_become_116 : decode cX4_become 116 = .ok (.aload_n 3, 1) := by decide +kernel
theorem dX4_become_117 : decode cX4_become 117 = .ok (.aload 4, 2) := by decide +kernel
theorem dX4_become_119 : decode cX4_become 119 = .ok (.invokevirtual 62, 3) := by decide +kernel
theorem dX4_become_122 : decode cX4_become 122 = .ok (.iinc 2 1, 3) := by decide +kernel
theorem dX4_become_125 : decode cX4_become 125 = .ok (.goto (-39), 3) := by decide +kernel
theorem dX4_become_128 : decode cX4_become 128 = .ok (.iconst 0, 1) := by decide +kernel
theorem dX4_become_129 : decode cX4_become 129 = .ok (.istore_n 2, 1) := by decide +kernel
theorem dX4_become_130 : decode cX4_become 130 = .ok (.iload_n 2, 1) := by decide +kernel
theorem dX4_become_131 : decode cX4_become 131 = .ok (.aload_n 0, 1) := by decide +kernel
theorem dX4_become_132 : decode cX4_become 132 = .ok (.getfield 23, 3) := by decide +kernel
theorem dX4_become_135 : decode cX4_become 135 = .ok (.arraylength, 1) := by decide +kernel
theorem dX4_become_136 : decode cX4_become 136 = .ok (.if_icmp .ge 30, 3) := by decide +kernel
theorem dX4_become_139 : decode cX4_become 139 = .ok (.iload_n 2, 1) := by decide +kernel
theorem dX4_become_140 : decode cX4_become 140 = .ok (.aload_n 1, 1) := by decide +kernel
theorem dX4_become_141 : decode cX4_become 141 = .ok (.getfield 23, 3) := by decide +kernel
theorem dX4_become_144 : decode cX4_become 144 = .ok (.arraylength, 1) := by decide +kernel
theorem dX4_become_145 : decode cX4_become 145 = .ok (.if_icmp .ge 21, 3) := by decide +kernel
theorem dX4_become_148 : decode cX4_become 148 = .ok (.aload_n 0, 1) := by decide +kernel
theorem dX4_become_149 : decode cX4_become 149 = .ok (.getfield 23, 3) := by decide +kernel
theorem dX4_become_152 : decode cX4_become 152 = .ok (.iload_n 2, 1) := by decide +kernel
theorem dX4_become_153 : decode cX4_become 153 = .ok (.aload_n 1, 1) := by decide +kernel
theorem dX4_become_154 : decode cX4_become 154 = .ok (.getfield 23, 3) := by decide +kernel
theorem dX4_become_157 : decode cX4_become 157 = .ok (.iload_n 2, 1) := by decide +kernel
theorem dX4_become_158 : decode cX4_become 158 = .ok (.iaload, 1) := by decide +kernel
theorem dX4_become_159 : decode cX4_become 159 = .ok (.iastore, 1) := by decide +kernel
theorem dX4_become_160 : decode cX4_become 160 = .ok (.iinc 2 1, 3) := by decide +kernel
theorem dX4_become_163 : decode cX4_become 163 = .ok (.goto (-33), 3) := by decide +kernel
theorem dX4_become_166 : decode cX4_become 166 = .ok (.return_, 1) := by decide +kernel
theorem dX4_carNumbered_0 : decode cX4_carNumbered 0 = .ok (.iload_n 1, 1) := by decide +kernel
theorem dX4_carNumbered_1 : decode cX4_carNumbered 1 = .ok (.ifCond .lt 29, 3) := by decide +kernel
theorem dX4_carNumbered_4 : decode cX4_carNumbered 4 = .ok (.iload_n 1, 1) := by decide +kernel
theorem dX4_carNumbered_5 : decode cX4_carNumbered 5 = .ok (.aload_n 0, 1) := by decide +kernel
theorem dX4_carNumbered_6 : decode cX4_carNumbered 6 = .ok (.getfield 44, 3) := by decide +kernel
theorem dX4_carNumbered_9 : decode cX4_carNumbered 9 = .ok (.if_icmp .ge 21, 3) := by decide +kernel
theorem dX4_carNumbered_12 : decode cX4_carNumbered 12 = .ok (.iload_n 1, 1) := by decide +kernel
theorem dX4_carNumbered_13 : decode cX4_carNumbered 13 = .ok (.aload_n 0, 1) := by decide +kernel
theorem dX4_carNumbered_14 : decode cX4_carNumbered 14 = .ok (.getfield 11, 3) := by decide +kernel
theorem dX4_carNumbered_17 : decode cX4_carNumbered 17 = .ok (.arraylength, 1) := by decide +kernel
theorem dX4_carNumbered_18 : decode cX4_carNumbered 18 = .ok (.if_icmp .ge 12, 3) := by decide +kernel
theorem dX4_carNumbered_21 : decode cX4_carNumbered 21 = .ok (.aload_n 0, 1) := by decide +kernel
theorem dX4_carNumbered_22 : decode cX4_carNumbered 22 = .ok (.getfield 11, 3) := by decide +kernel
theorem dX4_carNumbered_25 : decode cX4_carNumbered 25 = .ok (.iload_n 1, 1) := by decide +kernel
theorem dX4_carNumbered_26 : decode cX4_carNumbered 26 = .ok (.aaload, 1) := by decide +kernel
theorem dX4_carNumbered_27 : decode cX4_carNumbered 27 = .ok (.goto 4, 3) := by decide +kernel
theorem dX4_carNumbered_30 : decode cX4_carNumbered 30 = .ok (.aconst_null, 1) := by decide +kernel
theorem dX4_carNumbered_31 : decode cX4_carNumbered 31 = .ok (.areturn, 1) := by decide +kernel
theorem dX4_loopNumbered_0 : decode cX4_loopNumbered 0 = .ok (.iload_n 1, 1) := by decide +kernel
theorem dX4_loopNumbered_1 : decode cX4_loopNumbered 1 = .ok (.ifCond .lt 29, 3) := by decide +kernel
theorem dX4_loopNumbered_4 : decode cX4_loopNumbered 4 = .ok (.iload_n 1, 1) := by decide +kernel
theorem dX4_loopNumbered_5 : decode cX4_loopNumbered 5 = .ok (.aload_n 0, 1) := by decide +kernel
theorem dX4_loopNumbered_6 : decode cX4_loopNumbered 6 = .ok (.getfield 47, 3) := by decide +kernel
theorem dX4_loopNumbered_9 : decode cX4_loopNumbered 9 = .ok (.if_icmp .ge 21, 3) := by decide +kernel
theorem dX4_loopNumbered_12 : decode cX4_loopNumbered 12 = .ok (.iload_n 1, 1) := by decide +kernel
theorem dX4_loopNumbered_13 : decode cX4_loopNumbered 13 = .ok (.aload_n 0, 1) := by decide +kernel
theorem dX4_loopNumbered_14 : decode cX4_loopNumbered 14 = .ok (.getfield 19, 3) := by decide +kernel
theorem dX4_loopNumbered_17 : decode cX4_loopNumbered 17 = .ok (.arraylength, 1) := by decide +kernel
theorem dX4_loopNumbered_18 : decode cX4_loopNumbered 18 = .ok (.if_icmp .ge 12, 3) := by decide +kernel
theorem dX4_loopNumbered_21 : decode cX4_loopNumbered 21 = .ok (.aload_n 0, 1) := by decide +kernel
theorem dX4_loopNumbered_22 : decode cX4_loopNumbered 22 = .ok (.getfield 19, 3) := by decide +kernel
theorem dX4_loopNumbered_25 : decode cX4_loopNumbered 25 = .ok (.iload_n 1, 1) := by decide +kernel
theorem dX4_loopNumbered_26 : decode cX4_loopNumbered 26 = .ok (.aaload, 1) := by decide +kernel
theorem dX4_loopNumbered_27 : decode cX4_loopNumbered 27 = .ok (.goto 4, 3) := by decide +kernel
theorem dX4_loopNumbered_30 : decode cX4_loopNumbered 30 = .ok (.aconst_null, 1) := by decide +kernel
theorem dX4_loopNumbered_31 : decode cX4_loopNumbered 31 = .ok (.areturn, 1) := by decide +kernel
theorem dX4_changeSetting_0 : decode cX4_changeSetting 0 = .ok (.iload_n 1, 1) := by decide +kernel
theorem dX4_changeSetting_1 : decode cX4_changeSetting 1 = .ok (.ifCond .ne 25, 3) := by decide +kernel
theorem dX4_changeSetting_4 : decode cX4_changeSetting 4 = .ok (.iload_n 2, 1) := by decide +kernel
theorem dX4_changeSetting_5 : decode cX4_changeSetting 5 = .ok (.iconst 0, 1) := by decide +kernel
theorem dX4_changeSetting_6 : decode cX4_changeSetting 6 = .ok (.bipush 8, 2) := by decide +kernel
theorem dX4_changeSetting_8 : decode cX4_changeSetting 8 = .ok (.invokestatic 65, 3) := by decide +kernel
theorem dX4_changeSetting_11 : decode cX4_changeSetting 11 = .ok (.ifCond .eq 15, 3) := by decide +kernel
theorem dX4_changeSetting_14 : decode cX4_changeSetting 14 = .ok (.aload_n 0, 1) := by decide +kernel
theorem dX4_changeSetting_15 : decode cX4_changeSetting 15 = .ok (.getfield 30, 3) := by decide +kernel
theorem dX4_changeSetting_18 : decode cX4_changeSetting 18 = .ok (.istore_n 3, 1) := by decide +kernel
theorem dX4_changeSetting_19 : decode cX4_changeSetting 19 = .ok (.aload_n 0, 1) := by decide +kernel
theorem dX4_changeSetting_20 : decode cX4_changeSetting 20 = .ok (.iload_n 2, 1) := by decide +kernel
theorem dX4_changeSetting_21 : decode cX4_changeSetting 21 = .ok (.putfield 30, 3) := by decide +kernel
theorem dX4_changeSetting_24 : decode cX4_changeSetting 24 = .ok (.iload_n 3, 1) := by decide +kernel
theorem dX4_changeSetting_25 : decode cX4_changeSetting 25 = .ok (.ireturn, 1) := by decide +kernel
theorem dX4_changeSetting_26 : decode cX4_changeSetting 26 = .ok (.iload_n 1, 1) := by decide +kernel
theorem dX4_changeSetting_27 : decode cX4_changeSetting 27 = .ok (.iconst 1, 1) := by decide +kernel
theorem dX4_changeSetting_28 : decode cX4_changeSetting 28 = .ok (.if_icmp .ne 24, 3) := by decide +kernel
theorem dX4_changeSetting_31 : decode cX4_changeSetting 31 = .ok (.iload_n 2, 1) := by decide +kernel
theorem dX4_changeSetting_32 : decode cX4_changeSetting 32 = .ok (.iconst 1, 1) := by decide +kernel
theorem dX4_changeSetting_33 : decode cX4_changeSetting 33 = .ok (.iconst 5, 1) := by decide +kernel
theorem dX4_changeSetting_34 : decode cX4_changeSetting 34 = .ok (.invokestatic 65, 3) := by decide +kernel
theorem dX4_changeSetting_37 : decode cX4_changeSetting 37 = .ok (.ifCond .eq 15, 3) := by decide +kernel
theorem dX4_changeSetting_40 : decode cX4_changeSetting 40 = .ok (.aload_n 0, 1) := by decide +kernel
theorem dX4_changeSetting_41 : decode cX4_changeSetting 41 = .ok (.getfield 34, 3) := by decide +kernel
theorem dX4_changeSetting_44 : decode cX4_changeSetting 44 = .ok (.istore_n 3, 1) := by decide +kernel
theorem dX4_changeSetting_45 : decode cX4_changeSetting 45 = .ok (.aload_n 0, 1) := by decide +kernel
theorem dX4_changeSetting_46 : decode cX4_changeSetting 46 = .ok (.iload_n 2, 1) := by decide +kernel
theorem dX4_changeSetting_47 : decode cX4_changeSetting 47 = .ok (.putfield 34, 3) := by decide +kernel
theorem dX4_changeSetting_50 : decode cX4_changeSetting 50 = .ok (.iload_n 3, 1) := by decide +kernel
theorem dX4_changeSetting_51 : decode cX4_changeSetting 51 = .ok (.ireturn, 1) := by decide +kernel
theorem dX4_changeSetting_52 : decode cX4_changeSetting 52 = .ok (.bipush (-2), 2) := by decide +kernel
theorem dX4_changeSetting_54 : decode cX4_changeSetting 54 = .ok (.ireturn, 1) := by decide +kernel
theorem dX4_layLoop_0 : decode cX4_layLoop 0 = .ok (.iload_n 1, 1) := by decide +kernel
theorem dX4_layLoop_1 : decode cX4_layLoop 1 = .ok (.iconst 0, 1) := by decide +kernel
theorem dX4_layLoop_2 : decode cX4_layLoop 2 = .ok (.iconst 1, 1) := by decide +kernel
theorem dX4_layLoop_3 : decode cX4_layLoop 3 = .ok (.invokestatic 65, 3) := by decide +kernel
theorem dX4_layLoop_6 : decode cX4_layLoop 6 = .ok (.ifCond .eq 34, 3) := by decide +kernel
theorem dX4_layLoop_9 : decode cX4_layLoop 9 = .ok (.iload_n 3, 1) := by decide +kernel
theorem dX4_layLoop_10 : decode cX4_layLoop 10 = .ok (.iconst 1, 1) := by decide +kernel
theorem dX4_layLoop_11 : decode cX4_layLoop 11 = .ok (.iconst 3, 1) := by decide +kernel
theorem dX4_layLoop_12 : decode cX4_layLoop 12 = .ok (.invokestatic 65, 3) := by decide +kernel
theorem dX4_layLoop_15 : decode cX4_layLoop 15 = .ok (.ifCond .eq 25, 3) := by decide +kernel
theorem dX4_layLoop_18 : decode cX4_layLoop 18 = .ok (.iload_n 2, 1) := by decide +kernel
theorem dX4_layLoop_19 : decode cX4_layLoop 19 = .ok (.iconst 0, 1) := by decide +kernel
theorem dX4_layLoop_20 : decode cX4_layLoop 20 = .ok (.bipush 40, 2) := by decide +kernel
theorem dX4_layLoop_22 : decode cX4_layLoop 22 = .ok (.iload_n 3, 1) := by decide +kernel
theorem dX4_layLoop_23 : decode cX4_layLoop 23 = .ok (.isub, 1) := by decide +kernel
theorem dX4_layLoop_24 : decode cX4_layLoop 24 = .ok (.invokestatic 65, 3) := by decide +kernel
theorem dX4_layLoop_27 : decode cX4_layLoop 27 = .ok (.ifCond .eq 13, 3) := by decide +kernel
theorem dX4_layLoop_30 : decode cX4_layLoop 30 = .ok (.iload 4, 2) := by decide +kernel
theorem dX4_layLoop_32 : decode cX4_layLoop 32 = .ok (.iload 5, 2) := by decide +kernel
theorem dX4_layLoop_34 : decode cX4_layLoop 34 = .ok (.invokestatic 69, 3) := by decide +kernel
theorem dX4_layLoop_37 : decode cX4_layLoop 37 = .ok (.ifCond .ne 6, 3) := by decide +kernel
theorem dX4_layLoop_40 : decode cX4_layLoop 40 = .ok (.bipush (-2), 2) := by decide +kernel
theorem dX4_layLoop_42 : decode cX4_layLoop 42 = .ok (.ireturn, 1) := by decide +kernel
theorem dX4_layLoop_43 : decode cX4_layLoop 43 = .ok (.aload_n 0, 1) := by decide +kernel
theorem dX4_layLoop_44 : decode cX4_layLoop 44 = .ok (.getfield 47, 3) := by decide +kernel
theorem dX4_layLoop_47 : decode cX4_layLoop 47 = .ok (.aload_n 0, 1) := by decide +kernel
theorem dX4_layLoop_48 : decode cX4_layLoop 48 = .ok (.getfield 19, 3) := by decide +kernel
theorem dX4_layLoop_51 : decode cX4_layLoop 51 = .ok (.arraylength, 1) := by decide +kernel
theorem dX4_layLoop_52 : decode cX4_layLoop 52 = .ok (.if_icmp .lt 6, 3) := by decide +kernel
theorem dX4_layLoop_55 : decode cX4_layLoop 55 = .ok (.bipush (-4), 2) := by decide +kernel
theorem dX4_layLoop_57 : decode cX4_layLoop 57 = .ok (.ireturn, 1) := by decide +kernel
theorem dX4_layLoop_58 : decode cX4_layLoop 58 = .ok (.aload_n 0, 1) := by decide +kernel
theorem dX4_layLoop_59 : decode cX4_layLoop 59 = .ok (.getfield 47, 3) := by decide +kernel
theorem dX4_layLoop_62 : decode cX4_layLoop 62 = .ok (.istore 6, 2) := by decide +kernel
theorem dX4_layLoop_64 : decode cX4_layLoop 64 = .ok (.aload_n 0, 1) := by decide +kernel
theorem dX4_layLoop_65 : decode cX4_layLoop 65 = .ok (.dup, 1) := by decide +kernel
theorem dX4_layLoop_66 : decode cX4_layLoop 66 = .ok (.getfield 47, 3) := by decide +kernel
theorem dX4_layLoop_69 : decode cX4_layLoop 69 = .ok (.iconst 1, 1) := by decide +kernel
theorem dX4_layLoop_70 : decode cX4_layLoop 70 = .ok (.iadd, 1) := by decide +kernel
theorem dX4_layLoop_71 : decode cX4_layLoop 71 = .ok (.putfield 47, 3) := by decide +kernel
theorem dX4_layLoop_74 : decode cX4_layLoop 74 = .ok (.aload_n 0, 1) := by decide +kernel
theorem dX4_layLoop_75 : decode cX4_layLoop 75 = .ok (.iload 6, 2) := by decide +kernel
theorem dX4_layLoop_77 : decode cX4_layLoop 77 = .ok (.invokevirtual 58, 3) := by decide +kernel
theorem dX4_layLoop_80 : decode cX4_layLoop 80 = .ok (.astore 7, 2) := by decide +kernel
theorem dX4_layLoop_82 : decode cX4_layLoop 82 = .ok (.aload 7, 2) := by decide +kernel
theorem dX4_layLoop_84 : decode cX4_layLoop 84 = .ok (.ifnull 23, 3) := by decide +kernel
theorem dX4_layLoop_87 : decode cX4_layLoop 87 = .ok (.aload 7, 2) := by decide +kernel
theorem dX4_layLoop_89 : decode cX4_layLoop 89 = .ok (.iload_n 1, 1) := by decide +kernel
theorem dX4_layLoop_90 : decode cX4_layLoop 90 = .ok (.iload_n 2, 1) := by decide +kernel
theorem dX4_layLoop_91 : decode cX4_layLoop 91 = .ok (.iload_n 3, 1) := by decide +kernel
theorem dX4_layLoop_92 : decode cX4_layLoop 92 = .ok (.iload 4, 2) := by decide +kernel
theorem dX4_layLoop_94 : decode cX4_layLoop 94 = .ok (.iload 5, 2) := by decide +kernel
theorem dX4_layLoop_96 : decode cX4_layLoop 96 = .ok (.invokevirtual 73, 3) := by decide +kernel
theorem dX4_layLoop_99 : decode cX4_layLoop 99 = .ok (.aload_n 0, 1) := by decide +kernel
theorem dX4_layLoop_100 : decode cX4_layLoop 100 = .ok (.aload 7, 2) := by decide +kernel
theorem dX4_layLoop_102 : decode cX4_layLoop 102 = .ok (.iload 6, 2) := by decide +kernel
theorem dX4_layLoop_104 : decode cX4_layLoop 104 = .ok (.invokevirtual 77, 3) := by decide +kernel
theorem dX4_layLoop_107 : decode cX4_layLoop 107 = .ok (.iload 6, 2) := by decide +kernel
theorem dX4_layLoop_109 : decode cX4_layLoop 109 = .ok (.ireturn, 1) := by decide +kernel
theorem dX4_markCarsOver_0 : decode cX4_markCarsOver 0 = .ok (.iconst 0, 1) := by decide +kernel
theorem dX4_markCarsOver_1 : decode cX4_markCarsOver 1 = .ok (.istore_n 3, 1) := by decide +kernel
theorem dX4_markCarsOver_2 : decode cX4_markCarsOver 2 = .ok (.iload_n 3, 1) := by decide +kernel
theorem dX4_markCarsOver_3 : decode cX4_markCarsOver 3 = .ok (.aload_n 0, 1) := by decide +kernel
theorem dX4_markCarsOver_4 : decode cX4_markCarsOver 4 = .ok (.getfield 44, 3) := by decide +kernel
theorem dX4_markCarsOver_7 : decode cX4_markCarsOver 7 = .ok (.if_icmp .ge 43, 3) := by decide +kernel
theorem dX4_markCarsOver_10 : decode cX4_markCarsOver 10 = .ok (.aload_n 0, 1) := by decide +kernel
theorem dX4_markCarsOver_11 : decode cX4_markCarsOver 11 = .ok (.iload_n 3, 1) := by decide +kernel
theorem dX4_markCarsOver_12 : decode cX4_markCarsOver 12 = .ok (.invokevirtual 50, 3) := by decide +kernel
theorem dX4_markCarsOver_15 : decode cX4_markCarsOver 15 = .ok (.astore 4, 2) := by decide +kernel
theorem dX4_markCarsOver_17 : decode cX4_markCarsOver 17 = .ok (.aload 4, 2) := by decide +kernel
theorem dX4_markCarsOver_19 : decode cX4_markCarsOver 19 = .ok (.ifnull 25, 3) := by decide +kernel
theorem dX4_markCarsOver_22 : decode cX4_markCarsOver 22 = .ok (.aload_n 1, 1) := by decide +kernel
theorem dX4_markCarsOver_23 : decode cX4_markCarsOver 23 = .ok (.aload 4, 2) := by decide +kernel
theorem dX4_markCarsOver_25 : decode cX4_markCarsOver 25 = .ok (.invokevirtual 81, 3) := by decide +kernel
theorem dX4_markCarsOver_28 : decode cX4_markCarsOver 28 = .ok (.ifCond .eq 16, 3) := by decide +kernel
theorem dX4_markCarsOver_31 : decode cX4_markCarsOver 31 = .ok (.aload 4, 2) := by decide +kernel
theorem dX4_markCarsOver_33 : decode cX4_markCarsOver 33 = .ok (.dup, 1) := by decide +kernel
theorem dX4_markCarsOver_34 : decode cX4_markCarsOver 34 = .ok (.getfield 85, 3) := by decide +kernel
theorem dX4_markCarsOver_37 : decode cX4_markCarsOver 37 = .ok (.iconst 1, 1) := by decide +kernel
theorem dX4_markCarsOver_38 : decode cX4_markCarsOver 38 = .ok (.iload_n 2, 1) := by decide +kernel
theorem dX4_markCarsOver_39 : decode cX4_markCarsOver 39 = .ok (.ishl, 1) := by decide +kernel
theorem dX4_markCarsOver_40 : decode cX4_markCarsOver 40 = .ok (.ior, 1) := by decide +kernel
theorem dX4_markCarsOver_41 : decode cX4_markCarsOver 41 = .ok (.putfield 85, 3) := by decide +kernel
theorem dX4_markCarsOver_44 : decode cX4_markCarsOver 44 = .ok (.iinc 3 1, 3) := by decide +kernel
theorem dX4_markCarsOver_47 : decode cX4_markCarsOver 47 = .ok (.goto (-45), 3) := by decide +kernel
theorem dX4_markCarsOver_50 : decode cX4_markCarsOver 50 = .ok (.return_, 1) := by decide +kernel
theorem dX4_changeBounds_0 : decode cX4_changeBounds 0 = .ok (.aload_n 0, 1) := by decide +kernel
theorem dX4_changeBounds_1 : decode cX4_changeBounds 1 = .ok (.iload_n 1, 1) := by decide +kernel
theorem dX4_changeBounds_2 : decode cX4_changeBounds 2 = .ok (.invokevirtual 58, 3) := by decide +kernel
theorem dX4_changeBounds_5 : decode cX4_changeBounds 5 = .ok (.astore 4, 2) := by decide +kernel
theorem dX4_changeBounds_7 : decode cX4_changeBounds 7 = .ok (.aload 4, 2) := by decide +kernel
theorem dX4_changeBounds_9 : decode cX4_changeBounds 9 = .ok (.ifnonnull 5, 3) := by decide +kernel
theorem dX4_changeBounds_12 : decode cX4_changeBounds 12 = .ok (.iconst (-1), 1) := by decide +kernel
theorem dX4_changeBounds_13 : decode cX4_changeBounds 13 = .ok (.ireturn, 1) := by decide +kernel
theorem dX4_changeBounds_14 : decode cX4_changeBounds 14 = .ok (.iload_n 2, 1) := by decide +kernel
theorem dX4_changeBounds_15 : decode cX4_changeBounds 15 = .ok (.iload_n 3, 1) := by decide +kernel
theorem dX4_changeBounds_16 : decode cX4_changeBounds 16 = .ok (.invokestatic 69, 3) := by decide +kernel
theorem dX4_changeBounds_19 : decode cX4_changeBounds 19 = .ok (.ifCond .ne 6, 3) := by decide +kernel
theorem dX4_changeBounds_22 : decode cX4_changeBounds 22 = .ok (.bipush (-2), 2) := by decide +kernel
theorem dX4_changeBounds_24 : decode cX4_changeBounds 24 = .ok (.ireturn, 1) := by decide +kernel
theorem dX4_changeBounds_25 : decode cX4_changeBounds 25 = .ok (.aload 4, 2) := by decide +kernel
theorem dX4_changeBounds_27 : decode cX4_changeBounds 27 = .ok (.getfield 88, 3) := by decide +kernel
theorem dX4_changeBounds_30 : decode cX4_changeBounds 30 = .ok (.istore 5, 2) := by decide +kernel
theorem dX4_changeBounds_32 : decode cX4_changeBounds 32 = .ok (.aload 4, 2) := by decide +kernel
theorem dX4_changeBounds_34 : decode cX4_changeBounds 34 = .ok (.iload_n 2, 1) := by decide +kernel
theorem dX4_changeBounds_35 : decode cX4_changeBounds 35 = .ok (.putfield 88, 3) := by decide +kernel
theorem dX4_changeBounds_38 : decode cX4_changeBounds 38 = .ok (.aload 4, 2) := by decide +kernel
theorem dX4_changeBounds_40 : decode cX4_changeBounds 40 = .ok (.iload_n 3, 1) := by decide +kernel
theorem dX4_changeBounds_41 : decode cX4_changeBounds 41 = .ok (.putfield 91, 3) := by decide +kernel
theorem dX4_changeBounds_44 : decode cX4_changeBounds 44 = .ok (.iload 5, 2) := by decide +kernel
theorem dX4_changeBounds_46 : decode cX4_changeBounds 46 = .ok (.ireturn, 1) := by decide +kernel
theorem dX4_admitCar_0 : decode cX4_admitCar 0 = .ok (.iload_n 1, 1) := by decide +kernel
theorem dX4_admitCar_1 : decode cX4_admitCar 1 = .ok (.iconst 0, 1) := by decide +kernel
theorem dX4_admitCar_2 : decode cX4_admitCar 2 = .ok (.iconst 1, 1) := by decide +kernel
theorem dX4_admitCar_3 : decode cX4_admitCar 3 = .ok (.invokestatic 65, 3) := by decide +kernel
theorem dX4_admitCar_6 : decode cX4_admitCar 6 = .ok (.ifCond .eq 32, 3) := by decide +kernel
theorem dX4_admitCar_9 : decode cX4_admitCar 9 = .ok (.iload_n 2, 1) := by decide +kernel
theorem dX4_admitCar_10 : decode cX4_admitCar 10 = .ok (.iconst 1, 1) := by decide +kernel
theorem dX4_admitCar_11 : decode cX4_admitCar 11 = .ok (.iconst 4, 1) := by decide +kernel
theorem dX4_admitCar_12 : decode cX4_admitCar 12 = .ok (.invokestatic 65, 3) := by decide +kernel
theorem dX4_admitCar_15 : decode cX4_admitCar 15 = .ok (.ifCond .eq 23, 3) := by decide +kernel
theorem dX4_admitCar_18 : decode cX4_admitCar 18 = .ok (.iload_n 3, 1) := by decide +kernel
theorem dX4_admitCar_19 : decode cX4_admitCar 19 = .ok (.iconst 1, 1) := by decide +kernel
theorem dX4_admitCar_20 : decode cX4_admitCar 20 = .ok (.iconst 4, 1) := by decide +kernel
theorem dX4_admitCar_21 : decode cX4_admitCar 21 = .ok (.invokestatic 65, 3) := by decide +kernel
theorem dX4_admitCar_24 : decode cX4_admitCar 24 = .ok (.ifCond .eq 14, 3) := by decide +kernel
theorem dX4_admitCar_27 : decode cX4_admitCar 27 = .ok (.iload 4, 2) := by decide +kernel
theorem dX4_admitCar_29 : decode cX4_admitCar 29 = .ok (.iconst 1, 1) := by decide +kernel
theorem dX4_admitCar_30 : decode cX4_admitCar 30 = .ok (.bipush 9, 2) := by decide +kernel
theorem dX4_admitCar_32 : decode cX4_admitCar 32 = .ok (.invokestatic 65, 3) := by decide +kernel
theorem dX4_admitCar_35 : decode cX4_admitCar 35 = .ok (.ifCond .ne 6, 3) := by decide +kernel
theorem dX4_admitCar_38 : decode cX4_admitCar 38 = .ok (.bipush (-2), 2) := by decide +kernel
theorem dX4_admitCar_40 : decode cX4_admitCar 40 = .ok (.ireturn, 1) := by decide +kernel
theorem dX4_admitCar_41 : decode cX4_admitCar 41 = .ok (.aload_n 0, 1) := by decide +kernel
theorem dX4_admitCar_42 : decode cX4_admitCar 42 = .ok (.getfield 44, 3) := by decide +kernel
theorem dX4_admitCar_45 : decode cX4_admitCar 45 = .ok (.aload_n 0, 1) := by decide +kernel
theorem dX4_admitCar_46 : decode cX4_admitCar 46 = .ok (.getfield 11, 3) := by decide +kernel
theorem dX4_admitCar_49 : decode cX4_admitCar 49 = .ok (.arraylength, 1) := by decide +kernel
theorem dX4_admitCar_50 : decode cX4_admitCar 50 = .ok (.if_icmp .lt 6, 3) := by decide +kernel
theorem dX4_admitCar_53 : decode cX4_admitCar 53 = .ok (.bipush (-4), 2) := by decide +kernel
theorem dX4_admitCar_55 : decode cX4_admitCar 55 = .ok (.ireturn, 1) := by decide +kernel
theorem dX4_admitCar_56 : decode cX4_admitCar 56 = .ok (.aload_n 0, 1) := by decide +kernel
theorem dX4_admitCar_57 : decode cX4_admitCar 57 = .ok (.iload_n 1, 1) := by decide +kernel
theorem dX4_admitCar_58 : decode cX4_admitCar 58 = .ok (.iconst 0, 1) := by decide +kernel
theorem dX4_admitCar_59 : decode cX4_admitCar 59 = .ok (.invokevirtual 94, 3) := by decide +kernel
theorem dX4_admitCar_62 : decode cX4_admitCar 62 = .ok (.bipush (-6), 2) := by decide +kernel
theorem dX4_admitCar_64 : decode cX4_admitCar 64 = .ok (.if_icmp .eq 6, 3) := by decide +kernel
theorem dX4_admitCar_67 : decode cX4_admitCar 67 = .ok (.bipush (-5), 2) := by decide +kernel
theorem dX4_admitCar_69 : decode cX4_admitCar 69 = .ok (.ireturn, 1) := by decide +kernel
theorem dX4_admitCar_70 : decode cX4_admitCar 70 = .ok (.aload_n 0, 1) := by decide +kernel
theorem dX4_admitCar_71 : decode cX4_admitCar 71 = .ok (.getfield 44, 3) := by decide +kernel
theorem dX4_admitCar_74 : decode cX4_admitCar 74 = .ok (.istore 5, 2) := by decide +kernel
theorem dX4_admitCar_76 : decode cX4_admitCar 76 = .ok (.aload_n 0, 1) := by decide +kernel
theorem dX4_admitCar_77 : decode cX4_admitCar 77 = .ok (.dup, 1) := by decide +kernel
theorem dX4_admitCar_78 : decode cX4_admitCar 78 = .ok (.getfield 44, 3) := by decide +kernel
theorem dX4_admitCar_81 : decode cX4_admitCar 81 = .ok (.iconst 1, 1) := by decide +kernel
theorem dX4_admitCar_82 : decode cX4_admitCar 82 = .ok (.iadd, 1) := by decide +kernel
theorem dX4_admitCar_83 : decode cX4_admitCar 83 = .ok (.putfield 44, 3) := by decide +kernel
theorem dX4_admitCar_86 : decode cX4_admitCar 86 = .ok (.aload_n 0, 1) := by decide +kernel
theorem dX4_admitCar_87 : decode cX4_admitCar 87 = .ok (.iload 5, 2) := by decide +kernel
theorem dX4_admitCar_89 : decode cX4_admitCar 89 = .ok (.invokevirtual 50, 3) := by decide +kernel
theorem dX4_admitCar_92 : decode cX4_admitCar 92 = .ok (.astore 6, 2) := by decide +kernel
theorem dX4_admitCar_94 : decode cX4_admitCar 94 = .ok (.aload 6, 2) := by decide +kernel
theorem dX4_admitCar_96 : decode cX4_admitCar 96 = .ok (.ifnull 21, 3) := by decide +kernel
theorem dX4_admitCar_99 : decode cX4_admitCar 99 = .ok (.aload 6, 2) := by decide +kernel
theorem dX4_admitCar_101 : decode cX4_admitCar 101 = .ok (.iload_n 1, 1) := by decide +kernel
theorem dX4_admitCar_102 : decode cX4_admitCar 102 = .ok (.iload_n 2, 1) := by decide +kernel
theorem dX4_admitCar_103 : decode cX4_admitCar 103 = .ok (.iload_n 3, 1) := by decide +kernel
theorem dX4_admitCar_104 : decode cX4_admitCar 104 = .ok (.iload 4, 2) := by decide +kernel
theorem dX4_admitCar_106 : decode cX4_admitCar 106 = .ok (.invokevirtual 98, 3) := by decide +kernel
theorem dX4_admitCar_109 : decode cX4_admitCar 109 = .ok (.aload_n 0, 1) := by decide +kernel
theorem dX4_admitCar_110 : decode cX4_admitCar 110 = .ok (.iload_n 1, 1) := by decide +kernel
theorem dX4_admitCar_111 : decode cX4_admitCar 111 = .ok (.iconst 0, 1) := by decide +kernel
theorem dX4_admitCar_112 : decode cX4_admitCar 112 = .ok (.iload 5, 2) := by decide +kernel
theorem dX4_admitCar_114 : decode cX4_admitCar 114 = .ok (.invokevirtual 102, 3) := by decide +kernel
theorem dX4_admitCar_117 : decode cX4_admitCar 117 = .ok (.iload 5, 2) := by decide +kernel
theorem dX4_admitCar_119 : decode cX4_admitCar 119 = .ok (.ireturn, 1) := by decide +kernel
theorem dX4_turnWish_0 : decode cX4_turnWish 0 = .ok (.aload_n 0, 1) := by decide +kernel
theorem dX4_turnWish_1 : decode cX4_turnWish 1 = .ok (.iload_n 1, 1) := by decide +kernel
theorem dX4_turnWish_2 : decode cX4_turnWish 2 = .ok (.invokevirtual 50, 3) := by decide +kernel
theorem dX4_turnWish_5 : decode cX4_turnWish 5 = .ok (.astore_n 2, 1) := by decide +kernel
theorem dX4_turnWish_6 : decode cX4_turnWish 6 = .ok (.aload_n 2, 1) := by decide +kernel
theorem dX4_turnWish_7 : decode cX4_turnWish 7 = .ok (.ifnonnull 5, 3) := by decide +kernel
theorem dX4_turnWish_10 : decode cX4_turnWish 10 = .ok (.iconst (-1), 1) := by decide +kernel
theorem dX4_turnWish_11 : decode cX4_turnWish 11 = .ok (.ireturn, 1) := by decide +kernel
theorem dX4_turnWish_12 : decode cX4_turnWish 12 = .ok (.aload_n 2, 1) := by decide +kernel
theorem dX4_turnWish_13 : decode cX4_turnWish 13 = .ok (.getfield 106, 3) := by decide +kernel
theorem dX4_turnWish_16 : decode cX4_turnWish 16 = .ok (.ifCond .eq 6, 3) := by decide +kernel
theorem dX4_turnWish_19 : decode cX4_turnWish 19 = .ok (.bipush (-5), 2) := by decide +kernel
theorem dX4_turnWish_21 : decode cX4_turnWish 21 = .ok (.ireturn, 1) := by decide +kernel
theorem dX4_turnWish_22 : decode cX4_turnWish 22 = .ok (.aload_n 2, 1) := by decide +kernel
theorem dX4_turnWish_23 : decode cX4_turnWish 23 = .ok (.aload_n 2, 1) := by decide +kernel
theorem dX4_turnWish_24 : decode cX4_turnWish 24 = .ok (.getfield 110, 3) := by decide +kernel
theorem dX4_turnWish_27 : decode cX4_turnWish 27 = .ok (.ifCond .ne 7, 3) := by decide +kernel
theorem dX4_turnWish_30 : decode cX4_turnWish 30 = .ok (.iconst 1, 1) := by decide +kernel
theorem dX4_turnWish_31 : decode cX4_turnWish 31 = .ok (.goto 4, 3) := by decide +kernel
theorem dX4_turnWish_34 : decode cX4_turnWish 34 = .ok (.iconst 0, 1) := by decide +kernel
theorem dX4_turnWish_35 : decode cX4_turnWish 35 = .ok (.putfield 110, 3) := by decide +kernel
theorem dX4_turnWish_38 : decode cX4_turnWish 38 = .ok (.aload_n 2, 1) := by decide +kernel
theorem dX4_turnWish_39 : decode cX4_turnWish 39 = .ok (.getfield 110, 3) := by decide +kernel
theorem dX4_turnWish_42 : decode cX4_turnWish 42 = .ok (.ifCond .eq 7, 3) := by decide +kernel
theorem dX4_turnWish_45 : decode cX4_turnWish 45 = .ok (.iconst 1, 1) := by decide +kernel
theorem dX4_turnWish_46 : decode cX4_turnWish 46 = .ok (.goto 4, 3) := by decide +kernel
theorem dX4_turnWish_49 : decode cX4_turnWish 49 = .ok (.iconst 0, 1) := by decide +kernel
theorem dX4_turnWish_50 : decode cX4_turnWish 50 = .ok (.ireturn, 1) := by decide +kernel
theorem dX4_changeSpeed_0 : decode cX4_changeSpeed 0 = .ok (.aload_n 0, 1) := by decide +kernel
theorem dX4_changeSpeed_1 : decode cX4_changeSpeed 1 = .ok (.iload_n 1, 1) := by decide +kernel
theorem dX4_changeSpeed_2 : decode cX4_changeSpeed 2 = .ok (.invokevirtual 50, 3) := by decide +kernel
theorem dX4_changeSpeed_5 : decode cX4_changeSpeed 5 = .ok (.astore_n 3, 1) := by decide +kernel
theorem dX4_changeSpeed_6 : decode cX4_changeSpeed 6 = .ok (.aload_n 3, 1) := by decide +kernel
theorem dX4_changeSpeed_7 : decode cX4_changeSpeed 7 = .ok (.ifnonnull 5, 3) := by decide +kernel
theorem dX4_changeSpeed_10 : decode cX4_changeSpeed 10 = .ok (.iconst (-1), 1) := by decide +kernel
theorem dX4_changeSpeed_11 : decode cX4_changeSpeed 11 = .ok (.ireturn, 1) := by decide +kernel
theorem dX4_changeSpeed_12 : decode cX4_changeSpeed 12 = .ok (.iload_n 2, 1) := by decide +kernel
theorem dX4_changeSpeed_13 : decode cX4_changeSpeed 13 = .ok (.iconst 0, 1) := by decide +kernel
theorem dX4_changeSpeed_14 : decode cX4_changeSpeed 14 = .ok (.iconst 4, 1) := by decide +kernel
theorem dX4_changeSpeed_15 : decode cX4_changeSpeed 15 = .ok (.invokestatic 65, 3) := by decide +kernel
theorem dX4_changeSpeed_18 : decode cX4_changeSpeed 18 = .ok (.ifCond .ne 6, 3) := by decide +kernel
theorem dX4_changeSpeed_21 : decode cX4_changeSpeed 21 = .ok (.bipush (-2), 2) := by decide +kernel
theorem dX4_changeSpeed_23 : decode cX4_changeSpeed 23 = .ok (.ireturn, 1) := by decide +kernel
theorem dX4_changeSpeed_24 : decode cX4_changeSpeed 24 = .ok (.aload_n 3, 1) := by decide +kernel
theorem dX4_changeSpeed_25 : decode cX4_changeSpeed 25 = .ok (.getfield 106, 3) := by decide +kernel
theorem dX4_changeSpeed_28 : decode cX4_changeSpeed 28 = .ok (.ifCond .eq 6, 3) := by decide +kernel
theorem dX4_changeSpeed_31 : decode cX4_changeSpeed 31 = .ok (.bipush (-5), 2) := by decide +kernel
theorem dX4_changeSpeed_33 : decode cX4_changeSpeed 33 = .ok (.ireturn, 1) := by decide +kernel
theorem dX4_changeSpeed_34 : decode cX4_changeSpeed 34 = .ok (.aload_n 3, 1) := by decide +kernel
theorem dX4_changeSpeed_35 : decode cX4_changeSpeed 35 = .ok (.getfield 113, 3) := by decide +kernel
theorem dX4_changeSpeed_38 : decode cX4_changeSpeed 38 = .ok (.istore 4, 2) := by decide +kernel
theorem dX4_changeSpeed_40 : decode cX4_changeSpeed 40 = .ok (.aload_n 3, 1) := by decide +kernel
theorem dX4_changeSpeed_41 : decode cX4_changeSpeed 41 = .ok (.iload_n 2, 1) := by decide +kernel
theorem dX4_changeSpeed_42 : decode cX4_changeSpeed 42 = .ok (.putfield 113, 3) := by decide +kernel
theorem dX4_changeSpeed_45 : decode cX4_changeSpeed 45 = .ok (.iload 4, 2) := by decide +kernel
theorem dX4_changeSpeed_47 : decode cX4_changeSpeed 47 = .ok (.ireturn, 1) := by decide +kernel
theorem dX4_letPass_0 : decode cX4_letPass 0 = .ok (.iload_n 1, 1) := by decide +kernel
theorem dX4_letPass_1 : decode cX4_letPass 1 = .ok (.invokestatic 116, 3) := by decide +kernel
theorem dX4_letPass_4 : decode cX4_letPass 4 = .ok (.ifCond .ne 6, 3) := by decide +kernel
theorem dX4_letPass_7 : decode cX4_letPass 7 = .ok (.bipush (-2), 2) := by decide +kernel
theorem dX4_letPass_9 : decode cX4_letPass 9 = .ok (.ireturn, 1) := by decide +kernel
theorem dX4_letPass_10 : decode cX4_letPass 10 = .ok (.iconst 0, 1) := by decide +kernel
theorem dX4_letPass_11 : decode cX4_letPass 11 = .ok (.istore_n 2, 1) := by decide +kernel
theorem dX4_letPass_12 : decode cX4_letPass 12 = .ok (.iload_n 2, 1) := by decide +kernel
theorem dX4_letPass_13 : decode cX4_letPass 13 = .ok (.iload_n 1, 1) := by decide +kernel
theorem dX4_letPass_14 : decode cX4_letPass 14 = .ok (.if_icmp .ge 17, 3) := by decide +kernel
theorem dX4_letPass_17 : decode cX4_letPass 17 = .ok (.aload_n 0, 1) := by decide +kernel
theorem dX4_letPass_18 : decode cX4_letPass 18 = .ok (.aload_n 0, 1) := by decide +kernel
theorem dX4_letPass_19 : decode cX4_letPass 19 = .ok (.invokevirtual 120, 3) := by decide +kernel
theorem dX4_letPass_22 : decode cX4_letPass 22 = .ok (.invokevirtual 124, 3) := by decide +kernel
theorem dX4_letPass_25 : decode cX4_letPass 25 = .ok (.iinc 2 1, 3) := by decide +kernel
theorem dX4_letPass_28 : decode cX4_letPass 28 = .ok (.goto (-16), 3) := by decide +kernel
theorem dX4_letPass_31 : decode cX4_letPass 31 = .ok (.aload_n 0, 1) := by decide +kernel
theorem dX4_letPass_32 : decode cX4_letPass 32 = .ok (.getfield 41, 3) := by decide +kernel
theorem dX4_letPass_35 : decode cX4_letPass 35 = .ok (.ireturn, 1) := by decide +kernel
theorem dX4_listener_0 : decode cX4_listener 0 = .ok (.aload_n 0, 1) := by decide +kernel
theorem dX4_listener_1 : decode cX4_listener 1 = .ok (.getfield 47, 3) := by decide +kernel
theorem dX4_listener_4 : decode cX4_listener 4 = .ok (.ifCond .le 27, 3) := by decide +kernel
theorem dX4_listener_7 : decode cX4_listener 7 = .ok (.aload_n 0, 1) := by decide +kernel
theorem dX4_listener_8 : decode cX4_listener 8 = .ok (.getfield 34, 3) := by decide +kernel
theorem dX4_listener_11 : decode cX4_listener 11 = .ok (.ifCond .le 20, 3) := by decide +kernel
theorem dX4_listener_14 : decode cX4_listener 14 = .ok (.aload_n 0, 1) := by decide +kernel
theorem dX4_listener_15 : decode cX4_listener 15 = .ok (.getfield 41, 3) := by decide +kernel
theorem dX4_listener_18 : decode cX4_listener 18 = .ok (.aload_n 0, 1) := by decide +kernel
theorem dX4_listener_19 : decode cX4_listener 19 = .ok (.getfield 34, 3) := by decide +kernel
theorem dX4_listener_22 : decode cX4_listener 22 = .ok (.idiv, 1) := by decide +kernel
theorem dX4_listener_23 : decode cX4_listener 23 = .ok (.aload_n 0, 1) := by decide +kernel
theorem dX4_listener_24 : decode cX4_listener 24 = .ok (.getfield 47, 3) := by decide +kernel
theorem dX4_listener_27 : decode cX4_listener 27 = .ok (.irem, 1) := by decide +kernel
theorem dX4_listener_28 : decode cX4_listener 28 = .ok (.goto 5, 3) := by decide +kernel
theorem dX4_listener_31 : decode cX4_listener 31 = .ok (.bipush (-6), 2) := by decide +kernel
theorem dX4_listener_33 : decode cX4_listener 33 = .ok (.ireturn, 1) := by decide +kernel
theorem dX4_passTick_0 : decode cX4_passTick 0 = .ok (.aload_n 0, 1) := by decide +kernel
theorem dX4_passTick_1 : decode cX4_passTick 1 = .ok (.invokevirtual 127, 3) := by decide +kernel
theorem dX4_passTick_4 : decode cX4_passTick 4 = .ok (.istore_n 2, 1) := by decide +kernel
theorem dX4_passTick_5 : decode cX4_passTick 5 = .ok (.iconst 0, 1) := by decide +kernel
theorem dX4_passTick_6 : decode cX4_passTick 6 = .ok (.istore_n 3, 1) := by decide +kernel
theorem dX4_passTick_7 : decode cX4_passTick 7 = .ok (.iload_n 3, 1) := by decide +kernel
theorem dX4_passTick_8 : decode cX4_passTick 8 = .ok (.iload_n 2, 1) := by decide +kernel
theorem dX4_passTick_9 : decode cX4_passTick 9 = .ok (.if_icmp .ge 37, 3) := by decide +kernel
theorem dX4_passTick_12 : decode cX4_passTick 12 = .ok (.iload_n 3, 1) := by decide +kernel
theorem dX4_passTick_13 : decode cX4_passTick 13 = .ok (.aload_n 0, 1) := by decide +kernel
theorem dX4_passTick_14 : decode cX4_passTick 14 = .ok (.getfield 27, 3) := by decide +kernel
theorem dX4_passTick_17 : decode cX4_passTick 17 = .ok (.arraylength, 1) := by decide +kernel
theorem dX4_passTick_18 : decode cX4_passTick 18 = .ok (.if_icmp .ge 28, 3) := by decide +kernel
theorem dX4_passTick_21 : decode cX4_passTick 21 = .ok (.aload_n 0, 1) := by decide +kernel
theorem dX4_passTick_22 : decode cX4_passTick 22 = .ok (.getfield 27, 3) := by decide +kernel
theorem dX4_passTick_25 : decode cX4_passTick 25 = .ok (.iload_n 3, 1) := by decide +kernel
theorem dX4_passTick_26 : decode cX4_passTick 26 = .ok (.aaload, 1) := by decide +kernel
theorem dX4_passTick_27 : decode cX4_passTick 27 = .ok (.astore 4, 2) := by decide +kernel
theorem dX4_passTick_29 : decode cX4_passTick 29 = .ok (.aload 4, 2) := by decide +kernel
theorem dX4_passTick_31 : decode cX4_passTick 31 = .ok (.ifnull 9, 3) := by decide +kernel
theorem dX4_passTick_34 : decode cX4_passTick 34 = .ok (.aload_n 0, 1) := by decide +kernel
theorem dX4_passTick_35 : decode cX4_passTick 35 = .ok (.aload 4, 2) := by decide +kernel
theorem dX4_passTick_37 : decode cX4_passTick 37 = .ok (.invokevirtual 130, 3) := by decide +kernel
theorem dX4_passTick_40 : decode cX4_passTick 40 = .ok (.iinc 3 1, 3) := by decide +kernel
theorem dX4_passTick_43 : decode cX4_passTick 43 = .ok (.goto (-36), 3) := by decide +kernel
theorem dX4_passTick_46 : decode cX4_passTick 46 = .ok (.aload_n 0, 1) := by decide +kernel
theorem dX4_passTick_47 : decode cX4_passTick 47 = .ok (.invokevirtual 133, 3) := by decide +kernel
theorem dX4_passTick_50 : decode cX4_passTick 50 = .ok (.aload_n 0, 1) := by decide +kernel
theorem dX4_passTick_51 : decode cX4_passTick 51 = .ok (.iload_n 1, 1) := by decide +kernel
theorem dX4_passTick_52 : decode cX4_passTick 52 = .ok (.invokevirtual 58, 3) := by decide +kernel
theorem dX4_passTick_55 : decode cX4_passTick 55 = .ok (.astore_n 3, 1) := by decide +kernel
theorem dX4_passTick_56 : decode cX4_passTick 56 = .ok (.aload_n 3, 1) := by decide +kernel
theorem dX4_passTick_57 : decode cX4_passTick 57 = .ok (.ifnull 12, 3) := by decide +kernel
theorem dX4_passTick_60 : decode cX4_passTick 60 = .ok (.aload_n 3, 1) := by decide +kernel
theorem dX4_passTick_61 : decode cX4_passTick 61 = .ok (.aload_n 0, 1) := by decide +kernel
theorem dX4_passTick_62 : decode cX4_passTick 62 = .ok (.aload_n 3, 1) := by decide +kernel
theorem dX4_passTick_63 : decode cX4_passTick 63 = .ok (.invokevirtual 136, 3) := by decide +kernel
theorem dX4_passTick_66 : decode cX4_passTick 66 = .ok (.invokevirtual 140, 3) := by decide +kernel
theorem dX4_passTick_69 : decode cX4_passTick 69 = .ok (.aload_n 0, 1) := by decide +kernel
theorem dX4_passTick_70 : decode cX4_passTick 70 = .ok (.dup, 1) := by decide +kernel
theorem dX4_passTick_71 : decode cX4_passTick 71 = .ok (.getfield 41, 3) := by decide +kernel
theorem dX4_passTick_74 : decode cX4_passTick 74 = .ok (.iconst 1, 1) := by decide +kernel
theorem dX4_passTick_75 : decode cX4_passTick 75 = .ok (.iadd, 1) := by decide +kernel
theorem dX4_passTick_76 : decode cX4_passTick 76 = .ok (.putfield 41, 3) := by decide +kernel
theorem dX4_passTick_79 : decode cX4_passTick 79 = .ok (.return_, 1) := by decide +kernel
theorem dX4_orderMovers_0 : decode cX4_orderMovers 0 = .ok (.iconst 0, 1) := by decide +kernel
theorem dX4_orderMovers_1 : decode cX4_orderMovers 1 = .ok (.istore_n 1, 1) := by decide +kernel
theorem dX4_orderMovers_2 : decode cX4_orderMovers 2 = .ok (.iconst 0, 1) := by decide +kernel
theorem dX4_orderMovers_3 : decode cX4_orderMovers 3 = .ok (.istore_n 2, 1) := by decide +kernel
theorem dX4_orderMovers_4 : decode cX4_orderMovers 4 = .ok (.iload_n 2, 1) := by decide +kernel
theorem dX4_orderMovers_5 : decode cX4_orderMovers 5 = .ok (.aload_n 0, 1) := by decide +kernel
theorem dX4_orderMovers_6 : decode cX4_orderMovers 6 = .ok (.getfield 44, 3) := by decide +kernel
theorem dX4_orderMovers_9 : decode cX4_orderMovers 9 = .ok (.if_icmp .ge 44, 3) := by decide +kernel
theorem dX4_orderMovers_12 : decode cX4_orderMovers 12 = .ok (.aload_n 0, 1) := by decide +kernel
theorem dX4_orderMovers_13 : decode cX4_orderMovers 13 = .ok (.iload_n 2, 1) := by decide +kernel
theorem dX4_orderMovers_14 : decode cX4_orderMovers 14 = .ok (.invokevirtual 50, 3) := by decide +kernel
theorem dX4_orderMovers_17 : decode cX4_orderMovers 17 = .ok (.astore_n 3, 1) := by decide +kernel
theorem dX4_orderMovers_18 : decode cX4_orderMovers 18 = .ok (.aload_n 3, 1) := by decide +kernel
theorem dX4_orderMovers_19 : decode cX4_orderMovers 19 = .ok (.ifnull 28, 3) := by decide +kernel
theorem dX4_orderMovers_22 : decode cX4_orderMovers 22 = .ok (.aload_n 3, 1) := by decide +kernel
theorem dX4_orderMovers_23 : decode cX4_orderMovers 23 = .ok (.getfield 106, 3) := by decide +kernel
theorem dX4_orderMovers_26 : decode cX4_orderMovers 26 = .ok (.ifCond .ne 21, 3) := by decide +kernel
theorem dX4_orderMovers_29 : decode cX4_orderMovers 29 = .ok (.iload_n 1, 1) := by decide +kernel
theorem dX4_orderMovers_30 : decode cX4_orderMovers 30 = .ok (.aload_n 0, 1) := by decide +kernel
theorem dX4_orderMovers_31 : decode cX4_orderMovers 31 = .ok (.getfield 27, 3) := by decide +kernel
theorem dX4_orderMovers_34 : decode cX4_orderMovers 34 = .ok (.arraylength, 1) := by decide +kernel
theorem dX4_orderMovers_35 : decode cX4_orderMovers 35 = .ok (.if_icmp .ge 12, 3) := by decide +kernel
theorem dX4_orderMovers_38 : decode cX4_orderMovers 38 = .ok (.aload_n 0, 1) := by decide +kernel
theorem dX4_orderMovers_39 : decode cX4_orderMovers 39 = .ok (.aload_n 3, 1) := by decide +kernel
theorem dX4_orderMovers_40 : decode cX4_orderMovers 40 = .ok (.iload_n 1, 1) := by decide +kernel
theorem dX4_orderMovers_41 : decode cX4_orderMovers 41 = .ok (.invokevirtual 143, 3) := by decide +kernel
theorem dX4_orderMovers_44 : decode cX4_orderMovers 44 = .ok (.iinc 1 1, 3) := by decide +kernel
theorem dX4_orderMovers_47 : decode cX4_orderMovers 47 = .ok (.iinc 2 1, 3) := by decide +kernel
theorem dX4_orderMovers_50 : decode cX4_orderMovers 50 = .ok (.goto (-46), 3) := by decide +kernel
theorem dX4_orderMovers_53 : decode cX4_orderMovers 53 = .ok (.iload_n 1, 1) := by decide +kernel
theorem dX4_orderMovers_54 : decode cX4_orderMovers 54 = .ok (.ireturn, 1) := by decide +kernel
theorem dX4_insertMover_0 : decode cX4_insertMover 0 = .ok (.iload_n 2, 1) := by decide +kernel
theorem dX4_insertMover_1 : decode cX4_insertMover 1 = .ok (.istore_n 3, 1) := by decide +kernel
theorem dX4_insertMover_2 : decode cX4_insertMover 2 = .ok (.iload_n 2, 1) := by decide +kernel
theorem dX4_insertMover_3 : decode cX4_insertMover 3 = .ok (.iconst 1, 1) := by decide +kernel
theorem dX4_insertMover_4 : decode cX4_insertMover 4 = .ok (.isub, 1) := by decide +kernel
theorem dX4_insertMover_5 : decode cX4_insertMover 5 = .ok (.istore 4, 2) := by decide +kernel
theorem dX4_insertMover_7 : decode cX4_insertMover 7 = .ok (.iload 4, 2) := by decide +kernel
theorem dX4_insertMover_9 : decode cX4_insertMover 9 = .ok (.ifCond .lt 64, 3) := by decide +kernel
theorem dX4_insertMover_12 : decode cX4_insertMover 12 = .ok (.iload 4, 2) := by decide +kernel
theorem dX4_insertMover_14 : decode cX4_insertMover 14 = .ok (.iconst 1, 1) := by decide +kernel
theorem dX4_insertMover_15 : decode cX4_insertMover 15 = .ok (.iadd, 1) := by decide +kernel
theorem dX4_insertMover_16 : decode cX4_insertMover 16 = .ok (.aload_n 0, 1) := by decide +kernel
theorem dX4_insertMover_17 : decode cX4_insertMover 17 = .ok (.getfield 27, 3) := by decide +kernel
theorem dX4_insertMover_20 : decode cX4_insertMover 20 = .ok (.arraylength, 1) := by decide +kernel
theorem dX4_insertMover_21 : decode cX4_insertMover 21 = .ok (.if_icmp .ge 52, 3) := by decide +kernel
theorem dX4_insertMover_24 : decode cX4_insertMover 24 = .ok (.aload_n 0, 1) := by decide +kernel
theorem dX4_insertMover_25 : decode cX4_insertMover 25 = .ok (.getfield 27, 3) := by decide +kernel
theorem dX4_insertMover_28 : decode cX4_insertMover 28 = .ok (.iload 4, 2) := by decide +kernel
theorem dX4_insertMover_30 : decode cX4_insertMover 30 = .ok (.aaload, 1) := by decide +kernel
theorem dX4_insertMover_31 : decode cX4_insertMover 31 = .ok (.astore 5, 2) := by decide +kernel
theorem dX4_insertMover_33 : decode cX4_insertMover 33 = .ok (.aload 5, 2) := by decide +kernel
theorem dX4_insertMover_35 : decode cX4_insertMover 35 = .ok (.ifnull 38, 3) := by decide +kernel
theorem dX4_insertMover_38 : decode cX4_insertMover 38 = .ok (.aload 5, 2) := by decide +kernel
theorem dX4_insertMover_40 : decode cX4_insertMover 40 = .ok (.getfield 147, 3) := by decide +kernel
theorem dX4_insertMover_43 : decode cX4_insertMover 43 = .ok (.aload_n 1, 1) := by decide +kernel
theorem dX4_insertMover_44 : decode cX4_insertMover 44 = .ok (.getfield 147, 3) := by decide +kernel
theorem dX4_insertMover_47 : decode cX4_insertMover 47 = .ok (.if_icmp .lt 6, 3) := by decide +kernel
theorem dX4_insertMover_50 : decode cX4_insertMover 50 = .ok (.goto 23, 3) := by decide +kernel
theorem dX4_insertMover_53 : decode cX4_insertMover 53 = .ok (.aload_n 0, 1) := by decide +kernel
theorem dX4_insertMover_54 : decode cX4_insertMover 54 = .ok (.getfield 27, 3) := by decide +kernel
theorem dX4_insertMover_57 : decode cX4_insertMover 57 = .ok (.iload 4, 2) := by decide +kernel
theorem dX4_insertMover_59 : decode cX4_insertMover 59 = .ok (.iconst 1, 1) := by decide +kernel
theorem dX4_insertMover_60 : decode cX4_insertMover 60 = .ok (.iadd, 1) := by decide +kernel
theorem dX4_insertMover_61 : decode cX4_insertMover 61 = .ok (.aload 5, 2) := by decide +kernel
theorem dX4_insertMover_63 : decode cX4_insertMover 63 = .ok (.aastore, 1) := by decide +kernel
theorem dX4_insertMover_64 : decode cX4_insertMover 64 = .ok (.iload 4, 2) := by decide +kernel
theorem dX4_insertMover_66 : decode cX4_insertMover 66 = .ok (.istore_n 3, 1) := by decide +kernel
theorem dX4_insertMover_67 : decode cX4_insertMover 67 = .ok (.iinc 4 (-1), 3) := by decide +kernel
theorem dX4_insertMover_70 : decode cX4_insertMover 70 = .ok (.goto (-63), 3) := by decide +kernel
theorem dX4_insertMover_73 : decode cX4_insertMover 73 = .ok (.iload_n 3, 1) := by decide +kernel
theorem dX4_insertMover_74 : decode cX4_insertMover 74 = .ok (.ifCond .lt 19, 3) := by decide +kernel
theorem dX4_insertMover_77 : decode cX4_insertMover 77 = .ok (.iload_n 3, 1) := by decide +kernel
theorem dX4_insertMover_78 : decode cX4_insertMover 78 = .ok (.aload_n 0, 1) := by decide +kernel
theorem dX4_insertMover_79 : decode cX4_insertMover 79 = .ok (.getfield 27, 3) := by decide +kernel
theorem dX4_insertMover_82 : decode cX4_insertMover 82 = .ok (.arraylength, 1) := by decide +kernel
theorem dX4_insertMover_83 : decode cX4_insertMover 83 = .ok (.if_icmp .ge 10, 3) := by decide +kernel
theorem dX4_insertMover_86 : decode cX4_insertMover 86 = .ok (.aload_n 0, 1) := by decide +kernel
theorem dX4_insertMover_87 : decode cX4_insertMover 87 = .ok (.getfield 27, 3) := by decide +kernel
theorem dX4_insertMover_90 : decode cX4_insertMover 90 = .ok (.iload_n 3, 1) := by decide +kernel
theorem dX4_insertMover_91 : decode cX4_insertMover 91 = .ok (.aload_n 1, 1) := by decide +kernel
theorem dX4_insertMover_92 : decode cX4_insertMover 92 = .ok (.aastore, 1) := by decide +kernel
theorem dX4_insertMover_93 : decode cX4_insertMover 93 = .ok (.return_, 1) := by decide +kernel
theorem dX4_moveCar_0 : decode cX4_moveCar 0 = .ok (.aload_n 1, 1) := by decide +kernel
theorem dX4_moveCar_1 : decode cX4_moveCar 1 = .ok (.getfield 110, 3) := by decide +kernel
theorem dX4_moveCar_4 : decode cX4_moveCar 4 = .ok (.ifCond .eq 17, 3) := by decide +kernel
theorem dX4_moveCar_7 : decode cX4_moveCar 7 = .ok (.aload_n 0, 1) := by decide +kernel
theorem dX4_moveCar_8 : decode cX4_moveCar 8 = .ok (.aload_n 1, 1) := by decide +kernel
theorem dX4_moveCar_9 : decode cX4_moveCar 9 = .ok (.invokevirtual 150, 3) := by decide +kernel
theorem dX4_moveCar_12 : decode cX4_moveCar 12 = .ok (.ifCond .eq 9, 3) := by decide +kernel
theorem dX4_moveCar_15 : decode cX4_moveCar 15 = .ok (.aload_n 0, 1) := by decide +kernel
theorem dX4_moveCar_16 : decode cX4_moveCar 16 = .ok (.aload_n 1, 1) := by decide +kernel
theorem dX4_moveCar_17 : decode cX4_moveCar 17 = .ok (.invokevirtual 153, 3) := by decide +kernel
theorem dX4_moveCar_20 : decode cX4_moveCar 20 = .ok (.return_, 1) := by decide +kernel
theorem dX4_moveCar_21 : decode cX4_moveCar 21 = .ok (.iconst 0, 1) := by decide +kernel
theorem dX4_moveCar_22 : decode cX4_moveCar 22 = .ok (.istore_n 2, 1) := by decide +kernel
theorem dX4_moveCar_23 : decode cX4_moveCar 23 = .ok (.iload_n 2, 1) := by decide +kernel
theorem dX4_moveCar_24 : decode cX4_moveCar 24 = .ok (.aload_n 1, 1) := by decide +kernel
theorem dX4_moveCar_25 : decode cX4_moveCar 25 = .ok (.getfield 113, 3) := by decide +kernel
theorem dX4_moveCar_28 : decode cX4_moveCar 28 = .ok (.if_icmp .ge 95, 3) := by decide +kernel
theorem dX4_moveCar_31 : decode cX4_moveCar 31 = .ok (.aload_n 1, 1) := by decide +kernel
theorem dX4_moveCar_32 : decode cX4_moveCar 32 = .ok (.getfield 106, 3) := by decide +kernel
theorem dX4_moveCar_35 : decode cX4_moveCar 35 = .ok (.ifCond .ne 88, 3) := by decide +kernel
theorem dX4_moveCar_38 : decode cX4_moveCar 38 = .ok (.aload_n 0, 1) := by decide +kernel
theorem dX4_moveCar_39 : decode cX4_moveCar 39 = .ok (.aload_n 1, 1) := by decide +kernel
theorem dX4_moveCar_40 : decode cX4_moveCar 40 = .ok (.getfield 156, 3) := by decide +kernel
theorem dX4_moveCar_43 : decode cX4_moveCar 43 = .ok (.aload_n 1, 1) := by decide +kernel
theorem dX4_moveCar_44 : decode cX4_moveCar 44 = .ok (.getfield 147, 3) := by decide +kernel
theorem dX4_moveCar_47 : decode cX4_moveCar 47 = .ok (.iconst 1, 1) := by decide +kernel
theorem dX4_moveCar_48 : decode cX4_moveCar 48 = .ok (.iadd, 1) := by decide +kernel
theorem dX4_moveCar_49 : decode cX4_moveCar 49 = .ok (.invokevirtual 94, 3) := by decide +kernel
theorem dX4_moveCar_52 : decode cX4_moveCar 52 = .ok (.bipush (-6), 2) := by decide +kernel
theorem dX4_moveCar_54 : decode cX4_moveCar 54 = .ok (.if_icmp .ne 69, 3) := by decide +kernel
theorem dX4_moveCar_57 : decode cX4_moveCar 57 = .ok (.aload_n 1, 1) := by decide +kernel
theorem dX4_moveCar_58 : decode cX4_moveCar 58 = .ok (.dup, 1) := by decide +kernel
theorem dX4_moveCar_59 : decode cX4_moveCar 59 = .ok (.getfield 147, 3) := by decide +kernel
theorem dX4_moveCar_62 : decode cX4_moveCar 62 = .ok (.iconst 1, 1) := by decide +kernel
theorem dX4_moveCar_63 : decode cX4_moveCar 63 = .ok (.iadd, 1) := by decide +kernel
theorem dX4_moveCar_64 : decode cX4_moveCar 64 = .ok (.putfield 147, 3) := by decide +kernel
theorem dX4_moveCar_67 : decode cX4_moveCar 67 = .ok (.aload_n 0, 1) := by decide +kernel
theorem dX4_moveCar_68 : decode cX4_moveCar 68 = .ok (.aload_n 1, 1) := by decide +kernel
theorem dX4_moveCar_69 : decode cX4_moveCar 69 = .ok (.getfield 156, 3) := by decide +kernel
theorem dX4_moveCar_72 : decode cX4_moveCar 72 = .ok (.aload_n 1, 1) := by decide +kernel
theorem dX4_moveCar_73 : decode cX4_moveCar 73 = .ok (.getfield 147, 3) := by decide +kernel
theorem dX4_moveCar_76 : decode cX4_moveCar 76 = .ok (.aload_n 1, 1) := by decide +kernel
theorem dX4_moveCar_77 : decode cX4_moveCar 77 = .ok (.getfield 159, 3) := by decide +kernel
theorem dX4_moveCar_80 : decode cX4_moveCar 80 = .ok (.invokevirtual 102, 3) := by decide +kernel
theorem dX4_moveCar_83 : decode cX4_moveCar 83 = .ok (.aload_n 0, 1) := by decide +kernel
theorem dX4_moveCar_84 : decode cX4_moveCar 84 = .ok (.aload_n 1, 1) := by decide +kernel
theorem dX4_moveCar_85 : decode cX4_moveCar 85 = .ok (.getfield 156, 3) := by decide +kernel
theorem dX4_moveCar_88 : decode cX4_moveCar 88 = .ok (.aload_n 1, 1) := by decide +kernel
theorem dX4_moveCar_89 : decode cX4_moveCar 89 = .ok (.invokevirtual 162, 3) := by decide +kernel
theorem dX4_moveCar_92 : decode cX4_moveCar 92 = .ok (.iconst 1, 1) := by decide +kernel
theorem dX4_moveCar_93 : decode cX4_moveCar 93 = .ok (.isub, 1) := by decide +kernel
theorem dX4_moveCar_94 : decode cX4_moveCar 94 = .ok (.bipush (-6), 2) := by decide +kernel
theorem dX4_moveCar_96 : decode cX4_moveCar 96 = .ok (.invokevirtual 102, 3) := by decide +kernel
theorem dX4_moveCar_99 : decode cX4_moveCar 99 = .ok (.aload_n 1, 1) := by decide +kernel
theorem dX4_moveCar_100 : decode cX4_moveCar 100 = .ok (.aload_n 1, 1) := by decide +kernel
theorem dX4_moveCar_101 : decode cX4_moveCar 101 = .ok (.invokevirtual 162, 3) := by decide +kernel
theorem dX4_moveCar_104 : decode cX4_moveCar 104 = .ok (.bipush 39, 2) := by decide +kernel
theorem dX4_moveCar_106 : decode cX4_moveCar 106 = .ok (.if_icmp .le 7, 3) := by decide +kernel
theorem dX4_moveCar_109 : decode cX4_moveCar 109 = .ok (.iconst 1, 1) := by decide +kernel
theorem dX4_moveCar_110 : decode cX4_moveCar 110 = .ok (.goto 4, 3) := by decide +kernel
theorem dX4_moveCar_113 : decode cX4_moveCar 113 = .ok (.iconst 0, 1) := by decide +kernel
theorem dX4_moveCar_114 : decode cX4_moveCar 114 = .ok (.putfield 106, 3) := by decide +kernel
theorem dX4_moveCar_117 : decode cX4_moveCar 117 = .ok (.iinc 2 1, 3) := by decide +kernel
theorem dX4_moveCar_120 : decode cX4_moveCar 120 = .ok (.goto (-97), 3) := by decide +kernel
theorem dX4_moveCar_123 : decode cX4_moveCar 123 = .ok (.iload_n 2, 1) := by decide +kernel
theorem dX4_moveCar_124 : decode cX4_moveCar 124 = .ok (.aload_n 1, 1) := by decide +kernel
theorem dX4_moveCar_125 : decode cX4_moveCar 125 = .ok (.getfield 113, 3) := by decide +kernel
theorem dX4_moveCar_128 : decode cX4_moveCar 128 = .ok (.if_icmp .ge 20, 3) := by decide +kernel
theorem dX4_moveCar_131 : decode cX4_moveCar 131 = .ok (.aload_n 1, 1) := by decide +kernel
theorem dX4_moveCar_132 : decode cX4_moveCar 132 = .ok (.getfield 106, 3) := by decide +kernel
theorem dX4_moveCar_135 : decode cX4_moveCar 135 = .ok (.ifCond .ne 13, 3) := by decide +kernel
theorem dX4_moveCar_138 : decode cX4_moveCar 138 = .ok (.aload_n 1, 1) := by decide +kernel
theorem dX4_moveCar_139 : decode cX4_moveCar 139 = .ok (.dup, 1) := by decide +kernel
theorem dX4_moveCar_140 : decode cX4_moveCar 140 = .ok (.getfield 165, 3) := by decide +kernel
theorem dX4_moveCar_143 : decode cX4_moveCar 143 = .ok (.iconst 1, 1) := by decide +kernel
theorem dX4_moveCar_144 : decode cX4_moveCar 144 = .ok (.iadd, 1) := by decide +kernel
theorem dX4_moveCar_145 : decode cX4_moveCar 145 = .ok (.putfield 165, 3) := by decide +kernel
theorem dX4_moveCar_148 : decode cX4_moveCar 148 = .ok (.return_, 1) := by decide +kernel
theorem dX4_isFreeBeside_0 : decode cX4_isFreeBeside 0 = .ok (.aload_n 1, 1) := by decide +kernel
theorem dX4_isFreeBeside_1 : decode cX4_isFreeBeside 1 = .ok (.invokevirtual 162, 3) := by decide +kernel
theorem dX4_isFreeBeside_4 : decode cX4_isFreeBeside 4 = .ok (.istore_n 2, 1) := by decide +kernel
theorem dX4_isFreeBeside_5 : decode cX4_isFreeBeside 5 = .ok (.iload_n 2, 1) := by decide +kernel
theorem dX4_isFreeBeside_6 : decode cX4_isFreeBeside 6 = .ok (.aload_n 1, 1) := by decide +kernel
theorem dX4_isFreeBeside_7 : decode cX4_isFreeBeside 7 = .ok (.getfield 147, 3) := by decide +kernel
theorem dX4_isFreeBeside_10 : decode cX4_isFreeBeside 10 = .ok (.if_icmp .gt 27, 3) := by decide +kernel
theorem dX4_isFreeBeside_13 : decode cX4_isFreeBeside 13 = .ok (.aload_n 0, 1) := by decide +kernel
theorem dX4_isFreeBeside_14 : decode cX4_isFreeBeside 14 = .ok (.iconst 1, 1) := by decide +kernel
theorem dX4_isFreeBeside_15 : decode cX4_isFreeBeside 15 = .ok (.aload_n 1, 1) := by decide +kernel
theorem dX4_isFreeBeside_16 : decode cX4_isFreeBeside 16 = .ok (.getfield 156, 3) := by decide +kernel
theorem dX4_isFreeBeside_19 : decode cX4_isFreeBeside 19 = .ok (.isub, 1) := by decide +kernel
theorem dX4_isFreeBeside_20 : decode cX4_isFreeBeside 20 = .ok (.iload_n 2, 1) := by decide +kernel
theorem dX4_isFreeBeside_21 : decode cX4_isFreeBeside 21 = .ok (.invokevirtual 94, 3) := by decide +kernel
theorem dX4_isFreeBeside_24 : decode cX4_isFreeBeside 24 = .ok (.bipush (-6), 2) := by decide +kernel
theorem dX4_isFreeBeside_26 : decode cX4_isFreeBeside 26 = .ok (.if_icmp .eq 5, 3) := by decide +kernel
theorem dX4_isFreeBeside_29 : decode cX4_isFreeBeside 29 = .ok (.iconst 0, 1) := by decide +kernel
theorem dX4_isFreeBeside_30 : decode cX4_isFreeBeside 30 = .ok (.ireturn, 1) := by decide +kernel
theorem dX4_isFreeBeside_31 : decode cX4_isFreeBeside 31 = .ok (.iinc 2 1, 3) := by decide +kernel
theorem dX4_isFreeBeside_34 : decode cX4_isFreeBeside 34 = .ok (.goto (-29), 3) := by decide +kernel
theorem dX4_isFreeBeside_37 : decode cX4_isFreeBeside 37 = .ok (.iconst 1, 1) := by decide +kernel
theorem dX4_isFreeBeside_38 : decode cX4_isFreeBeside 38 = .ok (.ireturn, 1) := by decide +kernel
theorem dX4_changeLane_0 : decode cX4_changeLane 0 = .ok (.aload_n 1, 1) := by decide +kernel
theorem dX4_changeLane_1 : decode cX4_changeLane 1 = .ok (.invokevirtual 162, 3) := by decide +kernel
theorem dX4_changeLane_4 : decode cX4_changeLane 4 = .ok (.istore_n 2, 1) := by decide +kernel
theorem dX4_changeLane_5 : decode cX4_changeLane 5 = .ok (.iload_n 2, 1) := by decide +kernel
theorem dX4_changeLane_6 : decode cX4_changeLane 6 = .ok (.aload_n 1, 1) := by decide +kernel
theorem dX4_changeLane_7 : decode cX4_changeLane 7 = .ok (.getfield 147, 3) := by decide +kernel
theorem dX4_changeLane_10 : decode cX4_changeLane 10 = .ok (.if_icmp .gt 35, 3) := by decide +kernel
theorem dX4_changeLane_13 : decode cX4_changeLane 13 = .ok (.aload_n 0, 1) := by decide +kernel
theorem dX4_changeLane_14 : decode cX4_changeLane 14 = .ok (.aload_n 1, 1) := by decide +kernel
theorem dX4_changeLane_15 : decode cX4_changeLane 15 = .ok (.getfield 156, 3) := by decide +kernel
theorem dX4_changeLane_18 : decode cX4_changeLane 18 = .ok (.iload_n 2, 1) := by decide +kernel
theorem dX4_changeLane_19 : decode cX4_changeLane 19 = .ok (.bipush (-6), 2) := by decide +kernel
theorem dX4_changeLane_21 : decode cX4_changeLane 21 = .ok (.invokevirtual 102, 3) := by decide +kernel
theorem dX4_changeLane_24 : decode cX4_changeLane 24 = .ok (.aload_n 0, 1) := by decide +kernel
theorem dX4_changeLane_25 : decode cX4_changeLane 25 = .ok (.iconst 1, 1) := by decide +kernel
theorem dX4_changeLane_26 : decode cX4_changeLane 26 = .ok (.aload_n 1, 1) := by decide +kernel
theorem dX4_changeLane_27 : decode cX4_changeLane 27 = .ok (.getfield 156, 3) := by decide +kernel
theorem dX4_changeLane_30 : decode cX4_changeLane 30 = .ok (.isub, 1) := by decide +kernel
theorem dX4_changeLane_31 : decode cX4_changeLane 31 = .ok (.iload_n 2, 1) := by decide +kernel
theorem dX4_changeLane_32 : decode cX4_changeLane 32 = .ok (.aload_n 1, 1) := by decide +kernel
theorem dX4_changeLane_33 : decode cX4_changeLane 33 = .ok (.getfield 159, 3) := by decide +kernel
theorem dX4_changeLane_36 : decode cX4_changeLane 36 = .ok (.invokevirtual 102, 3) := by decide +kernel
theorem dX4_changeLane_39 : decode cX4_changeLane 39 = .ok (.iinc 2 1, 3) := by decide +kernel
theorem dX4_changeLane_42 : decode cX4_changeLane 42 = .ok (.goto (-37), 3) := by decide +kernel
theorem dX4_changeLane_45 : decode cX4_changeLane 45 = .ok (.aload_n 1, 1) := by decide +kernel
theorem dX4_changeLane_46 : decode cX4_changeLane 46 = .ok (.iconst 1, 1) := by decide +kernel
theorem dX4_changeLane_47 : decode cX4_changeLane 47 = .ok (.aload_n 1, 1) := by decide +kernel
theorem dX4_changeLane_48 : decode cX4_changeLane 48 = .ok (.getfield 156, 3) := by decide +kernel
theorem dX4_changeLane_51 : decode cX4_changeLane 51 = .ok (.isub, 1) := by decide +kernel
theorem dX4_changeLane_52 : decode cX4_changeLane 52 = .ok (.putfield 156, 3) := by decide +kernel
theorem dX4_changeLane_55 : decode cX4_changeLane 55 = .ok (.aload_n 1, 1) := by decide +kernel
theorem dX4_changeLane_56 : decode cX4_changeLane 56 = .ok (.iconst 0, 1) := by decide +kernel
theorem dX4_changeLane_57 : decode cX4_changeLane 57 = .ok (.putfield 110, 3) := by decide +kernel
theorem dX4_changeLane_60 : decode cX4_changeLane 60 = .ok (.aload_n 1, 1) := by decide +kernel
theorem dX4_changeLane_61 : decode cX4_changeLane 61 = .ok (.dup, 1) := by decide +kernel
theorem dX4_changeLane_62 : decode cX4_changeLane 62 = .ok (.getfield 168, 3) := by decide +kernel
theorem dX4_changeLane_65 : decode cX4_changeLane 65 = .ok (.iconst 1, 1) := by decide +kernel
theorem dX4_changeLane_66 : decode cX4_changeLane 66 = .ok (.iadd, 1) := by decide +kernel
theorem dX4_changeLane_67 : decode cX4_changeLane 67 = .ok (.putfield 168, 3) := by decide +kernel
theorem dX4_changeLane_70 : decode cX4_changeLane 70 = .ok (.return_, 1) := by decide +kernel
theorem dX4_notePassings_0 : decode cX4_notePassings 0 = .ok (.iconst 0, 1) := by decide +kernel
theorem dX4_notePassings_1 : decode cX4_notePassings 1 = .ok (.istore_n 1, 1) := by decide +kernel
theorem dX4_notePassings_2 : decode cX4_notePassings 2 = .ok (.iload_n 1, 1) := by decide +kernel
theorem dX4_notePassings_3 : decode cX4_notePassings 3 = .ok (.aload_n 0, 1) := by decide +kernel
theorem dX4_notePassings_4 : decode cX4_notePassings 4 = .ok (.getfield 44, 3) := by decide +kernel
theorem dX4_notePassings_7 : decode cX4_notePassings 7 = .ok (.if_icmp .ge 56, 3) := by decide +kernel
theorem dX4_notePassings_10 : decode cX4_notePassings 10 = .ok (.aload_n 0, 1) := by decide +kernel
theorem dX4_notePassings_11 : decode cX4_notePassings 11 = .ok (.iload_n 1, 1) := by decide +kernel
theorem dX4_notePassings_12 : decode cX4_notePassings 12 = .ok (.invokevirtual 50, 3) := by decide +kernel
theorem dX4_notePassings_15 : decode cX4_notePassings 15 = .ok (.astore_n 2, 1) := by decide +kernel
theorem dX4_notePassings_16 : decode cX4_notePassings 16 = .ok (.aload_n 2, 1) := by decide +kernel
theorem dX4_notePassings_17 : decode cX4_notePassings 17 = .ok (.ifnull 40, 3) := by decide +kernel
theorem dX4_notePassings_20 : decode cX4_notePassings 20 = .ok (.aload_n 2, 1) := by decide +kernel
theorem dX4_notePassings_21 : decode cX4_notePassings 21 = .ok (.getfield 106, 3) := by decide +kernel
theorem dX4_notePassings_24 : decode cX4_notePassings 24 = .ok (.ifCond .eq 10, 3) := by decide +kernel
theorem dX4_notePassings_27 : decode cX4_notePassings 27 = .ok (.aload_n 2, 1) := by decide +kernel
theorem dX4_notePassings_28 : decode cX4_notePassings 28 = .ok (.getfield 85, 3) := by decide +kernel
theorem dX4_notePassings_31 : decode cX4_notePassings 31 = .ok (.ifCond .eq 26, 3) := by decide +kernel
theorem dX4_notePassings_34 : decode cX4_notePassings 34 = .ok (.aload_n 0, 1) := by decide +kernel
theorem dX4_notePassings_35 : decode cX4_notePassings 35 = .ok (.aload_n 2, 1) := by decide +kernel
theorem dX4_notePassings_36 : decode cX4_notePassings 36 = .ok (.invokevirtual 171, 3) := by decide +kernel
theorem dX4_notePassings_39 : decode cX4_notePassings 39 = .ok (.istore_n 3, 1) := by decide +kernel
theorem dX4_notePassings_40 : decode cX4_notePassings 40 = .ok (.aload_n 0, 1) := by decide +kernel
theorem dX4_notePassings_41 : decode cX4_notePassings 41 = .ok (.iload_n 3, 1) := by decide +kernel
theorem dX4_notePassings_42 : decode cX4_notePassings 42 = .ok (.aload_n 2, 1) := by decide +kernel
theorem dX4_notePassings_43 : decode cX4_notePassings 43 = .ok (.getfield 85, 3) := by decide +kernel
theorem dX4_notePassings_46 : decode cX4_notePassings 46 = .ok (.iconst (-1), 1) := by decide +kernel
theorem dX4_notePassings_47 : decode cX4_notePassings 47 = .ok (.ixor, 1) := by decide +kernel
theorem dX4_notePassings_48 : decode cX4_notePassings 48 = .ok (.iand, 1) := by decide +kernel
theorem dX4_notePassings_49 : decode cX4_notePassings 49 = .ok (.invokevirtual 175, 3) := by decide +kernel
theorem dX4_notePassings_52 : decode cX4_notePassings 52 = .ok (.aload_n 2, 1) := by decide +kernel
theorem dX4_notePassings_53 : decode cX4_notePassings 53 = .ok (.iload_n 3, 1) := by decide +kernel
theorem dX4_notePassings_54 : decode cX4_notePassings 54 = .ok (.putfield 85, 3) := by decide +kernel
theorem dX4_notePassings_57 : decode cX4_notePassings 57 = .ok (.iinc 1 1, 3) := by decide +kernel
theorem dX4_notePassings_60 : decode cX4_notePassings 60 = .ok (.goto (-58), 3) := by decide +kernel
theorem dX4_notePassings_63 : decode cX4_notePassings 63 = .ok (.return_, 1) := by decide +kernel
theorem dX4_countPassings_0 : decode cX4_countPassings 0 = .ok (.iconst 0, 1) := by decide +kernel
theorem dX4_countPassings_1 : decode cX4_countPassings 1 = .ok (.istore_n 2, 1) := by decide +kernel
theorem dX4_countPassings_2 : decode cX4_countPassings 2 = .ok (.iload_n 2, 1) := by decide +kernel
theorem dX4_countPassings_3 : decode cX4_countPassings 3 = .ok (.aload_n 0, 1) := by decide +kernel
theorem dX4_countPassings_4 : decode cX4_countPassings 4 = .ok (.getfield 47, 3) := by decide +kernel
theorem dX4_countPassings_7 : decode cX4_countPassings 7 = .ok (.if_icmp .ge 38, 3) := by decide +kernel
theorem dX4_countPassings_10 : decode cX4_countPassings 10 = .ok (.aload_n 0, 1) := by decide +kernel
theorem dX4_countPassings_11 : decode cX4_countPassings 11 = .ok (.iload_n 2, 1) := by decide +kernel
theorem dX4_countPassings_12 : decode cX4_countPassings 12 = .ok (.invokevirtual 58, 3) := by decide +kernel
theorem dX4_countPassings_15 : decode cX4_countPassings 15 = .ok (.astore_n 3, 1) := by decide +kernel
theorem dX4_countPassings_16 : decode cX4_countPassings 16 = .ok (.aload_n 3, 1) := by decide +kernel
theorem dX4_countPassings_17 : decode cX4_countPassings 17 = .ok (.ifnull 22, 3) := by decide +kernel
theorem dX4_countPassings_20 : decode cX4_countPassings 20 = .ok (.iload_n 1, 1) := by decide +kernel
theorem dX4_countPassings_21 : decode cX4_countPassings 21 = .ok (.iload_n 2, 1) := by decide +kernel
theorem dX4_countPassings_22 : decode cX4_countPassings 22 = .ok (.ishr, 1) := by decide +kernel
theorem dX4_countPassings_23 : decode cX4_countPassings 23 = .ok (.iconst 1, 1) := by decide +kernel
theorem dX4_countPassings_24 : decode cX4_countPassings 24 = .ok (.iand, 1) := by decide +kernel
theorem dX4_countPassings_25 : decode cX4_countPassings 25 = .ok (.iconst 1, 1) := by decide +kernel
theorem dX4_countPassings_26 : decode cX4_countPassings 26 = .ok (.if_icmp .ne 13, 3) := by decide +kernel
theorem dX4_countPassings_29 : decode cX4_countPassings 29 = .ok (.aload_n 3, 1) := by decide +kernel
theorem dX4_countPassings_30 : decode cX4_countPassings 30 = .ok (.dup, 1) := by decide +kernel
theorem dX4_countPassings_31 : decode cX4_countPassings 31 = .ok (.getfield 178, 3) := by decide +kernel
theorem dX4_countPassings_34 : decode cX4_countPassings 34 = .ok (.iconst 1, 1) := by decide +kernel
theorem dX4_countPassings_35 : decode cX4_countPassings 35 = .ok (.iadd, 1) := by decide +kernel
theorem dX4_countPassings_36 : decode cX4_countPassings 36 = .ok (.putfield 178, 3) := by decide +kernel
theorem dX4_countPassings_39 : decode cX4_countPassings 39 = .ok (.iinc 2 1, 3) := by decide +kernel
theorem dX4_countPassings_42 : decode cX4_countPassings 42 = .ok (.goto (-40), 3) := by decide +kernel
theorem dX4_countPassings_45 : decode cX4_countPassings 45 = .ok (.return_, 1) := by decide +kernel
theorem dX4_loopsUnder_0 : decode cX4_loopsUnder 0 = .ok (.iconst 0, 1) := by decide +kernel
theorem dX4_loopsUnder_1 : decode cX4_loopsUnder 1 = .ok (.istore_n 2, 1) := by decide +kernel
theorem dX4_loopsUnder_2 : decode cX4_loopsUnder 2 = .ok (.iconst 0, 1) := by decide +kernel
theorem dX4_loopsUnder_3 : decode cX4_loopsUnder 3 = .ok (.istore_n 3, 1) := by decide +kernel
theorem dX4_loopsUnder_4 : decode cX4_loopsUnder 4 = .ok (.iload_n 3, 1) := by decide +kernel
theorem dX4_loopsUnder_5 : decode cX4_loopsUnder 5 = .ok (.aload_n 0, 1) := by decide +kernel
theorem dX4_loopsUnder_6 : decode cX4_loopsUnder 6 = .ok (.getfield 47, 3) := by decide +kernel
theorem dX4_loopsUnder_9 : decode cX4_loopsUnder 9 = .ok (.if_icmp .ge 36, 3) := by decide +kernel
theorem dX4_loopsUnder_12 : decode cX4_loopsUnder 12 = .ok (.aload_n 0, 1) := by decide +kernel
theorem dX4_loopsUnder_13 : decode cX4_loopsUnder 13 = .ok (.iload_n 3, 1) := by decide +kernel
theorem dX4_loopsUnder_14 : decode cX4_loopsUnder 14 = .ok (.invokevirtual 58, 3) := by decide +kernel
theorem dX4_loopsUnder_17 : decode cX4_loopsUnder 17 = .ok (.astore 4, 2) := by decide +kernel
theorem dX4_loopsUnder_19 : decode cX4_loopsUnder 19 = .ok (.aload 4, 2) := by decide +kernel
theorem dX4_loopsUnder_21 : decode cX4_loopsUnder 21 = .ok (.ifnull 18, 3) := by decide +kernel
theorem dX4_loopsUnder_24 : decode cX4_loopsUnder 24 = .ok (.aload 4, 2) := by decide +kernel
theorem dX4_loopsUnder_26 : decode cX4_loopsUnder 26 = .ok (.aload_n 1, 1) := by decide +kernel
theorem dX4_loopsUnder_27 : decode cX4_loopsUnder 27 = .ok (.invokevirtual 81, 3) := by decide +kernel
theorem dX4_loopsUnder_30 : decode cX4_loopsUnder 30 = .ok (.ifCond .eq 9, 3) := by decide +kernel
theorem dX4_loopsUnder_33 : decode cX4_loopsUnder 33 = .ok (.iload_n 2, 1) := by decide +kernel
theorem dX4_loopsUnder_34 : decode cX4_loopsUnder 34 = .ok (.iconst 1, 1) := by decide +kernel
theorem dX4_loopsUnder_35 : decode cX4_loopsUnder 35 = .ok (.iload_n 3, 1) := by decide +kernel
theorem dX4_loopsUnder_36 : decode cX4_loopsUnder 36 = .ok (.ishl, 1) := by decide +kernel
theorem dX4_loopsUnder_37 : decode cX4_loopsUnder 37 = .ok (.ior, 1) := by decide +kernel
theorem dX4_loopsUnder_38 : decode cX4_loopsUnder 38 = .ok (.istore_n 2, 1) := by decide +kernel
theorem dX4_loopsUnder_39 : decode cX4_loopsUnder 39 = .ok (.iinc 3 1, 3) := by decide +kernel
theorem dX4_loopsUnder_42 : decode cX4_loopsUnder 42 = .ok (.goto (-38), 3) := by decide +kernel
theorem dX4_loopsUnder_45 : decode cX4_loopsUnder 45 = .ok (.iload_n 2, 1) := by decide +kernel
theorem dX4_loopsUnder_46 : decode cX4_loopsUnder 46 = .ok (.ireturn, 1) := by decide +kernel
theorem dX4_strengthOf_0 : decode cX4_strengthOf 0 = .ok (.iconst 4, 1) := by decide +kernel
theorem dX4_strengthOf_1 : decode cX4_strengthOf 1 = .ok (.aload_n 0, 1) := by decide +kernel
theorem dX4_strengthOf_2 : decode cX4_strengthOf 2 = .ok (.aload_n 1, 1) := by decide +kernel
theorem dX4_strengthOf_3 : decode cX4_strengthOf 3 = .ok (.getfield 181, 3) := by decide +kernel
theorem dX4_strengthOf_6 : decode cX4_strengthOf 6 = .ok (.aload_n 1, 1) := by decide +kernel
theorem dX4_strengthOf_7 : decode cX4_strengthOf 7 = .ok (.invokevirtual 182, 3) := by decide +kernel
theorem dX4_strengthOf_10 : decode cX4_strengthOf 10 = .ok (.imul, 1) := by decide +kernel
theorem dX4_strengthOf_11 : decode cX4_strengthOf 11 = .ok (.aload_n 0, 1) := by decide +kernel
theorem dX4_strengthOf_12 : decode cX4_strengthOf 12 = .ok (.getfield 30, 3) := by decide +kernel
theorem dX4_strengthOf_15 : decode cX4_strengthOf 15 = .ok (.aload_n 0, 1) := by decide +kernel
theorem dX4_strengthOf_16 : decode cX4_strengthOf 16 = .ok (.iconst 1, 1) := by decide +kernel
theorem dX4_strengthOf_17 : decode cX4_strengthOf 17 = .ok (.aload_n 1, 1) := by decide +kernel
theorem dX4_strengthOf_18 : decode cX4_strengthOf 18 = .ok (.getfield 181, 3) := by decide +kernel
theorem dX4_strengthOf_21 : decode cX4_strengthOf 21 = .ok (.isub, 1) := by decide +kernel
theorem dX4_strengthOf_22 : decode cX4_strengthOf 22 = .ok (.aload_n 1, 1) := by decide +kernel
theorem dX4_strengthOf_23 : decode cX4_strengthOf 23 = .ok (.invokevirtual 182, 3) := by decide +kernel
theorem dX4_strengthOf_26 : decode cX4_strengthOf 26 = .ok (.imul, 1) := by decide +kernel
theorem dX4_strengthOf_27 : decode cX4_strengthOf 27 = .ok (.iadd, 1) := by decide +kernel
theorem dX4_strengthOf_28 : decode cX4_strengthOf 28 = .ok (.ireturn, 1) := by decide +kernel
theorem dX4_metalIn_0 : decode cX4_metalIn 0 = .ok (.iconst 0, 1) := by decide +kernel
theorem dX4_metalIn_1 : decode cX4_metalIn 1 = .ok (.istore_n 3, 1) := by decide +kernel
theorem dX4_metalIn_2 : decode cX4_metalIn 2 = .ok (.iconst 0, 1) := by decide +kernel
theorem dX4_metalIn_3 : decode cX4_metalIn 3 = .ok (.istore 4, 2) := by decide +kernel
theorem dX4_metalIn_5 : decode cX4_metalIn 5 = .ok (.iload 4, 2) := by decide +kernel
theorem dX4_metalIn_7 : decode cX4_metalIn 7 = .ok (.aload_n 2, 1) := by decide +kernel
theorem dX4_metalIn_8 : decode cX4_metalIn 8 = .ok (.getfield 186, 3) := by decide +kernel
theorem dX4_metalIn_11 : decode cX4_metalIn 11 = .ok (.if_icmp .ge 40, 3) := by decide +kernel
theorem dX4_metalIn_14 : decode cX4_metalIn 14 = .ok (.aload_n 0, 1) := by decide +kernel
theorem dX4_metalIn_15 : decode cX4_metalIn 15 = .ok (.aload_n 0, 1) := by decide +kernel
theorem dX4_metalIn_16 : decode cX4_metalIn 16 = .ok (.iload_n 1, 1) := by decide +kernel
theorem dX4_metalIn_17 : decode cX4_metalIn 17 = .ok (.aload_n 2, 1) := by decide +kernel
theorem dX4_metalIn_18 : decode cX4_metalIn 18 = .ok (.getfield 189, 3) := by decide +kernel
theorem dX4_metalIn_21 : decode cX4_metalIn 21 = .ok (.iload 4, 2) := by decide +kernel
theorem dX4_metalIn_23 : decode cX4_metalIn 23 = .ok (.iadd, 1) := by decide +kernel
theorem dX4_metalIn_24 : decode cX4_metalIn 24 = .ok (.invokevirtual 94, 3) := by decide +kernel
theorem dX4_metalIn_27 : decode cX4_metalIn 27 = .ok (.invokevirtual 50, 3) := by decide +kernel
theorem dX4_metalIn_30 : decode cX4_metalIn 30 = .ok (.astore 5, 2) := by decide +kernel
theorem dX4_metalIn_32 : decode cX4_metalIn 32 = .ok (.aload 5, 2) := by decide +kernel
theorem dX4_metalIn_34 : decode cX4_metalIn 34 = .ok (.ifnull 11, 3) := by decide +kernel
theorem dX4_metalIn_37 : decode cX4_metalIn 37 = .ok (.iload_n 3, 1) := by decide +kernel
theorem dX4_metalIn_38 : decode cX4_metalIn 38 = .ok (.aload 5, 2) := by decide +kernel
theorem dX4_metalIn_40 : decode cX4_metalIn 40 = .ok (.getfield 192, 3) := by decide +kernel
theorem dX4_metalIn_43 : decode cX4_metalIn 43 = .ok (.iadd, 1) := by decide +kernel
theorem dX4_metalIn_44 : decode cX4_metalIn 44 = .ok (.istore_n 3, 1) := by decide +kernel
theorem dX4_metalIn_45 : decode cX4_metalIn 45 = .ok (.iinc 4 1, 3) := by decide +kernel
theorem dX4_metalIn_48 : decode cX4_metalIn 48 = .ok (.goto (-43), 3) := by decide +kernel
theorem dX4_metalIn_51 : decode cX4_metalIn 51 = .ok (.iload_n 3, 1) := by decide +kernel
theorem dX4_metalIn_52 : decode cX4_metalIn 52 = .ok (.ireturn, 1) := by decide +kernel
theorem dX4_takerOf_0 : decode cX4_takerOf 0 = .ok (.iload_n 1, 1) := by decide +kernel
theorem dX4_takerOf_1 : decode cX4_takerOf 1 = .ok (.bipush 40, 2) := by decide +kernel
theorem dX4_takerOf_3 : decode cX4_takerOf 3 = .ok (.imul, 1) := by decide +kernel
theorem dX4_takerOf_4 : decode cX4_takerOf 4 = .ok (.iload_n 2, 1) := by decide +kernel
theorem dX4_takerOf_5 : decode cX4_takerOf 5 = .ok (.iadd, 1) := by decide +kernel
theorem dX4_takerOf_6 : decode cX4_takerOf 6 = .ok (.istore_n 3, 1) := by decide +kernel
theorem dX4_takerOf_7 : decode cX4_takerOf 7 = .ok (.iload_n 2, 1) := by decide +kernel
theorem dX4_takerOf_8 : decode cX4_takerOf 8 = .ok (.ifCond .lt 31, 3) := by decide +kernel
theorem dX4_takerOf_11 : decode cX4_takerOf 11 = .ok (.iload_n 2, 1) := by decide +kernel
theorem dX4_takerOf_12 : decode cX4_takerOf 12 = .ok (.bipush 40, 2) := by decide +kernel
theorem dX4_takerOf_14 : decode cX4_takerOf 14 = .ok (.if_icmp .ge 25, 3) := by decide +kernel
theorem dX4_takerOf_17 : decode cX4_takerOf 17 = .ok (.iload_n 3, 1) := by decide +kernel
theorem dX4_takerOf_18 : decode cX4_takerOf 18 = .ok (.ifCond .lt 21, 3) := by decide +kernel
theorem dX4_takerOf_21 : decode cX4_takerOf 21 = .ok (.iload_n 3, 1) := by decide +kernel
theorem dX4_takerOf_22 : decode cX4_takerOf 22 = .ok (.aload_n 0, 1) := by decide +kernel
theorem dX4_takerOf_23 : decode cX4_takerOf 23 = .ok (.getfield 23, 3) := by decide +kernel
theorem dX4_takerOf_26 : decode cX4_takerOf 26 = .ok (.arraylength, 1) := by decide +kernel
theorem dX4_takerOf_27 : decode cX4_takerOf 27 = .ok (.if_icmp .ge 12, 3) := by decide +kernel
theorem dX4_takerOf_30 : decode cX4_takerOf 30 = .ok (.aload_n 0, 1) := by decide +kernel
theorem dX4_takerOf_31 : decode cX4_takerOf 31 = .ok (.getfield 23, 3) := by decide +kernel
theorem dX4_takerOf_34 : decode cX4_takerOf 34 = .ok (.iload_n 3, 1) := by decide +kernel
theorem dX4_takerOf_35 : decode cX4_takerOf 35 = .ok (.iaload, 1) := by decide +kernel
theorem dX4_takerOf_36 : decode cX4_takerOf 36 = .ok (.goto 5, 3) := by decide +kernel
theorem dX4_takerOf_39 : decode cX4_takerOf 39 = .ok (.bipush (-6), 2) := by decide +kernel
theorem dX4_takerOf_41 : decode cX4_takerOf 41 = .ok (.ireturn, 1) := by decide +kernel
theorem dX4_take_0 : decode cX4_take 0 = .ok (.iload_n 1, 1) := by decide +kernel
theorem dX4_take_1 : decode cX4_take 1 = .ok (.bipush 40, 2) := by decide +kernel
theorem dX4_take_3 : decode cX4_take 3 = .ok (.imul, 1) := by decide +kernel
theorem dX4_take_4 : decode cX4_take 4 = .ok (.iload_n 2, 1) := by decide +kernel
theorem dX4_take_5 : decode cX4_take 5 = .ok (.iadd, 1) := by decide +kernel
theorem dX4_take_6 : decode cX4_take 6 = .ok (.istore 4, 2) := by decide +kernel
theorem dX4_take_8 : decode cX4_take 8 = .ok (.iload_n 2, 1) := by decide +kernel
theorem dX4_take_9 : decode cX4_take 9 = .ok (.ifCond .lt 32, 3) := by decide +kernel
theorem dX4_take_12 : decode cX4_take 12 = .ok (.iload_n 2, 1) := by decide +kernel
theorem dX4_take_13 : decode cX4_take 13 = .ok (.bipush 40, 2) := by decide +kernel
theorem dX4_take_15 : decode cX4_take 15 = .ok (.if_icmp .ge 26, 3) := by decide +kernel
theorem dX4_take_18 : decode cX4_take 18 = .ok (.iload 4, 2) := by decide +kernel
theorem dX4_take_20 : decode cX4_take 20 = .ok (.ifCond .lt 21, 3) := by decide +kernel
theorem dX4_take_23 : decode cX4_take 23 = .ok (.iload 4, 2) := by decide +kernel
theorem dX4_take_25 : decode cX4_take 25 = .ok (.aload_n 0, 1) := by decide +kernel
theorem dX4_take_26 : decode cX4_take 26 = .ok (.getfield 23, 3) := by decide +kernel
theorem dX4_take_29 : decode cX4_take 29 = .ok (.arraylength, 1) := by decide +kernel
theorem dX4_take_30 : decode cX4_take 30 = .ok (.if_icmp .ge 11, 3) := by decide +kernel
theorem dX4_take_33 : decode cX4_take 33 = .ok (.aload_n 0, 1) := by decide +kernel
theorem dX4_take_34 : decode cX4_take 34 = .ok (.getfield 23, 3) := by decide +kernel
theorem dX4_take_37 : decode cX4_take 37 = .ok (.iload 4, 2) := by decide +kernel
theorem dX4_take_39 : decode cX4_take 39 = .ok (.iload_n 3, 1) := by decide +kernel
theorem dX4_take_40 : decode cX4_take 40 = .ok (.iastore, 1) := by decide +kernel
theorem dX4_take_41 : decode cX4_take 41 = .ok (.return_, 1) := by decide +kernel
theorem dX4_carsGone_0 : decode cX4_carsGone 0 = .ok (.iconst 0, 1) := by decide +kernel
theorem dX4_carsGone_1 : decode cX4_carsGone 1 = .ok (.istore_n 1, 1) := by decide +kernel
theorem dX4_carsGone_2 : decode cX4_carsGone 2 = .ok (.iconst 0, 1) := by decide +kernel
theorem dX4_carsGone_3 : decode cX4_carsGone 3 = .ok (.istore_n 2, 1) := by decide +kernel
theorem dX4_carsGone_4 : decode cX4_carsGone 4 = .ok (.iload_n 2, 1) := by decide +kernel
theorem dX4_carsGone_5 : decode cX4_carsGone 5 = .ok (.aload_n 0, 1) := by decide +kernel
theorem dX4_carsGone_6 : decode cX4_carsGone 6 = .ok (.getfield 44, 3) := by decide +kernel
theorem dX4_carsGone_9 : decode cX4_carsGone 9 = .ok (.if_icmp .ge 29, 3) := by decide +kernel
theorem dX4_carsGone_12 : decode cX4_carsGone 12 = .ok (.aload_n 0, 1) := by decide +kernel
theorem dX4_carsGone_13 : decode cX4_carsGone 13 = .ok (.iload_n 2, 1) := by decide +kernel
theorem dX4_carsGone_14 : decode cX4_carsGone 14 = .ok (.invokevirtual 50, 3) := by decide +kernel
theorem dX4_carsGone_17 : decode cX4_carsGone 17 = .ok (.astore_n 3, 1) := by decide +kernel
theorem dX4_carsGone_18 : decode cX4_carsGone 18 = .ok (.aload_n 3, 1) := by decide +kernel
theorem dX4_carsGone_19 : decode cX4_carsGone 19 = .ok (.ifnull 13, 3) := by decide +kernel
theorem dX4_carsGone_22 : decode cX4_carsGone 22 = .ok (.aload_n 3, 1) := by decide +kernel
theorem dX4_carsGone_23 : decode cX4_carsGone 23 = .ok (.getfield 106, 3) := by decide +kernel
theorem dX4_carsGone_26 : decode cX4_carsGone 26 = .ok (.ifCond .eq 6, 3) := by decide +kernel
theorem dX4_carsGone_29 : decode cX4_carsGone 29 = .ok (.iinc 1 1, 3) := by decide +kernel
theorem dX4_carsGone_32 : decode cX4_carsGone 32 = .ok (.iinc 2 1, 3) := by decide +kernel
theorem dX4_carsGone_35 : decode cX4_carsGone 35 = .ok (.goto (-31), 3) := by decide +kernel
theorem dX4_carsGone_38 : decode cX4_carsGone 38 = .ok (.iload_n 1, 1) := by decide +kernel
theorem dX4_carsGone_39 : decode cX4_carsGone 39 = .ok (.ireturn, 1) := by decide +kernel
theorem dX4_sumOfLoops_0 : decode cX4_sumOfLoops 0 = .ok (.iconst 0, 1) := by decide +kernel
theorem dX4_sumOfLoops_1 : decode cX4_sumOfLoops 1 = .ok (.istore_n 2, 1) := by decide +kernel
theorem dX4_sumOfLoops_2 : decode cX4_sumOfLoops 2 = .ok (.iconst 0, 1) := by decide +kernel
theorem dX4_sumOfLoops_3 : decode cX4_sumOfLoops 3 = .ok (.istore_n 3, 1) := by decide +kernel
theorem dX4_sumOfLoops_4 : decode cX4_sumOfLoops 4 = .ok (.iload_n 3, 1) := by decide +kernel
theorem dX4_sumOfLoops_5 : decode cX4_sumOfLoops 5 = .ok (.aload_n 0, 1) := by decide +kernel
theorem dX4_sumOfLoops_6 : decode cX4_sumOfLoops 6 = .ok (.getfield 47, 3) := by decide +kernel
theorem dX4_sumOfLoops_9 : decode cX4_sumOfLoops 9 = .ok (.if_icmp .ge 34, 3) := by decide +kernel
theorem dX4_sumOfLoops_12 : decode cX4_sumOfLoops 12 = .ok (.aload_n 0, 1) := by decide +kernel
theorem dX4_sumOfLoops_13 : decode cX4_sumOfLoops 13 = .ok (.iload_n 3, 1) := by decide +kernel
theorem dX4_sumOfLoops_14 : decode cX4_sumOfLoops 14 = .ok (.invokevirtual 58, 3) := by decide +kernel
theorem dX4_sumOfLoops_17 : decode cX4_sumOfLoops 17 = .ok (.astore 4, 2) := by decide +kernel
theorem dX4_sumOfLoops_19 : decode cX4_sumOfLoops 19 = .ok (.iload_n 2, 1) := by decide +kernel
theorem dX4_sumOfLoops_20 : decode cX4_sumOfLoops 20 = .ok (.aload 4, 2) := by decide +kernel
theorem dX4_sumOfLoops_22 : decode cX4_sumOfLoops 22 = .ok (.ifnonnull 7, 3) := by decide +kernel
theorem dX4_sumOfLoops_25 : decode cX4_sumOfLoops 25 = .ok (.iconst 0, 1) := by decide +kernel
theorem dX4_sumOfLoops_26 : decode cX4_sumOfLoops 26 = .ok (.goto 9, 3) := by decide +kernel
theorem dX4_sumOfLoops_29 : decode cX4_sumOfLoops 29 = .ok (.aload 4, 2) := by decide +kernel
theorem dX4_sumOfLoops_31 : decode cX4_sumOfLoops 31 = .ok (.iload_n 1, 1) := by decide +kernel
theorem dX4_sumOfLoops_32 : decode cX4_sumOfLoops 32 = .ok (.invokevirtual 195, 3) := by decide +kernel
theorem dX4_sumOfLoops_35 : decode cX4_sumOfLoops 35 = .ok (.iadd, 1) := by decide +kernel
theorem dX4_sumOfLoops_36 : decode cX4_sumOfLoops 36 = .ok (.istore_n 2, 1) := by decide +kernel
theorem dX4_sumOfLoops_37 : decode cX4_sumOfLoops 37 = .ok (.iinc 3 1, 3) := by decide +kernel
theorem dX4_sumOfLoops_40 : decode cX4_sumOfLoops 40 = .ok (.goto (-36), 3) := by decide +kernel
theorem dX4_sumOfLoops_43 : decode cX4_sumOfLoops 43 = .ok (.iload_n 2, 1) := by decide +kernel
theorem dX4_sumOfLoops_44 : decode cX4_sumOfLoops 44 = .ok (.ireturn, 1) := by decide +kernel
theorem dX4_allAmounts_0 : decode cX4_allAmounts 0 = .ok (.iconst 0, 1) := by decide +kernel
theorem dX4_allAmounts_1 : decode cX4_allAmounts 1 = .ok (.istore_n 1, 1) := by decide +kernel
theorem dX4_allAmounts_2 : decode cX4_allAmounts 2 = .ok (.iconst 0, 1) := by decide +kernel
theorem dX4_allAmounts_3 : decode cX4_allAmounts 3 = .ok (.istore_n 2, 1) := by decide +kernel
theorem dX4_allAmounts_4 : decode cX4_allAmounts 4 = .ok (.iload_n 2, 1) := by decide +kernel
theorem dX4_allAmounts_5 : decode cX4_allAmounts 5 = .ok (.aload_n 0, 1) := by decide +kernel
theorem dX4_allAmounts_6 : decode cX4_allAmounts 6 = .ok (.getfield 47, 3) := by decide +kernel
theorem dX4_allAmounts_9 : decode cX4_allAmounts 9 = .ok (.if_icmp .ge 33, 3) := by decide +kernel
theorem dX4_allAmounts_12 : decode cX4_allAmounts 12 = .ok (.aload_n 0, 1) := by decide +kernel
theorem dX4_allAmounts_13 : decode cX4_allAmounts 13 = .ok (.iload_n 2, 1) := by decide +kernel
theorem dX4_allAmounts_14 : decode cX4_allAmounts 14 = .ok (.invokevirtual 58, 3) := by decide +kernel
theorem dX4_allAmounts_17 : decode cX4_allAmounts 17 = .ok (.astore_n 3, 1) := by decide +kernel
theorem dX4_allAmounts_18 : decode cX4_allAmounts 18 = .ok (.iload_n 1, 1) := by decide +kernel
theorem dX4_allAmounts_19 : decode cX4_allAmounts 19 = .ok (.aload_n 3, 1) := by decide +kernel
theorem dX4_allAmounts_20 : decode cX4_allAmounts 20 = .ok (.ifnonnull 7, 3) := by decide +kernel
theorem dX4_allAmounts_23 : decode cX4_allAmounts 23 = .ok (.iconst 0, 1) := by decide +kernel
theorem dX4_allAmounts_24 : decode cX4_allAmounts 24 = .ok (.goto 10, 3) := by decide +kernel
theorem dX4_allAmounts_27 : decode cX4_allAmounts 27 = .ok (.aload_n 3, 1) := by decide +kernel
theorem dX4_allAmounts_28 : decode cX4_allAmounts 28 = .ok (.invokevirtual 199, 3) := by decide +kernel
theorem dX4_allAmounts_31 : decode cX4_allAmounts 31 = .ok (.invokestatic 202, 3) := by decide +kernel
theorem dX4_allAmounts_34 : decode cX4_allAmounts 34 = .ok (.iadd, 1) := by decide +kernel
theorem dX4_allAmounts_35 : decode cX4_allAmounts 35 = .ok (.istore_n 1, 1) := by decide +kernel
theorem dX4_allAmounts_36 : decode cX4_allAmounts 36 = .ok (.iinc 2 1, 3) := by decide +kernel
theorem dX4_allAmounts_39 : decode cX4_allAmounts 39 = .ok (.goto (-35), 3) := by decide +kernel
theorem dX4_allAmounts_42 : decode cX4_allAmounts 42 = .ok (.iload_n 1, 1) := by decide +kernel
theorem dX4_allAmounts_43 : decode cX4_allAmounts 43 = .ok (.ireturn, 1) := by decide +kernel
theorem dX5_init_0 : decode cX5_init 0 = .ok (.aload_n 0, 1) := by decide +kernel
theorem dX5_init_1 : decode cX5_init 1 = .ok (.invokespecial 3, 3) := by decide +kernel
theorem dX5_init_4 : decode cX5_init 4 = .ok (.aload_n 0, 1) := by decide +kernel
theorem dX5_init_5 : decode cX5_init 5 = .ok (.iconst 2, 1) := by decide +kernel
theorem dX5_init_6 : decode cX5_init 6 = .ok (.anewarray 9, 3) := by decide +kernel
theorem dX5_init_9 : decode cX5_init 9 = .ok (.putfield 11, 3) := by decide +kernel
theorem dX5_init_12 : decode cX5_init 12 = .ok (.aload_n 0, 1) := by decide +kernel
theorem dX5_init_13 : decode cX5_init 13 = .ok (.iconst 2, 1) := by decide +kernel
theorem dX5_init_14 : decode cX5_init 14 = .ok (.newarray .boolean, 2) := by decide +kernel
theorem dX5_init_16 : decode cX5_init 16 = .ok (.putfield 17, 3) := by decide +kernel
theorem dX5_init_19 : decode cX5_init 19 = .ok (.iconst 0, 1) := by decide +kernel
theorem dX5_init_20 : decode cX5_init 20 = .ok (.istore_n 1, 1) := by decide +kernel
theorem dX5_init_21 : decode cX5_init 21 = .ok (.iload_n 1, 1) := by decide +kernel
theorem dX5_init_22 : decode cX5_init 22 = .ok (.aload_n 0, 1) := by decide +kernel
theorem dX5_init_23 : decode cX5_init 23 = .ok (.getfield 11, 3) := by decide +kernel
theorem dX5_init_26 : decode cX5_init 26 = .ok (.arraylength, 1) := by decide +kernel
theorem dX5_init_27 : decode cX5_init 27 = .ok (.if_icmp .ge 22, 3) := by decide +kernel
theorem dX5_init_30 : decode cX5_init 30 = .ok (.aload_n 0, 1) := by decide +kernel
theorem dX5_init_31 : decode cX5_init 31 = .ok (.getfield 11, 3) := by decide +kernel
theorem dX5_init_34 : decode cX5_init 34 = .ok (.iload_n 1, 1) := by decide +kernel
theorem dX5_init_35 : decode cX5_init 35 = .ok (.new 9, 3) := by decide +kernel
theorem dX5_init_38 : decode cX5_init 38 = .ok (.dup, 1) := by decide +kernel
theorem dX5_init_39 : decode cX5_init 39 = .ok (.invokespecial 21, 3) := by decide +kernel
theorem dX5_init_42 : decode cX5_init 42 = .ok (.aastore, 1) := by decide +kernel
theorem dX5_init_43 : decode cX5_init 43 = .ok (.iinc 1 1, 3) := by decide +kernel
theorem dX5_init_46 : decode cX5_init 46 = .ok (.goto (-25), 3) := by decide +kernel
theorem dX5_init_49 : decode cX5_init 49 = .ok (.return_, 1) := by decide +kernel
theorem dX5_keep_0 : decode cX5_keep 0 = .ok (.aload_n 0, 1) := by decide +kernel
theorem dX5_keep_1 : decode cX5_keep 1 = .ok (.iload_n 1, 1) := by decide +kernel
theorem dX5_keep_2 : decode cX5_keep 2 = .ok (.invokevirtual 22, 3) := by decide +kernel
theorem dX5_keep_5 : decode cX5_keep 5 = .ok (.ifCond .ne 6, 3) := by decide +kernel
theorem dX5_keep_8 : decode cX5_keep 8 = .ok (.bipush (-2), 2) := by decide +kernel
theorem dX5_keep_10 : decode cX5_keep 10 = .ok (.ireturn, 1) := by decide +kernel
theorem dX5_keep_11 : decode cX5_keep 11 = .ok (.aload_n 0, 1) := by decide +kernel
theorem dX5_keep_12 : decode cX5_keep 12 = .ok (.getfield 11, 3) := by decide +kernel
theorem dX5_keep_15 : decode cX5_keep 15 = .ok (.iload_n 1, 1) := by decide +kernel
theorem dX5_keep_16 : decode cX5_keep 16 = .ok (.aaload, 1) := by decide +kernel
theorem dX5_keep_17 : decode cX5_keep 17 = .ok (.astore_n 3, 1) := by decide +kernel
theorem dX5_keep_18 : decode cX5_keep 18 = .ok (.aload_n 3, 1) := by decide +kernel
theorem dX5_keep_19 : decode cX5_keep 19 = .ok (.ifnull 15, 3) := by decide +kernel
theorem dX5_keep_22 : decode cX5_keep 22 = .ok (.aload_n 3, 1) := by decide +kernel
theorem dX5_keep_23 : decode cX5_keep 23 = .ok (.aload_n 2, 1) := by decide +kernel
theorem dX5_keep_24 : decode cX5_keep 24 = .ok (.invokevirtual 26, 3) := by decide +kernel
theorem dX5_keep_27 : decode cX5_keep 27 = .ok (.aload_n 0, 1) := by decide +kernel
theorem dX5_keep_28 : decode cX5_keep 28 = .ok (.getfield 17, 3) := by decide +kernel
theorem dX5_keep_31 : decode cX5_keep 31 = .ok (.iload_n 1, 1) := by decide +kernel
theorem dX5_keep_32 : decode cX5_keep 32 = .ok (.iconst 1, 1) := by decide +kernel
theorem dX5_keep_33 : decode cX5_keep 33 = .ok (.bastore, 1) := by decide +kernel
theorem dX5_keep_34 : decode cX5_keep 34 = .ok (.aload_n 2, 1) := by decide +kernel
theorem dX5_keep_35 : decode cX5_keep 35 = .ok (.getfield 30, 3) := by decide +kernel
theorem dX5_keep_38 : decode cX5_keep 38 = .ok (.ireturn, 1) := by decide +kernel
theorem dX5_giveBack_0 : decode cX5_giveBack 0 = .ok (.aload_n 0, 1) := by decide +kernel
theorem dX5_giveBack_1 : decode cX5_giveBack 1 = .ok (.iload_n 1, 1) := by decide +kernel
theorem dX5_giveBack_2 : decode cX5_giveBack 2 = .ok (.invokevirtual 22, 3) := by decide +kernel
theorem dX5_giveBack_5 : decode cX5_giveBack 5 = .ok (.ifCond .ne 6, 3) := by decide +kernel
theorem dX5_giveBack_8 : decode cX5_giveBack 8 = .ok (.bipush (-2), 2) := by decide +kernel
theorem dX5_giveBack_10 : decode cX5_giveBack 10 = .ok (.ireturn, 1) := by decide +kernel
theorem dX5_giveBack_11 : decode cX5_giveBack 11 = .ok (.aload_n 0, 1) := by decide +kernel
theorem dX5_giveBack_12 : decode cX5_giveBack 12 = .ok (.getfield 11, 3) := by decide +kernel
theorem dX5_giveBack_15 : decode cX5_giveBack 15 = .ok (.iload_n 1, 1) := by decide +kernel
theorem dX5_giveBack_16 : decode cX5_giveBack 16 = .ok (.aaload, 1) := by decide +kernel
theorem dX5_giveBack_17 : decode cX5_giveBack 17 = .ok (.astore_n 3, 1) := by decide +kernel
theorem dX5_giveBack_18 : decode cX5_giveBack 18 = .ok (.aload_n 0, 1) := by decide +kernel
theorem dX5_giveBack_19 : decode cX5_giveBack 19 = .ok (.getfield 17, 3) := by decide +kernel
theorem dX5_giveBack_22 : decode cX5_giveBack 22 = .ok (.iload_n 1, 1) := by decide +kernel
theorem dX5_giveBack_23 : decode cX5_giveBack 23 = .ok (.baload, 1) := by decide +kernel
theorem dX5_giveBack_24 : decode cX5_giveBack 24 = .ok (.ifCond .eq 7, 3) := by decide +kernel
theorem dX5_giveBack_27 : decode cX5_giveBack 27 = .ok (.aload_n 3, 1) := by decide +kernel
theorem dX5_giveBack_28 : decode cX5_giveBack 28 = .ok (.ifnonnull 6, 3) := by decide +kernel
theorem dX5_giveBack_31 : decode cX5_giveBack 31 = .ok (.bipush (-5), 2) := by decide +kernel
theorem dX5_giveBack_33 : decode cX5_giveBack 33 = .ok (.ireturn, 1) := by decide +kernel
theorem dX5_giveBack_34 : decode cX5_giveBack 34 = .ok (.aload_n 2, 1) := by decide +kernel
theorem dX5_giveBack_35 : decode cX5_giveBack 35 = .ok (.aload_n 3, 1) := by decide +kernel
theorem dX5_giveBack_36 : decode cX5_giveBack 36 = .ok (.invokevirtual 26, 3) := by decide +kernel
theorem dX5_giveBack_39 : decode cX5_giveBack 39 = .ok (.aload_n 2, 1) := by decide +kernel
theorem dX5_giveBack_40 : decode cX5_giveBack 40 = .ok (.getfield 30, 3) := by decide +kernel
theorem dX5_giveBack_43 : decode cX5_giveBack 43 = .ok (.ireturn, 1) := by decide +kernel
theorem dX5_isSlot_0 : decode cX5_isSlot 0 = .ok (.iload_n 1, 1) := by decide +kernel
theorem dX5_isSlot_1 : decode cX5_isSlot 1 = .ok (.ifCond .lt 25, 3) := by decide +kernel
theorem dX5_isSlot_4 : decode cX5_isSlot 4 = .ok (.iload_n 1, 1) := by decide +kernel
theorem dX5_isSlot_5 : decode cX5_isSlot 5 = .ok (.aload_n 0, 1) := by decide +kernel
theorem dX5_isSlot_6 : decode cX5_isSlot 6 = .ok (.getfield 11, 3) := by decide +kernel
theorem dX5_isSlot_9 : decode cX5_isSlot 9 = .ok (.arraylength, 1) := by decide +kernel
theorem dX5_isSlot_10 : decode cX5_isSlot 10 = .ok (.if_icmp .ge 16, 3) := by decide +kernel
theorem dX5_isSlot_13 : decode cX5_isSlot 13 = .ok (.iload_n 1, 1) := by decide +kernel
theorem dX5_isSlot_14 : decode cX5_isSlot 14 = .ok (.aload_n 0, 1) := by decide +kernel
theorem dX5_isSlot_15 : decode cX5_isSlot 15 = .ok (.getfield 17, 3) := by decide +kernel
theorem dX5_isSlot_18 : decode cX5_isSlot 18 = .ok (.arraylength, 1) := by decide +kernel
theorem dX5_isSlot_19 : decode cX5_isSlot 19 = .ok (.if_icmp .ge 7, 3) := by decide +kernel
theorem dX5_isSlot_22 : decode cX5_isSlot 22 = .ok (.iconst 1, 1) := by decide +kernel
theorem dX5_isSlot_23 : decode cX5_isSlot 23 = .ok (.goto 4, 3) := by decide +kernel
theorem dX5_isSlot_26 : decode cX5_isSlot 26 = .ok (.iconst 0, 1) := by decide +kernel
theorem dX5_isSlot_27 : decode cX5_isSlot 27 = .ok (.ireturn, 1) := by decide +kernel
theorem dX6_init_0 : decode cX6_init 0 = .ok (.aload_n 0, 1) := by decide +kernel
theorem dX6_init_1 : decode cX6_init 1 = .ok (.invokespecial 3, 3) := by decide +kernel
theorem dX6_init_4 : decode cX6_init 4 = .ok (.aload_n 0, 1) := by decide +kernel
theorem dX6_init_5 : decode cX6_init 5 = .ok (.new 9, 3) := by decide +kernel
theorem dX6_init_8 : decode cX6_init 8 = .ok (.dup, 1) := by decide +kernel
theorem dX6_init_9 : decode cX6_init 9 = .ok (.invokespecial 11, 3) := by decide +kernel
theorem dX6_init_12 : decode cX6_init 12 = .ok (.putfield 12, 3) := by decide +kernel
theorem dX6_init_15 : decode cX6_init 15 = .ok (.aload_n 0, 1) := by decide +kernel
theorem dX6_init_16 : decode cX6_init 16 = .ok (.new 9, 3) := by decide +kernel
theorem dX6_init_19 : decode cX6_init 19 = .ok (.dup, 1) := by decide +kernel
theorem dX6_init_20 : decode cX6_init 20 = .ok (.invokespecial 11, 3) := by decide +kernel
theorem dX6_init_23 : decode cX6_init 23 = .ok (.putfield 16, 3) := by decide +kernel
theorem dX6_init_26 : decode cX6_init 26 = .ok (.aload_n 0, 1) := by decide +kernel
theorem dX6_init_27 : decode cX6_init 27 = .ok (.new 19, 3) := by decide +kernel
theorem dX6_init_30 : decode cX6_init 30 = .ok (.dup, 1) := by decide +kernel
theorem dX6_init_31 : decode cX6_init 31 = .ok (.invokespecial 21, 3) := by decide +kernel
theorem dX6_init_34 : decode cX6_init 34 = .ok (.putfield 22, 3) := by decide +kernel
theorem dX6_init_37 : decode cX6_init 37 = .ok (.aload_n 0, 1) := by decide +kernel
theorem dX6_init_38 : decode cX6_init 38 = .ok (.bipush 100, 2) := by decide +kernel
theorem dX6_init_40 : decode cX6_init 40 = .ok (.newarray .int, 2) := by decide +kernel
theorem dX6_init_42 : decode cX6_init 42 = .ok (.putfield 26, 3) := by decide +kernel
theorem dX6_init_45 : decode cX6_init 45 = .ok (.aload_n 0, 1) := by decide +kernel
theorem dX6_init_46 : decode cX6_init 46 = .ok (.new 30, 3) := by decide +kernel
theorem dX6_init_49 : decode cX6_init 49 = .ok (.dup, 1) := by decide +kernel
theorem dX6_init_50 : decode cX6_init 50 = .ok (.invokespecial 32, 3) := by decide +kernel
theorem dX6_init_53 : decode cX6_init 53 = .ok (.putfield 33, 3) := by decide +kernel
theorem dX6_init_56 : decode cX6_init 56 = .ok (.aload_n 0, 1) := by decide +kernel
theorem dX6_init_57 : decode cX6_init 57 = .ok (.new 37, 3) := by decide +kernel
theorem dX6_init_60 : decode cX6_init 60 = .ok (.dup, 1) := by decide +kernel
theorem dX6_init_61 : decode cX6_init 61 = .ok (.invokespecial 39, 3) := by decide +kernel
theorem dX6_init_64 : decode cX6_init 64 = .ok (.putfield 40, 3) := by decide +kernel
theorem dX6_init_67 : decode cX6_init 67 = .ok (.aload_n 0, 1) := by decide +kernel
theorem dX6_init_68 : decode cX6_init 68 = .ok (.new 44, 3) := by decide +kernel
theorem dX6_init_71 : decode cX6_init 71 = .ok (.dup, 1) := by decide +kernel
theorem dX6_init_72 : decode cX6_init 72 = .ok (.invokespecial 46, 3) := by decide +kernel
theorem dX6_init_75 : decode cX6_init 75 = .ok (.putfield 47, 3) := by decide +kernel
theorem dX6_init_78 : decode cX6_init 78 = .ok (.return_, 1) := by decide +kernel
theorem dX6_set_0 : decode cX6_set 0 = .ok (.aload_n 0, 1) := by decide +kernel
theorem dX6_set_1 : decode cX6_set 1 = .ok (.getfield 40, 3) := by decide +kernel
theorem dX6_set_4 : decode cX6_set 4 = .ok (.aload_n 0, 1) := by decide +kernel
theorem dX6_set_5 : decode cX6_set 5 = .ok (.getfield 12, 3) := by decide +kernel
theorem dX6_set_8 : decode cX6_set 8 = .ok (.invokevirtual 51, 3) := by decide +kernel
theorem dX6_set_11 : decode cX6_set 11 = .ok (.aload_n 0, 1) := by decide +kernel
theorem dX6_set_12 : decode cX6_set 12 = .ok (.aload_n 0, 1) := by decide +kernel
theorem dX6_set_13 : decode cX6_set 13 = .ok (.getfield 12, 3) := by decide +kernel
theorem dX6_set_16 : decode cX6_set 16 = .ok (.iload_n 1, 1) := by decide +kernel
theorem dX6_set_17 : decode cX6_set 17 = .ok (.iload_n 2, 1) := by decide +kernel
theorem dX6_set_18 : decode cX6_set 18 = .ok (.invokevirtual 55, 3) := by decide +kernel
theorem dX6_set_21 : decode cX6_set 21 = .ok (.invokevirtual 59, 3) := by decide +kernel
theorem dX6_set_24 : decode cX6_set 24 = .ok (.ireturn, 1) := by decide +kernel
theorem dX6_loop_0 : decode cX6_loop 0 = .ok (.aload_n 0, 1) := by decide +kernel
theorem dX6_loop_1 : decode cX6_loop 1 = .ok (.getfield 40, 3) := by decide +kernel
theorem dX6_loop_4 : decode cX6_loop 4 = .ok (.aload_n 0, 1) := by decide +kernel
theorem dX6_loop_5 : decode cX6_loop 5 = .ok (.getfield 12, 3) := by decide +kernel
theorem dX6_loop_8 : decode cX6_loop 8 = .ok (.invokevirtual 51, 3) := by decide +kernel
theorem dX6_loop_11 : decode cX6_loop 11 = .ok (.aload_n 0, 1) := by decide +kernel
theorem dX6_loop_12 : decode cX6_loop 12 = .ok (.aload_n 0, 1) := by decide +kernel
theorem dX6_loop_13 : decode cX6_loop 13 = .ok (.getfield 12, 3) := by decide +kernel
theorem dX6_loop_16 : decode cX6_loop 16 = .ok (.iload_n 1, 1) := by decide +kernel
theorem dX6_loop_17 : decode cX6_loop 17 = .ok (.iload_n 2, 1) := by decide +kernel
theorem dX6_loop_18 : decode cX6_loop 18 = .ok (.iload_n 3, 1) := by decide +kernel
theorem dX6_loop_19 : decode cX6_loop 19 = .ok (.iload 4, 2) := by decide +kernel
theorem dX6_loop_21 : decode cX6_loop 21 = .ok (.iload 5, 2) := by decide +kernel
theorem dX6_loop_23 : decode cX6_loop 23 = .ok (.invokevirtual 63, 3) := by decide +kernel
theorem dX6_loop_26 : decode cX6_loop 26 = .ok (.invokevirtual 59, 3) := by decide +kernel
theorem dX6_loop_29 : decode cX6_loop 29 = .ok (.ireturn, 1) := by decide +kernel
theorem dX6_bounds_0 : decode cX6_bounds 0 = .ok (.aload_n 0, 1) := by decide +kernel
theorem dX6_bounds_1 : decode cX6_bounds 1 = .ok (.getfield 40, 3) := by decide +kernel
theorem dX6_bounds_4 : decode cX6_bounds 4 = .ok (.aload_n 0, 1) := by decide +kernel
theorem dX6_bounds_5 : decode cX6_bounds 5 = .ok (.getfield 12, 3) := by decide +kernel
theorem dX6_bounds_8 : decode cX6_bounds 8 = .ok (.invokevirtual 51, 3) := by decide +kernel
theorem dX6_bounds_11 : decode cX6_bounds 11 = .ok (.aload_n 0, 1) := by decide +kernel
theorem dX6_bounds_12 : decode cX6_bounds 12 = .ok (.aload_n 0, 1) := by decide +kernel
theorem dX6_bounds_13 : decode cX6_bounds 13 = .ok (.getfield 12, 3) := by decide +kernel
theorem dX6_bounds_16 : decode cX6_bounds 16 = .ok (.iload_n 1, 1) := by decide +kernel
theorem dX6_bounds_17 : decode cX6_bounds 17 = .ok (.iload_n 2, 1) := by decide +kernel
theorem dX6_bounds_18 : decode cX6_bounds 18 = .ok (.iload_n 3, 1) := by decide +kernel
theorem dX6_bounds_19 : decode cX6_bounds 19 = .ok (.invokevirtual 67, 3) := by decide +kernel
theorem dX6_bounds_22 : decode cX6_bounds 22 = .ok (.invokevirtual 59, 3) := by decide +kernel
theorem dX6_bounds_25 : decode cX6_bounds 25 = .ok (.ireturn, 1) := by decide +kernel
theorem dX6_come_0 : decode cX6_come 0 = .ok (.aload_n 0, 1) := by decide +kernel
theorem dX6_come_1 : decode cX6_come 1 = .ok (.getfield 40, 3) := by decide +kernel
theorem dX6_come_4 : decode cX6_come 4 = .ok (.aload_n 0, 1) := by decide +kernel
theorem dX6_come_5 : decode cX6_come 5 = .ok (.getfield 12, 3) := by decide +kernel
theorem dX6_come_8 : decode cX6_come 8 = .ok (.invokevirtual 51, 3) := by decide +kernel
theorem dX6_come_11 : decode cX6_come 11 = .ok (.aload_n 0, 1) := by decide +kernel
theorem dX6_come_12 : decode cX6_come 12 = .ok (.aload_n 0, 1) := by decide +kernel
theorem dX6_come_13 : decode cX6_come 13 = .ok (.getfield 12, 3) := by decide +kernel
theorem dX6_come_16 : decode cX6_come 16 = .ok (.iload_n 1, 1) := by decide +kernel
theorem dX6_come_17 : decode cX6_come 17 = .ok (.iload_n 2, 1) := by decide +kernel
theorem dX6_come_18 : decode cX6_come 18 = .ok (.iload_n 3, 1) := by decide +kernel
theorem dX6_come_19 : decode cX6_come 19 = .ok (.iload 4, 2) := by decide +kernel
theorem dX6_come_21 : decode cX6_come 21 = .ok (.invokevirtual 71, 3) := by decide +kernel
theorem dX6_come_24 : decode cX6_come 24 = .ok (.invokevirtual 59, 3) := by decide +kernel
theorem dX6_come_27 : decode cX6_come 27 = .ok (.ireturn, 1) := by decide +kernel
theorem dX6_want_0 : decode cX6_want 0 = .ok (.aload_n 0, 1) := by decide +kernel
theorem dX6_want_1 : decode cX6_want 1 = .ok (.getfield 40, 3) := by decide +kernel
theorem dX6_want_4 : decode cX6_want 4 = .ok (.aload_n 0, 1) := by decide +kernel
theorem dX6_want_5 : decode cX6_want 5 = .ok (.getfield 12, 3) := by decide +kernel
theorem dX6_want_8 : decode cX6_want 8 = .ok (.invokevirtual 51, 3) := by decide +kernel
theorem dX6_want_11 : decode cX6_want 11 = .ok (.aload_n 0, 1) := by decide +kernel
theorem dX6_want_12 : decode cX6_want 12 = .ok (.aload_n 0, 1) := by decide +kernel
theorem dX6_want_13 : decode cX6_want 13 = .ok (.getfield 12, 3) := by decide +kernel
theorem dX6_want_16 : decode cX6_want 16 = .ok (.iload_n 1, 1) := by decide +kernel
theorem dX6_want_17 : decode cX6_want 17 = .ok (.invokevirtual 75, 3) := by decide +kernel
theorem dX6_want_20 : decode cX6_want 20 = .ok (.invokevirtual 59, 3) := by decide +kernel
theorem dX6_want_23 : decode cX6_want 23 = .ok (.ireturn, 1) := by decide +kernel
theorem dX6_speed_0 : decode cX6_speed 0 = .ok (.aload_n 0, 1) := by decide +kernel
theorem dX6_speed_1 : decode cX6_speed 1 = .ok (.getfield 40, 3) := by decide +kernel
theorem dX6_speed_4 : decode cX6_speed 4 = .ok (.aload_n 0, 1) := by decide +kernel
theorem dX6_speed_5 : decode cX6_speed 5 = .ok (.getfield 12, 3) := by decide +kernel
theorem dX6_speed_8 : decode cX6_speed 8 = .ok (.invokevirtual 51, 3) := by decide +kernel
theorem dX6_speed_11 : decode cX6_speed 11 = .ok (.aload_n 0, 1) := by decide +kernel
theorem dX6_speed_12 : decode cX6_speed 12 = .ok (.aload_n 0, 1) := by decide +kernel
theorem dX6_speed_13 : decode cX6_speed 13 = .ok (.getfield 12, 3) := by decide +kernel
theorem dX6_speed_16 : decode cX6_speed 16 = .ok (.iload_n 1, 1) := by decide +kernel
theorem dX6_speed_17 : decode cX6_speed 17 = .ok (.iload_n 2, 1) := by decide +kernel
theorem dX6_speed_18 : decode cX6_speed 18 = .ok (.invokevirtual 78, 3) := by decide +kernel
theorem dX6_speed_21 : decode cX6_speed 21 = .ok (.invokevirtual 59, 3) := by decide +kernel
theorem dX6_speed_24 : decode cX6_speed 24 = .ok (.ireturn, 1) := by decide +kernel
theorem dX6_ticks_0 : decode cX6_ticks 0 = .ok (.aload_n 0, 1) := by decide +kernel
theorem dX6_ticks_1 : decode cX6_ticks 1 = .ok (.getfield 40, 3) := by decide +kernel
theorem dX6_ticks_4 : decode cX6_ticks 4 = .ok (.aload_n 0, 1) := by decide +kernel
theorem dX6_ticks_5 : decode cX6_ticks 5 = .ok (.getfield 12, 3) := by decide +kernel
theorem dX6_ticks_8 : decode cX6_ticks 8 = .ok (.invokevirtual 51, 3) := by decide +kernel
theorem dX6_ticks_11 : decode cX6_ticks 11 = .ok (.aload_n 0, 1) := by decide +kernel
theorem dX6_ticks_12 : decode cX6_ticks 12 = .ok (.aload_n 0, 1) := by decide +kernel
theorem dX6_ticks_13 : decode cX6_ticks 13 = .ok (.getfield 12, 3) := by decide +kernel
theorem dX6_ticks_16 : decode cX6_ticks 16 = .ok (.iload_n 1, 1) := by decide +kernel
theorem dX6_ticks_17 : decode cX6_ticks 17 = .ok (.invokevirtual 81, 3) := by decide +kernel
theorem dX6_ticks_20 : decode cX6_ticks 20 = .ok (.invokevirtual 59, 3) := by decide +kernel
theorem dX6_ticks_23 : decode cX6_ticks 23 = .ok (.ireturn, 1) := by decide +kernel
theorem dX6_recorded_0 : decode cX6_recorded 0 = .ok (.iload_n 1, 1) := by decide +kernel
theorem dX6_recorded_1 : decode cX6_recorded 1 = .ok (.ifCond .lt 10, 3) := by decide +kernel
theorem dX6_recorded_4 : decode cX6_recorded 4 = .ok (.aload_n 0, 1) := by decide +kernel
theorem dX6_recorded_5 : decode cX6_recorded 5 = .ok (.getfield 40, 3) := by decide +kernel
theorem dX6_recorded_8 : decode cX6_recorded 8 = .ok (.invokevirtual 84, 3) := by decide +kernel
theorem dX6_recorded_11 : decode cX6_recorded 11 = .ok (.iload_n 1, 1) := by decide +kernel
theorem dX6_recorded_12 : decode cX6_recorded 12 = .ok (.ireturn, 1) := by decide +kernel
theorem dX6_ofCar_0 : decode cX6_ofCar 0 = .ok (.aload_n 0, 1) := by decide +kernel
theorem dX6_ofCar_1 : decode cX6_ofCar 1 = .ok (.getfield 12, 3) := by decide +kernel
theorem dX6_ofCar_4 : decode cX6_ofCar 4 = .ok (.iload_n 1, 1) := by decide +kernel
theorem dX6_ofCar_5 : decode cX6_ofCar 5 = .ok (.invokevirtual 87, 3) := by decide +kernel
theorem dX6_ofCar_8 : decode cX6_ofCar 8 = .ok (.astore_n 3, 1) := by decide +kernel
theorem dX6_ofCar_9 : decode cX6_ofCar 9 = .ok (.aload_n 3, 1) := by decide +kernel
theorem dX6_ofCar_10 : decode cX6_ofCar 10 = .ok (.ifnonnull 5, 3) := by decide +kernel
theorem dX6_ofCar_13 : decode cX6_ofCar 13 = .ok (.iconst (-1), 1) := by decide +kernel
theorem dX6_ofCar_14 : decode cX6_ofCar 14 = .ok (.ireturn, 1) := by decide +kernel
theorem dX6_ofCar_15 : decode cX6_ofCar 15 = .ok (.iload_n 2, 1) := by decide +kernel
theorem dX6_ofCar_16 : decode cX6_ofCar 16 = .ok (.bipush 9, 2) := by decide +kernel
theorem dX6_ofCar_18 : decode cX6_ofCar 18 = .ok (.if_icmp .ne 14, 3) := by decide +kernel
theorem dX6_ofCar_21 : decode cX6_ofCar 21 = .ok (.aload_n 0, 1) := by decide +kernel
theorem dX6_ofCar_22 : decode cX6_ofCar 22 = .ok (.getfield 12, 3) := by decide +kernel
theorem dX6_ofCar_25 : decode cX6_ofCar 25 = .ok (.aload_n 3, 1) := by decide +kernel
theorem dX6_ofCar_26 : decode cX6_ofCar 26 = .ok (.invokevirtual 91, 3) := by decide +kernel
theorem dX6_ofCar_29 : decode cX6_ofCar 29 = .ok (.goto 8, 3) := by decide +kernel
theorem dX6_ofCar_32 : decode cX6_ofCar 32 = .ok (.aload_n 3, 1) := by decide +kernel
theorem dX6_ofCar_33 : decode cX6_ofCar 33 = .ok (.iload_n 2, 1) := by decide +kernel
theorem dX6_ofCar_34 : decode cX6_ofCar 34 = .ok (.invokevirtual 95, 3) := by decide +kernel
theorem dX6_ofCar_37 : decode cX6_ofCar 37 = .ok (.ireturn, 1) := by decide +kernel
theorem dX6_ofLoop_0 : decode cX6_ofLoop 0 = .ok (.aload_n 0, 1) := by decide +kernel
theorem dX6_ofLoop_1 : decode cX6_ofLoop 1 = .ok (.getfield 12, 3) := by decide +kernel
theorem dX6_ofLoop_4 : decode cX6_ofLoop 4 = .ok (.iload_n 1, 1) := by decide +kernel
theorem dX6_ofLoop_5 : decode cX6_ofLoop 5 = .ok (.invokevirtual 100, 3) := by decide +kernel
theorem dX6_ofLoop_8 : decode cX6_ofLoop 8 = .ok (.astore_n 3, 1) := by decide +kernel
theorem dX6_ofLoop_9 : decode cX6_ofLoop 9 = .ok (.aload_n 3, 1) := by decide +kernel
theorem dX6_ofLoop_10 : decode cX6_ofLoop 10 = .ok (.ifnonnull 5, 3) := by decide +kernel
theorem dX6_ofLoop_13 : decode cX6_ofLoop 13 = .ok (.iconst (-1), 1) := by decide +kernel
theorem dX6_ofLoop_14 : decode cX6_ofLoop 14 = .ok (.ireturn, 1) := by decide +kernel
theorem dX6_ofLoop_15 : decode cX6_ofLoop 15 = .ok (.iload_n 2, 1) := by decide +kernel
theorem dX6_ofLoop_16 : decode cX6_ofLoop 16 = .ok (.bipush 8, 2) := by decide +kernel
theorem dX6_ofLoop_18 : decode cX6_ofLoop 18 = .ok (.if_icmp .ne 14, 3) := by decide +kernel
theorem dX6_ofLoop_21 : decode cX6_ofLoop 21 = .ok (.aload_n 0, 1) := by decide +kernel
theorem dX6_ofLoop_22 : decode cX6_ofLoop 22 = .ok (.getfield 12, 3) := by decide +kernel
theorem dX6_ofLoop_25 : decode cX6_ofLoop 25 = .ok (.aload_n 3, 1) := by decide +kernel
theorem dX6_ofLoop_26 : decode cX6_ofLoop 26 = .ok (.invokevirtual 104, 3) := by decide +kernel
theorem dX6_ofLoop_29 : decode cX6_ofLoop 29 = .ok (.goto 8, 3) := by decide +kernel
theorem dX6_ofLoop_32 : decode cX6_ofLoop 32 = .ok (.aload_n 3, 1) := by decide +kernel
theorem dX6_ofLoop_33 : decode cX6_ofLoop 33 = .ok (.iload_n 2, 1) := by decide +kernel
theorem dX6_ofLoop_34 : decode cX6_ofLoop 34 = .ok (.invokevirtual 108, 3) := by decide +kernel
theorem dX6_ofLoop_37 : decode cX6_ofLoop 37 = .ok (.ireturn, 1) := by decide +kernel
theorem dX6_error_0 : decode cX6_error 0 = .ok (.aload_n 0, 1) := by decide +kernel
theorem dX6_error_1 : decode cX6_error 1 = .ok (.getfield 12, 3) := by decide +kernel
theorem dX6_error_4 : decode cX6_error 4 = .ok (.iload_n 1, 1) := by decide +kernel
theorem dX6_error_5 : decode cX6_error 5 = .ok (.invokevirtual 100, 3) := by decide +kernel
theorem dX6_error_8 : decode cX6_error 8 = .ok (.astore_n 2, 1) := by decide +kernel
theorem dX6_error_9 : decode cX6_error 9 = .ok (.aload_n 2, 1) := by decide +kernel
theorem dX6_error_10 : decode cX6_error 10 = .ok (.ifnonnull 7, 3) := by decide +kernel
theorem dX6_error_13 : decode cX6_error 13 = .ok (.iconst (-1), 1) := by decide +kernel
theorem dX6_error_14 : decode cX6_error 14 = .ok (.goto 11, 3) := by decide +kernel
theorem dX6_error_17 : decode cX6_error 17 = .ok (.sipush 1000, 3) := by decide +kernel
theorem dX6_error_20 : decode cX6_error 20 = .ok (.aload_n 2, 1) := by decide +kernel
theorem dX6_error_21 : decode cX6_error 21 = .ok (.invokevirtual 109, 3) := by decide +kernel
theorem dX6_error_24 : decode cX6_error 24 = .ok (.iadd, 1) := by decide +kernel
theorem dX6_error_25 : decode cX6_error 25 = .ok (.ireturn, 1) := by decide +kernel
theorem dX6_carAt_0 : decode cX6_carAt 0 = .ok (.iload_n 1, 1) := by decide +kernel
theorem dX6_carAt_1 : decode cX6_carAt 1 = .ok (.iconst 0, 1) := by decide +kernel
theorem dX6_carAt_2 : decode cX6_carAt 2 = .ok (.iconst 1, 1) := by decide +kernel
theorem dX6_carAt_3 : decode cX6_carAt 3 = .ok (.invokestatic 113, 3) := by decide +kernel
theorem dX6_carAt_6 : decode cX6_carAt 6 = .ok (.ifCond .eq 13, 3) := by decide +kernel
theorem dX6_carAt_9 : decode cX6_carAt 9 = .ok (.iload_n 2, 1) := by decide +kernel
theorem dX6_carAt_10 : decode cX6_carAt 10 = .ok (.iconst 0, 1) := by decide +kernel
theorem dX6_carAt_11 : decode cX6_carAt 11 = .ok (.bipush 39, 2) := by decide +kernel
theorem dX6_carAt_13 : decode cX6_carAt 13 = .ok (.invokestatic 113, 3) := by decide +kernel
theorem dX6_carAt_16 : decode cX6_carAt 16 = .ok (.ifCond .ne 5, 3) := by decide +kernel
theorem dX6_carAt_19 : decode cX6_carAt 19 = .ok (.iconst (-1), 1) := by decide +kernel
theorem dX6_carAt_20 : decode cX6_carAt 20 = .ok (.ireturn, 1) := by decide +kernel
theorem dX6_carAt_21 : decode cX6_carAt 21 = .ok (.aload_n 0, 1) := by decide +kernel
theorem dX6_carAt_22 : decode cX6_carAt 22 = .ok (.getfield 12, 3) := by decide +kernel
theorem dX6_carAt_25 : decode cX6_carAt 25 = .ok (.iload_n 1, 1) := by decide +kernel
theorem dX6_carAt_26 : decode cX6_carAt 26 = .ok (.iload_n 2, 1) := by decide +kernel
theorem dX6_carAt_27 : decode cX6_carAt 27 = .ok (.invokevirtual 117, 3) := by decide +kernel
theorem dX6_carAt_30 : decode cX6_carAt 30 = .ok (.ireturn, 1) := by decide +kernel
theorem dX6_count_0 : decode cX6_count 0 = .ok (.iload_n 1, 1) := by decide +kernel
theorem dX6_count_1 : decode cX6_count 1 = .ok (.tableswitch 171 0 11 #[63, 71, 79, 87, 103, 111, 119, 129, 139, 147, 155, 163], 63) := by decide +kernel
theorem dX6_count_64 : decode cX6_count 64 = .ok (.aload_n 0, 1) := by decide +kernel
theorem dX6_count_65 : decode cX6_count 65 = .ok (.getfield 12, 3) := by decide +kernel
theorem dX6_count_68 : decode cX6_count 68 = .ok (.getfield 120, 3) := by decide +kernel
theorem dX6_count_71 : decode cX6_count 71 = .ok (.ireturn, 1) := by decide +kernel
theorem dX6_count_72 : decode cX6_count 72 = .ok (.aload_n 0, 1) := by decide +kernel
theorem dX6_count_73 : decode cX6_count 73 = .ok (.getfield 12, 3) := by decide +kernel
theorem dX6_count_76 : decode cX6_count 76 = .ok (.getfield 124, 3) := by decide +kernel
theorem dX6_count_79 : decode cX6_count 79 = .ok (.ireturn, 1) := by decide +kernel
theorem dX6_count_80 : decode cX6_count 80 = .ok (.aload_n 0, 1) := by decide +kernel
theorem dX6_count_81 : decode cX6_count 81 = .ok (.getfield 12, 3) := by decide +kernel
theorem dX6_count_84 : decode cX6_count 84 = .ok (.getfield 127, 3) := by decide +kernel
theorem dX6_count_87 : decode cX6_count 87 = .ok (.ireturn, 1) := by decide +kernel
theorem dX6_count_88 : decode cX6_count 88 = .ok (.aload_n 0, 1) := by decide +kernel
theorem dX6_count_89 : decode cX6_count 89 = .ok (.getfield 12, 3) := by decide +kernel
theorem dX6_count_92 : decode cX6_count 92 = .ok (.getfield 127, 3) := by decide +kernel
theorem dX6_count_95 : decode cX6_count 95 = .ok (.aload_n 0, 1) := by decide +kernel
theorem dX6_count_96 : decode cX6_count 96 = .ok (.getfield 12, 3) := by decide +kernel
theorem dX6_count_99 : decode cX6_count 99 = .ok (.invokevirtual 130, 3) := by decide +kernel
theorem dX6_count_102 : decode cX6_count 102 = .ok (.isub, 1) := by decide +kernel
theorem dX6_count_103 : decode cX6_count 103 = .ok (.ireturn, 1) := by decide +kernel
theorem dX6_count_104 : decode cX6_count 104 = .ok (.aload_n 0, 1) := by decide +kernel
theorem dX6_count_105 : decode cX6_count 105 = .ok (.getfield 12, 3) := by decide +kernel
theorem dX6_count_108 : decode cX6_count 108 = .ok (.invokevirtual 130, 3) := by decide +kernel
theorem dX6_count_111 : decode cX6_count 111 = .ok (.ireturn, 1) := by decide +kernel
theorem dX6_count_112 : decode cX6_count 112 = .ok (.aload_n 0, 1) := by decide +kernel
theorem dX6_count_113 : decode cX6_count 113 = .ok (.getfield 12, 3) := by decide +kernel
theorem dX6_count_116 : decode cX6_count 116 = .ok (.invokevirtual 133, 3) := by decide +kernel
theorem dX6_count_119 : decode cX6_count 119 = .ok (.ireturn, 1) := by decide +kernel
theorem dX6_count_120 : decode cX6_count 120 = .ok (.aload_n 0, 1) := by decide +kernel
theorem dX6_count_121 : decode cX6_count 121 = .ok (.getfield 12, 3) := by decide +kernel
theorem dX6_count_124 : decode cX6_count 124 = .ok (.bipush 6, 2) := by decide +kernel
theorem dX6_count_126 : decode cX6_count 126 = .ok (.invokevirtual 136, 3) := by decide +kernel
theorem dX6_count_129 : decode cX6_count 129 = .ok (.ireturn, 1) := by decide +kernel
theorem dX6_count_130 : decode cX6_count 130 = .ok (.aload_n 0, 1) := by decide +kernel
theorem dX6_count_131 : decode cX6_count 131 = .ok (.getfield 12, 3) := by decide +kernel
theorem dX6_count_134 : decode cX6_count 134 = .ok (.bipush 7, 2) := by decide +kernel
theorem dX6_count_136 : decode cX6_count 136 = .ok (.invokevirtual 136, 3) := by decide +kernel
theorem dX6_count_139 : decode cX6_count 139 = .ok (.ireturn, 1) := by decide +kernel
theorem dX6_count_140 : decode cX6_count 140 = .ok (.aload_n 0, 1) := by decide +kernel
theorem dX6_count_141 : decode cX6_count 141 = .ok (.getfield 33, 3) := by decide +kernel
theorem dX6_count_144 : decode cX6_count 144 = .ok (.getfield 139, 3) := by decide +kernel
theorem dX6_count_147 : decode cX6_count 147 = .ok (.ireturn, 1) := by decide +kernel
theorem dX6_count_148 : decode cX6_count 148 = .ok (.aload_n 0, 1) := by decide +kernel
theorem dX6_count_149 : decode cX6_count 149 = .ok (.getfield 40, 3) := by decide +kernel
theorem dX6_count_152 : decode cX6_count 152 = .ok (.getfield 142, 3) := by decide +kernel
theorem dX6_count_155 : decode cX6_count 155 = .ok (.ireturn, 1) := by decide +kernel
theorem dX6_count_156 : decode cX6_count 156 = .ok (.aload_n 0, 1) := by decide +kernel
theorem dX6_count_157 : decode cX6_count 157 = .ok (.getfield 12, 3) := by decide +kernel
theorem dX6_count_160 : decode cX6_count 160 = .ok (.getfield 145, 3) := by decide +kernel
theorem dX6_count_163 : decode cX6_count 163 = .ok (.ireturn, 1) := by decide +kernel
theorem dX6_count_164 : decode cX6_count 164 = .ok (.aload_n 0, 1) := by decide +kernel
theorem dX6_count_165 : decode cX6_count 165 = .ok (.getfield 12, 3) := by decide +kernel
theorem dX6_count_168 : decode cX6_count 168 = .ok (.getfield 148, 3) := by decide +kernel
theorem dX6_count_171 : decode cX6_count 171 = .ok (.ireturn, 1) := by decide +kernel
theorem dX6_count_172 : decode cX6_count 172 = .ok (.bipush (-2), 2) := by decide +kernel
theorem dX6_count_174 : decode cX6_count 174 = .ok (.ireturn, 1) := by decide +kernel
theorem dX6_inside_0 : decode cX6_inside 0 = .ok (.aload_n 0, 1) := by decide +kernel
theorem dX6_inside_1 : decode cX6_inside 1 = .ok (.getfield 12, 3) := by decide +kernel
theorem dX6_inside_4 : decode cX6_inside 4 = .ok (.iload_n 1, 1) := by decide +kernel
theorem dX6_inside_5 : decode cX6_inside 5 = .ok (.invokevirtual 100, 3) := by decide +kernel
theorem dX6_inside_8 : decode cX6_inside 8 = .ok (.astore_n 3, 1) := by decide +kernel
theorem dX6_inside_9 : decode cX6_inside 9 = .ok (.aload_n 0, 1) := by decide +kernel
theorem dX6_inside_10 : decode cX6_inside 10 = .ok (.getfield 12, 3) := by decide +kernel
theorem dX6_inside_13 : decode cX6_inside 13 = .ok (.iload_n 2, 1) := by decide +kernel
theorem dX6_inside_14 : decode cX6_inside 14 = .ok (.invokevirtual 100, 3) := by decide +kernel
theorem dX6_inside_17 : decode cX6_inside 17 = .ok (.astore 4, 2) := by decide +kernel
theorem dX6_inside_19 : decode cX6_inside 19 = .ok (.aload_n 3, 1) := by decide +kernel
theorem dX6_inside_20 : decode cX6_inside 20 = .ok (.ifnull 8, 3) := by decide +kernel
theorem dX6_inside_23 : decode cX6_inside 23 = .ok (.aload 4, 2) := by decide +kernel
theorem dX6_inside_25 : decode cX6_inside 25 = .ok (.ifnonnull 7, 3) := by decide +kernel
theorem dX6_inside_28 : decode cX6_inside 28 = .ok (.iconst (-1), 1) := by decide +kernel
theorem dX6_inside_29 : decode cX6_inside 29 = .ok (.goto 17, 3) := by decide +kernel
theorem dX6_inside_32 : decode cX6_inside 32 = .ok (.sipush 1000, 3) := by decide +kernel
theorem dX6_inside_35 : decode cX6_inside 35 = .ok (.aload_n 3, 1) := by decide +kernel
theorem dX6_inside_36 : decode cX6_inside 36 = .ok (.getfield 151, 3) := by decide +kernel
theorem dX6_inside_39 : decode cX6_inside 39 = .ok (.iadd, 1) := by decide +kernel
theorem dX6_inside_40 : decode cX6_inside 40 = .ok (.aload 4, 2) := by decide +kernel
theorem dX6_inside_42 : decode cX6_inside 42 = .ok (.getfield 151, 3) := by decide +kernel
theorem dX6_inside_45 : decode cX6_inside 45 = .ok (.isub, 1) := by decide +kernel
theorem dX6_inside_46 : decode cX6_inside 46 = .ok (.ireturn, 1) := by decide +kernel
theorem dX6_countsIn_0 : decode cX6_countsIn 0 = .ok (.aload_n 0, 1) := by decide +kernel
theorem dX6_countsIn_1 : decode cX6_countsIn 1 = .ok (.getfield 16, 3) := by decide +kernel
theorem dX6_countsIn_4 : decode cX6_countsIn 4 = .ok (.aload_n 0, 1) := by decide +kernel
theorem dX6_countsIn_5 : decode cX6_countsIn 5 = .ok (.getfield 12, 3) := by decide +kernel
theorem dX6_countsIn_8 : decode cX6_countsIn 8 = .ok (.invokevirtual 154, 3) := by decide +kernel
theorem dX6_countsIn_11 : decode cX6_countsIn 11 = .ok (.aload_n 0, 1) := by decide +kernel
theorem dX6_countsIn_12 : decode cX6_countsIn 12 = .ok (.getfield 16, 3) := by decide +kernel
theorem dX6_countsIn_15 : decode cX6_countsIn 15 = .ok (.iload_n 1, 1) := by decide +kernel
theorem dX6_countsIn_16 : decode cX6_countsIn 16 = .ok (.invokevirtual 100, 3) := by decide +kernel
theorem dX6_countsIn_19 : decode cX6_countsIn 19 = .ok (.astore_n 3, 1) := by decide +kernel
theorem dX6_countsIn_20 : decode cX6_countsIn 20 = .ok (.aload_n 3, 1) := by decide +kernel
theorem dX6_countsIn_21 : decode cX6_countsIn 21 = .ok (.ifnonnull 5, 3) := by decide +kernel
theorem dX6_countsIn_24 : decode cX6_countsIn 24 = .ok (.iconst (-1), 1) := by decide +kernel
theorem dX6_countsIn_25 : decode cX6_countsIn 25 = .ok (.ireturn, 1) := by decide +kernel
theorem dX6_countsIn_26 : decode cX6_countsIn 26 = .ok (.iload_n 2, 1) := by decide +kernel
theorem dX6_countsIn_27 : decode cX6_countsIn 27 = .ok (.invokestatic 157, 3) := by decide +kernel
theorem dX6_countsIn_30 : decode cX6_countsIn 30 = .ok (.ifCond .ne 6, 3) := by decide +kernel
theorem dX6_countsIn_33 : decode cX6_countsIn 33 = .ok (.bipush (-2), 2) := by decide +kernel
theorem dX6_countsIn_35 : decode cX6_countsIn 35 = .ok (.ireturn, 1) := by decide +kernel
theorem dX6_countsIn_36 : decode cX6_countsIn 36 = .ok (.aload_n 0, 1) := by decide +kernel
theorem dX6_countsIn_37 : decode cX6_countsIn 37 = .ok (.getfield 16, 3) := by decide +kernel
theorem dX6_countsIn_40 : decode cX6_countsIn 40 = .ok (.iload_n 2, 1) := by decide +kernel
theorem dX6_countsIn_41 : decode cX6_countsIn 41 = .ok (.invokevirtual 81, 3) := by decide +kernel
theorem dX6_countsIn_44 : decode cX6_countsIn 44 = .ok (.pop, 1) := by decide +kernel
theorem dX6_countsIn_45 : decode cX6_countsIn 45 = .ok (.aload_n 3, 1) := by decide +kernel
theorem dX6_countsIn_46 : decode cX6_countsIn 46 = .ok (.getfield 151, 3) := by decide +kernel
theorem dX6_countsIn_49 : decode cX6_countsIn 49 = .ok (.ireturn, 1) := by decide +kernel
theorem dX6_countsAlone_0 : decode cX6_countsAlone 0 = .ok (.aload_n 0, 1) := by decide +kernel
theorem dX6_countsAlone_1 : decode cX6_countsAlone 1 = .ok (.getfield 16, 3) := by decide +kernel
theorem dX6_countsAlone_4 : decode cX6_countsAlone 4 = .ok (.aload_n 0, 1) := by decide +kernel
theorem dX6_countsAlone_5 : decode cX6_countsAlone 5 = .ok (.getfield 12, 3) := by decide +kernel
theorem dX6_countsAlone_8 : decode cX6_countsAlone 8 = .ok (.invokevirtual 154, 3) := by decide +kernel
theorem dX6_countsAlone_11 : decode cX6_countsAlone 11 = .ok (.aload_n 0, 1) := by decide +kernel
theorem dX6_countsAlone_12 : decode cX6_countsAlone 12 = .ok (.getfield 16, 3) := by decide +kernel
theorem dX6_countsAlone_15 : decode cX6_countsAlone 15 = .ok (.iload_n 1, 1) := by decide +kernel
theorem dX6_countsAlone_16 : decode cX6_countsAlone 16 = .ok (.invokevirtual 100, 3) := by decide +kernel
theorem dX6_countsAlone_19 : decode cX6_countsAlone 19 = .ok (.astore_n 3, 1) := by decide +kernel
theorem dX6_countsAlone_20 : decode cX6_countsAlone 20 = .ok (.aload_n 3, 1) := by decide +kernel
theorem dX6_countsAlone_21 : decode cX6_countsAlone 21 = .ok (.ifnonnull 5, 3) := by decide +kernel
theorem dX6_countsAlone_24 : decode cX6_countsAlone 24 = .ok (.iconst (-1), 1) := by decide +kernel
theorem dX6_countsAlone_25 : decode cX6_countsAlone 25 = .ok (.ireturn, 1) := by decide +kernel
theorem dX6_countsAlone_26 : decode cX6_countsAlone 26 = .ok (.iload_n 2, 1) := by decide +kernel
theorem dX6_countsAlone_27 : decode cX6_countsAlone 27 = .ok (.invokestatic 157, 3) := by decide +kernel
theorem dX6_countsAlone_30 : decode cX6_countsAlone 30 = .ok (.ifCond .ne 6, 3) := by decide +kernel
theorem dX6_countsAlone_33 : decode cX6_countsAlone 33 = .ok (.bipush (-2), 2) := by decide +kernel
theorem dX6_countsAlone_35 : decode cX6_countsAlone 35 = .ok (.ireturn, 1) := by decide +kernel
theorem dX6_countsAlone_36 : decode cX6_countsAlone 36 = .ok (.iconst 0, 1) := by decide +kernel
theorem dX6_countsAlone_37 : decode cX6_countsAlone 37 = .ok (.istore 4, 2) := by decide +kernel
theorem dX6_countsAlone_39 : decode cX6_countsAlone 39 = .ok (.iload 4, 2) := by decide +kernel
theorem dX6_countsAlone_41 : decode cX6_countsAlone 41 = .ok (.iload_n 2, 1) := by decide +kernel
theorem dX6_countsAlone_42 : decode cX6_countsAlone 42 = .ok (.if_icmp .ge 17, 3) := by decide +kernel
theorem dX6_countsAlone_45 : decode cX6_countsAlone 45 = .ok (.aload_n 0, 1) := by decide +kernel
theorem dX6_countsAlone_46 : decode cX6_countsAlone 46 = .ok (.getfield 16, 3) := by decide +kernel
theorem dX6_countsAlone_49 : decode cX6_countsAlone 49 = .ok (.iload_n 1, 1) := by decide +kernel
theorem dX6_countsAlone_50 : decode cX6_countsAlone 50 = .ok (.invokevirtual 161, 3) := by decide +kernel
theorem dX6_countsAlone_53 : decode cX6_countsAlone 53 = .ok (.iinc 4 1, 3) := by decide +kernel
theorem dX6_countsAlone_56 : decode cX6_countsAlone 56 = .ok (.goto (-17), 3) := by decide +kernel
theorem dX6_countsAlone_59 : decode cX6_countsAlone 59 = .ok (.aload_n 3, 1) := by decide +kernel
theorem dX6_countsAlone_60 : decode cX6_countsAlone 60 = .ok (.getfield 151, 3) := by decide +kernel
theorem dX6_countsAlone_63 : decode cX6_countsAlone 63 = .ok (.ireturn, 1) := by decide +kernel
theorem dX6_bestUpper_0 : decode cX6_bestUpper 0 = .ok (.aload_n 0, 1) := by decide +kernel
theorem dX6_bestUpper_1 : decode cX6_bestUpper 1 = .ok (.getfield 16, 3) := by decide +kernel
theorem dX6_bestUpper_4 : decode cX6_bestUpper 4 = .ok (.aload_n 0, 1) := by decide +kernel
theorem dX6_bestUpper_5 : decode cX6_bestUpper 5 = .ok (.getfield 12, 3) := by decide +kernel
theorem dX6_bestUpper_8 : decode cX6_bestUpper 8 = .ok (.invokevirtual 154, 3) := by decide +kernel
theorem dX6_bestUpper_11 : decode cX6_bestUpper 11 = .ok (.aload_n 0, 1) := by decide +kernel
theorem dX6_bestUpper_12 : decode cX6_bestUpper 12 = .ok (.getfield 12, 3) := by decide +kernel
theorem dX6_bestUpper_15 : decode cX6_bestUpper 15 = .ok (.iload_n 1, 1) := by decide +kernel
theorem dX6_bestUpper_16 : decode cX6_bestUpper 16 = .ok (.invokevirtual 100, 3) := by decide +kernel
theorem dX6_bestUpper_19 : decode cX6_bestUpper 19 = .ok (.astore_n 3, 1) := by decide +kernel
theorem dX6_bestUpper_20 : decode cX6_bestUpper 20 = .ok (.aload_n 0, 1) := by decide +kernel
theorem dX6_bestUpper_21 : decode cX6_bestUpper 21 = .ok (.getfield 16, 3) := by decide +kernel
theorem dX6_bestUpper_24 : decode cX6_bestUpper 24 = .ok (.iload_n 1, 1) := by decide +kernel
theorem dX6_bestUpper_25 : decode cX6_bestUpper 25 = .ok (.invokevirtual 100, 3) := by decide +kernel
theorem dX6_bestUpper_28 : decode cX6_bestUpper 28 = .ok (.astore 4, 2) := by decide +kernel
theorem dX6_bestUpper_30 : decode cX6_bestUpper 30 = .ok (.aload_n 3, 1) := by decide +kernel
theorem dX6_bestUpper_31 : decode cX6_bestUpper 31 = .ok (.ifnull 8, 3) := by decide +kernel
theorem dX6_bestUpper_34 : decode cX6_bestUpper 34 = .ok (.aload 4, 2) := by decide +kernel
theorem dX6_bestUpper_36 : decode cX6_bestUpper 36 = .ok (.ifnonnull 5, 3) := by decide +kernel
theorem dX6_bestUpper_39 : decode cX6_bestUpper 39 = .ok (.iconst (-1), 1) := by decide +kernel
theorem dX6_bestUpper_40 : decode cX6_bestUpper 40 = .ok (.ireturn, 1) := by decide +kernel
theorem dX6_bestUpper_41 : decode cX6_bestUpper 41 = .ok (.iload_n 2, 1) := by decide +kernel
theorem dX6_bestUpper_42 : decode cX6_bestUpper 42 = .ok (.invokestatic 157, 3) := by decide +kernel
theorem dX6_bestUpper_45 : decode cX6_bestUpper 45 = .ok (.ifCond .ne 6, 3) := by decide +kernel
theorem dX6_bestUpper_48 : decode cX6_bestUpper 48 = .ok (.bipush (-2), 2) := by decide +kernel
theorem dX6_bestUpper_50 : decode cX6_bestUpper 50 = .ok (.ireturn, 1) := by decide +kernel
theorem dX6_bestUpper_51 : decode cX6_bestUpper 51 = .ok (.aload_n 0, 1) := by decide +kernel
theorem dX6_bestUpper_52 : decode cX6_bestUpper 52 = .ok (.iload_n 1, 1) := by decide +kernel
theorem dX6_bestUpper_53 : decode cX6_bestUpper 53 = .ok (.aload 4, 2) := by decide +kernel
theorem dX6_bestUpper_55 : decode cX6_bestUpper 55 = .ok (.iload_n 2, 1) := by decide +kernel
theorem dX6_bestUpper_56 : decode cX6_bestUpper 56 = .ok (.invokevirtual 165, 3) := by decide +kernel
theorem dX6_bestUpper_59 : decode cX6_bestUpper 59 = .ok (.istore 5, 2) := by decide +kernel
theorem dX6_bestUpper_61 : decode cX6_bestUpper 61 = .ok (.aload_n 3, 1) := by decide +kernel
theorem dX6_bestUpper_62 : decode cX6_bestUpper 62 = .ok (.getfield 169, 3) := by decide +kernel
theorem dX6_bestUpper_65 : decode cX6_bestUpper 65 = .ok (.istore 6, 2) := by decide +kernel
theorem dX6_bestUpper_67 : decode cX6_bestUpper 67 = .ok (.ldc 174, 2) := by decide +kernel
theorem dX6_bestUpper_69 : decode cX6_bestUpper 69 = .ok (.istore 7, 2) := by decide +kernel
theorem dX6_bestUpper_71 : decode cX6_bestUpper 71 = .ok (.aload_n 3, 1) := by decide +kernel
theorem dX6_bestUpper_72 : decode cX6_bestUpper 72 = .ok (.getfield 169, 3) := by decide +kernel
theorem dX6_bestUpper_75 : decode cX6_bestUpper 75 = .ok (.istore 8, 2) := by decide +kernel
theorem dX6_bestUpper_77 : decode cX6_bestUpper 77 = .ok (.iload 8, 2) := by decide +kernel
theorem dX6_bestUpper_79 : decode cX6_bestUpper 79 = .ok (.sipush 200, 3) := by decide +kernel
theorem dX6_bestUpper_82 : decode cX6_bestUpper 82 = .ok (.if_icmp .gt 44, 3) := by decide +kernel
theorem dX6_bestUpper_85 : decode cX6_bestUpper 85 = .ok (.aload_n 0, 1) := by decide +kernel
theorem dX6_bestUpper_86 : decode cX6_bestUpper 86 = .ok (.aload_n 3, 1) := by decide +kernel
theorem dX6_bestUpper_87 : decode cX6_bestUpper 87 = .ok (.iload 8, 2) := by decide +kernel
theorem dX6_bestUpper_89 : decode cX6_bestUpper 89 = .ok (.iload 5, 2) := by decide +kernel
theorem dX6_bestUpper_91 : decode cX6_bestUpper 91 = .ok (.invokevirtual 175, 3) := by decide +kernel
theorem dX6_bestUpper_94 : decode cX6_bestUpper 94 = .ok (.aload 4, 2) := by decide +kernel
theorem dX6_bestUpper_96 : decode cX6_bestUpper 96 = .ok (.getfield 179, 3) := by decide +kernel
theorem dX6_bestUpper_99 : decode cX6_bestUpper 99 = .ok (.isub, 1) := by decide +kernel
theorem dX6_bestUpper_100 : decode cX6_bestUpper 100 = .ok (.invokestatic 182, 3) := by decide +kernel
theorem dX6_bestUpper_103 : decode cX6_bestUpper 103 = .ok (.istore 9, 2) := by decide +kernel
theorem dX6_bestUpper_105 : decode cX6_bestUpper 105 = .ok (.iload 9, 2) := by decide +kernel
theorem dX6_bestUpper_107 : decode cX6_bestUpper 107 = .ok (.iload 7, 2) := by decide +kernel
theorem dX6_bestUpper_109 : decode cX6_bestUpper 109 = .ok (.if_icmp .ge 11, 3) := by decide +kernel
theorem dX6_bestUpper_112 : decode cX6_bestUpper 112 = .ok (.iload 9, 2) := by decide +kernel
theorem dX6_bestUpper_114 : decode cX6_bestUpper 114 = .ok (.istore 7, 2) := by decide +kernel
theorem dX6_bestUpper_116 : decode cX6_bestUpper 116 = .ok (.iload 8, 2) := by decide +kernel
theorem dX6_bestUpper_118 : decode cX6_bestUpper 118 = .ok (.istore 6, 2) := by decide +kernel
theorem dX6_bestUpper_120 : decode cX6_bestUpper 120 = .ok (.iinc 8 1, 3) := by decide +kernel
theorem dX6_bestUpper_123 : decode cX6_bestUpper 123 = .ok (.goto (-46), 3) := by decide +kernel
theorem dX6_bestUpper_126 : decode cX6_bestUpper 126 = .ok (.iload 6, 2) := by decide +kernel
theorem dX6_bestUpper_128 : decode cX6_bestUpper 128 = .ok (.ireturn, 1) := by decide +kernel
theorem dX6_hearTrial_0 : decode cX6_hearTrial 0 = .ok (.iconst 0, 1) := by decide +kernel
theorem dX6_hearTrial_1 : decode cX6_hearTrial 1 = .ok (.istore 4, 2) := by decide +kernel
theorem dX6_hearTrial_3 : decode cX6_hearTrial 3 = .ok (.iconst 0, 1) := by decide +kernel
theorem dX6_hearTrial_4 : decode cX6_hearTrial 4 = .ok (.istore 5, 2) := by decide +kernel
theorem dX6_hearTrial_6 : decode cX6_hearTrial 6 = .ok (.iload 5, 2) := by decide +kernel
theorem dX6_hearTrial_8 : decode cX6_hearTrial 8 = .ok (.iload_n 3, 1) := by decide +kernel
theorem dX6_hearTrial_9 : decode cX6_hearTrial 9 = .ok (.if_icmp .ge 61, 3) := by decide +kernel
theorem dX6_hearTrial_12 : decode cX6_hearTrial 12 = .ok (.aload_n 0, 1) := by decide +kernel
theorem dX6_hearTrial_13 : decode cX6_hearTrial 13 = .ok (.getfield 16, 3) := by decide +kernel
theorem dX6_hearTrial_16 : decode cX6_hearTrial 16 = .ok (.invokevirtual 133, 3) := by decide +kernel
theorem dX6_hearTrial_19 : decode cX6_hearTrial 19 = .ok (.istore 6, 2) := by decide +kernel
theorem dX6_hearTrial_21 : decode cX6_hearTrial 21 = .ok (.aload_n 0, 1) := by decide +kernel
theorem dX6_hearTrial_22 : decode cX6_hearTrial 22 = .ok (.getfield 16, 3) := by decide +kernel
theorem dX6_hearTrial_25 : decode cX6_hearTrial 25 = .ok (.iload 6, 2) := by decide +kernel
theorem dX6_hearTrial_27 : decode cX6_hearTrial 27 = .ok (.invokevirtual 161, 3) := by decide +kernel
theorem dX6_hearTrial_30 : decode cX6_hearTrial 30 = .ok (.iload 6, 2) := by decide +kernel
theorem dX6_hearTrial_32 : decode cX6_hearTrial 32 = .ok (.iload_n 1, 1) := by decide +kernel
theorem dX6_hearTrial_33 : decode cX6_hearTrial 33 = .ok (.if_icmp .ne 31, 3) := by decide +kernel
theorem dX6_hearTrial_36 : decode cX6_hearTrial 36 = .ok (.iload 4, 2) := by decide +kernel
theorem dX6_hearTrial_38 : decode cX6_hearTrial 38 = .ok (.aload_n 0, 1) := by decide +kernel
theorem dX6_hearTrial_39 : decode cX6_hearTrial 39 = .ok (.getfield 26, 3) := by decide +kernel
theorem dX6_hearTrial_42 : decode cX6_hearTrial 42 = .ok (.arraylength, 1) := by decide +kernel
theorem dX6_hearTrial_43 : decode cX6_hearTrial 43 = .ok (.if_icmp .ge 21, 3) := by decide +kernel
theorem dX6_hearTrial_46 : decode cX6_hearTrial 46 = .ok (.aload_n 0, 1) := by decide +kernel
theorem dX6_hearTrial_47 : decode cX6_hearTrial 47 = .ok (.getfield 26, 3) := by decide +kernel
theorem dX6_hearTrial_50 : decode cX6_hearTrial 50 = .ok (.iload 4, 2) := by decide +kernel
theorem dX6_hearTrial_52 : decode cX6_hearTrial 52 = .ok (.aload_n 0, 1) := by decide +kernel
theorem dX6_hearTrial_53 : decode cX6_hearTrial 53 = .ok (.getfield 16, 3) := by decide +kernel
theorem dX6_hearTrial_56 : decode cX6_hearTrial 56 = .ok (.aload_n 2, 1) := by decide +kernel
theorem dX6_hearTrial_57 : decode cX6_hearTrial 57 = .ok (.invokevirtual 104, 3) := by decide +kernel
theorem dX6_hearTrial_60 : decode cX6_hearTrial 60 = .ok (.iastore, 1) := by decide +kernel
theorem dX6_hearTrial_61 : decode cX6_hearTrial 61 = .ok (.iinc 4 1, 3) := by decide +kernel
theorem dX6_hearTrial_64 : decode cX6_hearTrial 64 = .ok (.iinc 5 1, 3) := by decide +kernel
theorem dX6_hearTrial_67 : decode cX6_hearTrial 67 = .ok (.goto (-61), 3) := by decide +kernel
theorem dX6_hearTrial_70 : decode cX6_hearTrial 70 = .ok (.iload 4, 2) := by decide +kernel
theorem dX6_hearTrial_72 : decode cX6_hearTrial 72 = .ok (.ireturn, 1) := by decide +kernel
theorem dX6_countedWith_0 : decode cX6_countedWith 0 = .ok (.aload_n 0, 1) := by decide +kernel
theorem dX6_countedWith_1 : decode cX6_countedWith 1 = .ok (.getfield 22, 3) := by decide +kernel
theorem dX6_countedWith_4 : decode cX6_countedWith 4 = .ok (.aload_n 1, 1) := by decide +kernel
theorem dX6_countedWith_5 : decode cX6_countedWith 5 = .ok (.invokevirtual 187, 3) := by decide +kernel
theorem dX6_countedWith_8 : decode cX6_countedWith 8 = .ok (.aload_n 0, 1) := by decide +kernel
theorem dX6_countedWith_9 : decode cX6_countedWith 9 = .ok (.getfield 22, 3) := by decide +kernel
theorem dX6_countedWith_12 : decode cX6_countedWith 12 = .ok (.iload_n 2, 1) := by decide +kernel
theorem dX6_countedWith_13 : decode cX6_countedWith 13 = .ok (.putfield 190, 3) := by decide +kernel
theorem dX6_countedWith_16 : decode cX6_countedWith 16 = .ok (.iconst 0, 1) := by decide +kernel
theorem dX6_countedWith_17 : decode cX6_countedWith 17 = .ok (.istore 4, 2) := by decide +kernel
theorem dX6_countedWith_19 : decode cX6_countedWith 19 = .ok (.iload 4, 2) := by decide +kernel
theorem dX6_countedWith_21 : decode cX6_countedWith 21 = .ok (.iload_n 3, 1) := by decide +kernel
theorem dX6_countedWith_22 : decode cX6_countedWith 22 = .ok (.if_icmp .ge 33, 3) := by decide +kernel
theorem dX6_countedWith_25 : decode cX6_countedWith 25 = .ok (.iload 4, 2) := by decide +kernel
theorem dX6_countedWith_27 : decode cX6_countedWith 27 = .ok (.aload_n 0, 1) := by decide +kernel
theorem dX6_countedWith_28 : decode cX6_countedWith 28 = .ok (.getfield 26, 3) := by decide +kernel
theorem dX6_countedWith_31 : decode cX6_countedWith 31 = .ok (.arraylength, 1) := by decide +kernel
theorem dX6_countedWith_32 : decode cX6_countedWith 32 = .ok (.if_icmp .ge 23, 3) := by decide +kernel
theorem dX6_countedWith_35 : decode cX6_countedWith 35 = .ok (.aload_n 0, 1) := by decide +kernel
theorem dX6_countedWith_36 : decode cX6_countedWith 36 = .ok (.getfield 22, 3) := by decide +kernel
theorem dX6_countedWith_39 : decode cX6_countedWith 39 = .ok (.aload_n 0, 1) := by decide +kernel
theorem dX6_countedWith_40 : decode cX6_countedWith 40 = .ok (.getfield 26, 3) := by decide +kernel
theorem dX6_countedWith_43 : decode cX6_countedWith 43 = .ok (.iload 4, 2) := by decide +kernel
theorem dX6_countedWith_45 : decode cX6_countedWith 45 = .ok (.iaload, 1) := by decide +kernel
theorem dX6_countedWith_46 : decode cX6_countedWith 46 = .ok (.invokevirtual 193, 3) := by decide +kernel
theorem dX6_countedWith_49 : decode cX6_countedWith 49 = .ok (.iinc 4 1, 3) := by decide +kernel
theorem dX6_countedWith_52 : decode cX6_countedWith 52 = .ok (.goto (-33), 3) := by decide +kernel
theorem dX6_countedWith_55 : decode cX6_countedWith 55 = .ok (.aload_n 0, 1) := by decide +kernel
theorem dX6_countedWith_56 : decode cX6_countedWith 56 = .ok (.getfield 22, 3) := by decide +kernel
theorem dX6_countedWith_59 : decode cX6_countedWith 59 = .ok (.getfield 151, 3) := by decide +kernel
theorem dX6_countedWith_62 : decode cX6_countedWith 62 = .ok (.ireturn, 1) := by decide +kernel
theorem dX6_bestTurn_0 : decode cX6_bestTurn 0 = .ok (.iload_n 1, 1) := by decide +kernel
theorem dX6_bestTurn_1 : decode cX6_bestTurn 1 = .ok (.invokestatic 157, 3) := by decide +kernel
theorem dX6_bestTurn_4 : decode cX6_bestTurn 4 = .ok (.ifCond .ne 6, 3) := by decide +kernel
theorem dX6_bestTurn_7 : decode cX6_bestTurn 7 = .ok (.bipush (-2), 2) := by decide +kernel
theorem dX6_bestTurn_9 : decode cX6_bestTurn 9 = .ok (.ireturn, 1) := by decide +kernel
theorem dX6_bestTurn_10 : decode cX6_bestTurn 10 = .ok (.iconst 1, 1) := by decide +kernel
theorem dX6_bestTurn_11 : decode cX6_bestTurn 11 = .ok (.istore_n 2, 1) := by decide +kernel
theorem dX6_bestTurn_12 : decode cX6_bestTurn 12 = .ok (.ldc 174, 2) := by decide +kernel
theorem dX6_bestTurn_14 : decode cX6_bestTurn 14 = .ok (.istore_n 3, 1) := by decide +kernel
theorem dX6_bestTurn_15 : decode cX6_bestTurn 15 = .ok (.iconst 1, 1) := by decide +kernel
theorem dX6_bestTurn_16 : decode cX6_bestTurn 16 = .ok (.istore 4, 2) := by decide +kernel
theorem dX6_bestTurn_18 : decode cX6_bestTurn 18 = .ok (.iload 4, 2) := by decide +kernel
theorem dX6_bestTurn_20 : decode cX6_bestTurn 20 = .ok (.iconst 5, 1) := by decide +kernel
theorem dX6_bestTurn_21 : decode cX6_bestTurn 21 = .ok (.if_icmp .gt 59, 3) := by decide +kernel
theorem dX6_bestTurn_24 : decode cX6_bestTurn 24 = .ok (.aload_n 0, 1) := by decide +kernel
theorem dX6_bestTurn_25 : decode cX6_bestTurn 25 = .ok (.getfield 16, 3) := by decide +kernel
theorem dX6_bestTurn_28 : decode cX6_bestTurn 28 = .ok (.aload_n 0, 1) := by decide +kernel
theorem dX6_bestTurn_29 : decode cX6_bestTurn 29 = .ok (.getfield 12, 3) := by decide +kernel
theorem dX6_bestTurn_32 : decode cX6_bestTurn 32 = .ok (.invokevirtual 154, 3) := by decide +kernel
theorem dX6_bestTurn_35 : decode cX6_bestTurn 35 = .ok (.aload_n 0, 1) := by decide +kernel
theorem dX6_bestTurn_36 : decode cX6_bestTurn 36 = .ok (.getfield 16, 3) := by decide +kernel
theorem dX6_bestTurn_39 : decode cX6_bestTurn 39 = .ok (.iload 4, 2) := by decide +kernel
theorem dX6_bestTurn_41 : decode cX6_bestTurn 41 = .ok (.putfield 148, 3) := by decide +kernel
theorem dX6_bestTurn_44 : decode cX6_bestTurn 44 = .ok (.aload_n 0, 1) := by decide +kernel
theorem dX6_bestTurn_45 : decode cX6_bestTurn 45 = .ok (.getfield 16, 3) := by decide +kernel
theorem dX6_bestTurn_48 : decode cX6_bestTurn 48 = .ok (.iload_n 1, 1) := by decide +kernel
theorem dX6_bestTurn_49 : decode cX6_bestTurn 49 = .ok (.invokevirtual 81, 3) := by decide +kernel
theorem dX6_bestTurn_52 : decode cX6_bestTurn 52 = .ok (.pop, 1) := by decide +kernel
theorem dX6_bestTurn_53 : decode cX6_bestTurn 53 = .ok (.aload_n 0, 1) := by decide +kernel
theorem dX6_bestTurn_54 : decode cX6_bestTurn 54 = .ok (.getfield 16, 3) := by decide +kernel
theorem dX6_bestTurn_57 : decode cX6_bestTurn 57 = .ok (.invokevirtual 196, 3) := by decide +kernel
theorem dX6_bestTurn_60 : decode cX6_bestTurn 60 = .ok (.istore 5, 2) := by decide +kernel
theorem dX6_bestTurn_62 : decode cX6_bestTurn 62 = .ok (.iload 5, 2) := by decide +kernel
theorem dX6_bestTurn_64 : decode cX6_bestTurn 64 = .ok (.iload_n 3, 1) := by decide +kernel
theorem dX6_bestTurn_65 : decode cX6_bestTurn 65 = .ok (.if_icmp .ge 9, 3) := by decide +kernel
theorem dX6_bestTurn_68 : decode cX6_bestTurn 68 = .ok (.iload 5, 2) := by decide +kernel
theorem dX6_bestTurn_70 : decode cX6_bestTurn 70 = .ok (.istore_n 3, 1) := by decide +kernel
theorem dX6_bestTurn_71 : decode cX6_bestTurn 71 = .ok (.iload 4, 2) := by decide +kernel
theorem dX6_bestTurn_73 : decode cX6_bestTurn 73 = .ok (.istore_n 2, 1) := by decide +kernel
theorem dX6_bestTurn_74 : decode cX6_bestTurn 74 = .ok (.iinc 4 1, 3) := by decide +kernel
theorem dX6_bestTurn_77 : decode cX6_bestTurn 77 = .ok (.goto (-59), 3) := by decide +kernel
theorem dX6_bestTurn_80 : decode cX6_bestTurn 80 = .ok (.iload_n 2, 1) := by decide +kernel
theorem dX6_bestTurn_81 : decode cX6_bestTurn 81 = .ok (.ireturn, 1) := by decide +kernel
theorem dX6_goneIn_0 : decode cX6_goneIn 0 = .ok (.aload_n 0, 1) := by decide +kernel
theorem dX6_goneIn_1 : decode cX6_goneIn 1 = .ok (.getfield 16, 3) := by decide +kernel
theorem dX6_goneIn_4 : decode cX6_goneIn 4 = .ok (.aload_n 0, 1) := by decide +kernel
theorem dX6_goneIn_5 : decode cX6_goneIn 5 = .ok (.getfield 12, 3) := by decide +kernel
theorem dX6_goneIn_8 : decode cX6_goneIn 8 = .ok (.invokevirtual 154, 3) := by decide +kernel
theorem dX6_goneIn_11 : decode cX6_goneIn 11 = .ok (.aload_n 0, 1) := by decide +kernel
theorem dX6_goneIn_12 : decode cX6_goneIn 12 = .ok (.getfield 16, 3) := by decide +kernel
theorem dX6_goneIn_15 : decode cX6_goneIn 15 = .ok (.iload_n 1, 1) := by decide +kernel
theorem dX6_goneIn_16 : decode cX6_goneIn 16 = .ok (.invokevirtual 87, 3) := by decide +kernel
theorem dX6_goneIn_19 : decode cX6_goneIn 19 = .ok (.astore_n 2, 1) := by decide +kernel
theorem dX6_goneIn_20 : decode cX6_goneIn 20 = .ok (.aload_n 2, 1) := by decide +kernel
theorem dX6_goneIn_21 : decode cX6_goneIn 21 = .ok (.ifnonnull 5, 3) := by decide +kernel
theorem dX6_goneIn_24 : decode cX6_goneIn 24 = .ok (.iconst (-1), 1) := by decide +kernel
theorem dX6_goneIn_25 : decode cX6_goneIn 25 = .ok (.ireturn, 1) := by decide +kernel
theorem dX6_goneIn_26 : decode cX6_goneIn 26 = .ok (.iconst 0, 1) := by decide +kernel
theorem dX6_goneIn_27 : decode cX6_goneIn 27 = .ok (.istore_n 3, 1) := by decide +kernel
theorem dX6_goneIn_28 : decode cX6_goneIn 28 = .ok (.iload_n 3, 1) := by decide +kernel
theorem dX6_goneIn_29 : decode cX6_goneIn 29 = .ok (.sipush 200, 3) := by decide +kernel
theorem dX6_goneIn_32 : decode cX6_goneIn 32 = .ok (.if_icmp .ge 25, 3) := by decide +kernel
theorem dX6_goneIn_35 : decode cX6_goneIn 35 = .ok (.aload_n 2, 1) := by decide +kernel
theorem dX6_goneIn_36 : decode cX6_goneIn 36 = .ok (.getfield 199, 3) := by decide +kernel
theorem dX6_goneIn_39 : decode cX6_goneIn 39 = .ok (.ifCond .ne 18, 3) := by decide +kernel
theorem dX6_goneIn_42 : decode cX6_goneIn 42 = .ok (.aload_n 0, 1) := by decide +kernel
theorem dX6_goneIn_43 : decode cX6_goneIn 43 = .ok (.getfield 16, 3) := by decide +kernel
theorem dX6_goneIn_46 : decode cX6_goneIn 46 = .ok (.bipush (-6), 2) := by decide +kernel
theorem dX6_goneIn_48 : decode cX6_goneIn 48 = .ok (.invokevirtual 161, 3) := by decide +kernel
theorem dX6_goneIn_51 : decode cX6_goneIn 51 = .ok (.iinc 3 1, 3) := by decide +kernel
theorem dX6_goneIn_54 : decode cX6_goneIn 54 = .ok (.goto (-26), 3) := by decide +kernel
theorem dX6_goneIn_57 : decode cX6_goneIn 57 = .ok (.aload_n 2, 1) := by decide +kernel
theorem dX6_goneIn_58 : decode cX6_goneIn 58 = .ok (.getfield 199, 3) := by decide +kernel
theorem dX6_goneIn_61 : decode cX6_goneIn 61 = .ok (.ifCond .eq 21, 3) := by decide +kernel
theorem dX6_goneIn_64 : decode cX6_goneIn 64 = .ok (.aload_n 0, 1) := by decide +kernel
theorem dX6_goneIn_65 : decode cX6_goneIn 65 = .ok (.getfield 16, 3) := by decide +kernel
theorem dX6_goneIn_68 : decode cX6_goneIn 68 = .ok (.getfield 120, 3) := by decide +kernel
theorem dX6_goneIn_71 : decode cX6_goneIn 71 = .ok (.aload_n 0, 1) := by decide +kernel
theorem dX6_goneIn_72 : decode cX6_goneIn 72 = .ok (.getfield 12, 3) := by decide +kernel
theorem dX6_goneIn_75 : decode cX6_goneIn 75 = .ok (.getfield 120, 3) := by decide +kernel
theorem dX6_goneIn_78 : decode cX6_goneIn 78 = .ok (.isub, 1) := by decide +kernel
theorem dX6_goneIn_79 : decode cX6_goneIn 79 = .ok (.goto 5, 3) := by decide +kernel
theorem dX6_goneIn_82 : decode cX6_goneIn 82 = .ok (.bipush (-6), 2) := by decide +kernel
theorem dX6_goneIn_84 : decode cX6_goneIn 84 = .ok (.ireturn, 1) := by decide +kernel
theorem dX6_put_0 : decode cX6_put 0 = .ok (.aload_n 0, 1) := by decide +kernel
theorem dX6_put_1 : decode cX6_put 1 = .ok (.getfield 33, 3) := by decide +kernel
theorem dX6_put_4 : decode cX6_put 4 = .ok (.lload_n 1, 1) := by decide +kernel
theorem dX6_put_5 : decode cX6_put 5 = .ok (.invokevirtual 203, 3) := by decide +kernel
theorem dX6_put_8 : decode cX6_put 8 = .ok (.ireturn, 1) := by decide +kernel
theorem dX6_wipe_0 : decode cX6_wipe 0 = .ok (.aload_n 0, 1) := by decide +kernel
theorem dX6_wipe_1 : decode cX6_wipe 1 = .ok (.getfield 33, 3) := by decide +kernel
theorem dX6_wipe_4 : decode cX6_wipe 4 = .ok (.invokevirtual 207, 3) := by decide +kernel
theorem dX6_wipe_7 : decode cX6_wipe 7 = .ok (.ireturn, 1) := by decide +kernel
theorem dX6_fault_0 : decode cX6_fault 0 = .ok (.aload_n 0, 1) := by decide +kernel
theorem dX6_fault_1 : decode cX6_fault 1 = .ok (.getfield 33, 3) := by decide +kernel
theorem dX6_fault_4 : decode cX6_fault 4 = .ok (.invokevirtual 210, 3) := by decide +kernel
theorem dX6_fault_7 : decode cX6_fault 7 = .ok (.ireturn, 1) := by decide +kernel
theorem dX6_carryOut_0 : decode cX6_carryOut 0 = .ok (.aload_n 0, 1) := by decide +kernel
theorem dX6_carryOut_1 : decode cX6_carryOut 1 = .ok (.getfield 33, 3) := by decide +kernel
theorem dX6_carryOut_4 : decode cX6_carryOut 4 = .ok (.invokevirtual 210, 3) := by decide +kernel
theorem dX6_carryOut_7 : decode cX6_carryOut 7 = .ok (.bipush (-6), 2) := by decide +kernel
theorem dX6_carryOut_9 : decode cX6_carryOut 9 = .ok (.if_icmp .eq 6, 3) := by decide +kernel
theorem dX6_carryOut_12 : decode cX6_carryOut 12 = .ok (.bipush (-3), 2) := by decide +kernel
theorem dX6_carryOut_14 : decode cX6_carryOut 14 = .ok (.ireturn, 1) := by decide +kernel
theorem dX6_carryOut_15 : decode cX6_carryOut 15 = .ok (.aload_n 0, 1) := by decide +kernel
theorem dX6_carryOut_16 : decode cX6_carryOut 16 = .ok (.getfield 40, 3) := by decide +kernel
theorem dX6_carryOut_19 : decode cX6_carryOut 19 = .ok (.aload_n 0, 1) := by decide +kernel
theorem dX6_carryOut_20 : decode cX6_carryOut 20 = .ok (.getfield 12, 3) := by decide +kernel
theorem dX6_carryOut_23 : decode cX6_carryOut 23 = .ok (.invokevirtual 51, 3) := by decide +kernel
theorem dX6_carryOut_26 : decode cX6_carryOut 26 = .ok (.iconst 0, 1) := by decide +kernel
theorem dX6_carryOut_27 : decode cX6_carryOut 27 = .ok (.istore_n 1, 1) := by decide +kernel
theorem dX6_carryOut_28 : decode cX6_carryOut 28 = .ok (.iconst 0, 1) := by decide +kernel
theorem dX6_carryOut_29 : decode cX6_carryOut 29 = .ok (.istore_n 2, 1) := by decide +kernel
theorem dX6_carryOut_30 : decode cX6_carryOut 30 = .ok (.iload_n 2, 1) := by decide +kernel
theorem dX6_carryOut_31 : decode cX6_carryOut 31 = .ok (.aload_n 0, 1) := by decide +kernel
theorem dX6_carryOut_32 : decode cX6_carryOut 32 = .ok (.getfield 33, 3) := by decide +kernel
theorem dX6_carryOut_35 : decode cX6_carryOut 35 = .ok (.getfield 139, 3) := by decide +kernel
theorem dX6_carryOut_38 : decode cX6_carryOut 38 = .ok (.if_icmp .ge 37, 3) := by decide +kernel
theorem dX6_carryOut_41 : decode cX6_carryOut 41 = .ok (.aload_n 0, 1) := by decide +kernel
theorem dX6_carryOut_42 : decode cX6_carryOut 42 = .ok (.getfield 33, 3) := by decide +kernel
theorem dX6_carryOut_45 : decode cX6_carryOut 45 = .ok (.iload_n 2, 1) := by decide +kernel
theorem dX6_carryOut_46 : decode cX6_carryOut 46 = .ok (.invokevirtual 213, 3) := by decide +kernel
theorem dX6_carryOut_49 : decode cX6_carryOut 49 = .ok (.ifCond .ne 6, 3) := by decide +kernel
theorem dX6_carryOut_52 : decode cX6_carryOut 52 = .ok (.goto 17, 3) := by decide +kernel
theorem dX6_carryOut_55 : decode cX6_carryOut 55 = .ok (.aload_n 0, 1) := by decide +kernel
theorem dX6_carryOut_56 : decode cX6_carryOut 56 = .ok (.iload_n 2, 1) := by decide +kernel
theorem dX6_carryOut_57 : decode cX6_carryOut 57 = .ok (.invokevirtual 216, 3) := by decide +kernel
theorem dX6_carryOut_60 : decode cX6_carryOut 60 = .ok (.ifCond .ge 6, 3) := by decide +kernel
theorem dX6_carryOut_63 : decode cX6_carryOut 63 = .ok (.goto 12, 3) := by decide +kernel
theorem dX6_carryOut_66 : decode cX6_carryOut 66 = .ok (.iinc 1 1, 3) := by decide +kernel
theorem dX6_carryOut_69 : decode cX6_carryOut 69 = .ok (.iinc 2 1, 3) := by decide +kernel
theorem dX6_carryOut_72 : decode cX6_carryOut 72 = .ok (.goto (-42), 3) := by decide +kernel
theorem dX6_carryOut_75 : decode cX6_carryOut 75 = .ok (.aload_n 0, 1) := by decide +kernel
theorem dX6_carryOut_76 : decode cX6_carryOut 76 = .ok (.getfield 33, 3) := by decide +kernel
theorem dX6_carryOut_79 : decode cX6_carryOut 79 = .ok (.invokevirtual 207, 3) := by decide +kernel
theorem dX6_carryOut_82 : decode cX6_carryOut 82 = .ok (.pop, 1) := by decide +kernel
theorem dX6_carryOut_83 : decode cX6_carryOut 83 = .ok (.aload_n 0, 1) := by decide +kernel
theorem dX6_carryOut_84 : decode cX6_carryOut 84 = .ok (.iload_n 1, 1) := by decide +kernel
theorem dX6_carryOut_85 : decode cX6_carryOut 85 = .ok (.invokevirtual 59, 3) := by decide +kernel
theorem dX6_carryOut_88 : decode cX6_carryOut 88 = .ok (.ireturn, 1) := by decide +kernel
theorem dX6_obey_0 : decode cX6_obey 0 = .ok (.aload_n 0, 1) := by decide +kernel
theorem dX6_obey_1 : decode cX6_obey 1 = .ok (.getfield 33, 3) := by decide +kernel
theorem dX6_obey_4 : decode cX6_obey 4 = .ok (.iload_n 1, 1) := by decide +kernel
theorem dX6_obey_5 : decode cX6_obey 5 = .ok (.invokevirtual 219, 3) := by decide +kernel
theorem dX6_obey_8 : decode cX6_obey 8 = .ok (.lookupswitch 120 #[(99, 36), (116, 102), (119, 84)], 36) := by decide +kernel
theorem dX6_obey_44 : decode cX6_obey 44 = .ok (.aload_n 0, 1) := by decide +kernel
theorem dX6_obey_45 : decode cX6_obey 45 = .ok (.getfield 12, 3) := by decide +kernel
theorem dX6_obey_48 : decode cX6_obey 48 = .ok (.aload_n 0, 1) := by decide +kernel
theorem dX6_obey_49 : decode cX6_obey 49 = .ok (.getfield 33, 3) := by decide +kernel
theorem dX6_obey_52 : decode cX6_obey 52 = .ok (.iload_n 1, 1) := by decide +kernel
theorem dX6_obey_53 : decode cX6_obey 53 = .ok (.iconst 1, 1) := by decide +kernel
theorem dX6_obey_54 : decode cX6_obey 54 = .ok (.iadd, 1) := by decide +kernel
theorem dX6_obey_55 : decode cX6_obey 55 = .ok (.invokevirtual 222, 3) := by decide +kernel
theorem dX6_obey_58 : decode cX6_obey 58 = .ok (.aload_n 0, 1) := by decide +kernel
theorem dX6_obey_59 : decode cX6_obey 59 = .ok (.getfield 33, 3) := by decide +kernel
theorem dX6_obey_62 : decode cX6_obey 62 = .ok (.iload_n 1, 1) := by decide +kernel
theorem dX6_obey_63 : decode cX6_obey 63 = .ok (.iconst 2, 1) := by decide +kernel
theorem dX6_obey_64 : decode cX6_obey 64 = .ok (.iadd, 1) := by decide +kernel
theorem dX6_obey_65 : decode cX6_obey 65 = .ok (.invokevirtual 222, 3) := by decide +kernel
theorem dX6_obey_68 : decode cX6_obey 68 = .ok (.aload_n 0, 1) := by decide +kernel
theorem dX6_obey_69 : decode cX6_obey 69 = .ok (.getfield 33, 3) := by decide +kernel
theorem dX6_obey_72 : decode cX6_obey 72 = .ok (.iload_n 1, 1) := by decide +kernel
theorem dX6_obey_73 : decode cX6_obey 73 = .ok (.iconst 3, 1) := by decide +kernel
theorem dX6_obey_74 : decode cX6_obey 74 = .ok (.iadd, 1) := by decide +kernel
theorem dX6_obey_75 : decode cX6_obey 75 = .ok (.invokevirtual 222, 3) := by decide +kernel
theorem dX6_obey_78 : decode cX6_obey 78 = .ok (.aload_n 0, 1) := by decide +kernel
theorem dX6_obey_79 : decode cX6_obey 79 = .ok (.getfield 33, 3) := by decide +kernel
theorem dX6_obey_82 : decode cX6_obey 82 = .ok (.iload_n 1, 1) := by decide +kernel
theorem dX6_obey_83 : decode cX6_obey 83 = .ok (.iconst 4, 1) := by decide +kernel
theorem dX6_obey_84 : decode cX6_obey 84 = .ok (.iadd, 1) := by decide +kernel
theorem dX6_obey_85 : decode cX6_obey 85 = .ok (.invokevirtual 222, 3) := by decide +kernel
theorem dX6_obey_88 : decode cX6_obey 88 = .ok (.invokevirtual 71, 3) := by decide +kernel
theorem dX6_obey_91 : decode cX6_obey 91 = .ok (.ireturn, 1) := by decide +kernel
theorem dX6_obey_92 : decode cX6_obey 92 = .ok (.aload_n 0, 1) := by decide +kernel
theorem dX6_obey_93 : decode cX6_obey 93 = .ok (.getfield 12, 3) := by decide +kernel
theorem dX6_obey_96 : decode cX6_obey 96 = .ok (.aload_n 0, 1) := by decide +kernel
theorem dX6_obey_97 : decode cX6_obey 97 = .ok (.getfield 33, 3) := by decide +kernel
theorem dX6_obey_100 : decode cX6_obey 100 = .ok (.iload_n 1, 1) := by decide +kernel
theorem dX6_obey_101 : decode cX6_obey 101 = .ok (.iconst 1, 1) := by decide +kernel
theorem dX6_obey_102 : decode cX6_obey 102 = .ok (.iadd, 1) := by decide +kernel
theorem dX6_obey_103 : decode cX6_obey 103 = .ok (.invokevirtual 225, 3) := by decide +kernel
theorem dX6_obey_106 : decode cX6_obey 106 = .ok (.invokevirtual 75, 3) := by decide +kernel
theorem dX6_obey_109 : decode cX6_obey 109 = .ok (.ireturn, 1) := by decide +kernel
theorem dX6_obey_110 : decode cX6_obey 110 = .ok (.aload_n 0, 1) := by decide +kernel
theorem dX6_obey_111 : decode cX6_obey 111 = .ok (.getfield 12, 3) := by decide +kernel
theorem dX6_obey_114 : decode cX6_obey 114 = .ok (.aload_n 0, 1) := by decide +kernel
theorem dX6_obey_115 : decode cX6_obey 115 = .ok (.getfield 33, 3) := by decide +kernel
theorem dX6_obey_118 : decode cX6_obey 118 = .ok (.iload_n 1, 1) := by decide +kernel
theorem dX6_obey_119 : decode cX6_obey 119 = .ok (.iconst 1, 1) := by decide +kernel
theorem dX6_obey_120 : decode cX6_obey 120 = .ok (.iadd, 1) := by decide +kernel
theorem dX6_obey_121 : decode cX6_obey 121 = .ok (.invokevirtual 225, 3) := by decide +kernel
theorem dX6_obey_124 : decode cX6_obey 124 = .ok (.invokevirtual 81, 3) := by decide +kernel
theorem dX6_obey_127 : decode cX6_obey 127 = .ok (.ireturn, 1) := by decide +kernel
theorem dX6_obey_128 : decode cX6_obey 128 = .ok (.bipush (-3), 2) := by decide +kernel
theorem dX6_obey_130 : decode cX6_obey 130 = .ok (.ireturn, 1) := by decide +kernel
theorem dX6_undo_0 : decode cX6_undo 0 = .ok (.aload_n 0, 1) := by decide +kernel
theorem dX6_undo_1 : decode cX6_undo 1 = .ok (.getfield 40, 3) := by decide +kernel
theorem dX6_undo_4 : decode cX6_undo 4 = .ok (.aload_n 0, 1) := by decide +kernel
theorem dX6_undo_5 : decode cX6_undo 5 = .ok (.getfield 12, 3) := by decide +kernel
theorem dX6_undo_8 : decode cX6_undo 8 = .ok (.invokevirtual 228, 3) := by decide +kernel
theorem dX6_undo_11 : decode cX6_undo 11 = .ok (.ireturn, 1) := by decide +kernel
theorem dX6_save_0 : decode cX6_save 0 = .ok (.aload_n 0, 1) := by decide +kernel
theorem dX6_save_1 : decode cX6_save 1 = .ok (.getfield 47, 3) := by decide +kernel
theorem dX6_save_4 : decode cX6_save 4 = .ok (.iload_n 1, 1) := by decide +kernel
theorem dX6_save_5 : decode cX6_save 5 = .ok (.aload_n 0, 1) := by decide +kernel
theorem dX6_save_6 : decode cX6_save 6 = .ok (.getfield 12, 3) := by decide +kernel
theorem dX6_save_9 : decode cX6_save 9 = .ok (.invokevirtual 232, 3) := by decide +kernel
theorem dX6_save_12 : decode cX6_save 12 = .ok (.ireturn, 1) := by decide +kernel
theorem dX6_restore_0 : decode cX6_restore 0 = .ok (.aload_n 0, 1) := by decide +kernel
theorem dX6_restore_1 : decode cX6_restore 1 = .ok (.getfield 40, 3) := by decide +kernel
theorem dX6_restore_4 : decode cX6_restore 4 = .ok (.aload_n 0, 1) := by decide +kernel
theorem dX6_restore_5 : decode cX6_restore 5 = .ok (.getfield 12, 3) := by decide +kernel
theorem dX6_restore_8 : decode cX6_restore 8 = .ok (.invokevirtual 51, 3) := by decide +kernel
theorem dX6_restore_11 : decode cX6_restore 11 = .ok (.aload_n 0, 1) := by decide +kernel
theorem dX6_restore_12 : decode cX6_restore 12 = .ok (.aload_n 0, 1) := by decide +kernel
theorem dX6_restore_13 : decode cX6_restore 13 = .ok (.getfield 47, 3) := by decide +kernel
theorem dX6_restore_16 : decode cX6_restore 16 = .ok (.iload_n 1, 1) := by decide +kernel
theorem dX6_restore_17 : decode cX6_restore 17 = .ok (.aload_n 0, 1) := by decide +kernel
theorem dX6_restore_18 : decode cX6_restore 18 = .ok (.getfield 12, 3) := by decide +kernel
theorem dX6_restore_21 : decode cX6_restore 21 = .ok (.invokevirtual 235, 3) := by decide +kernel
theorem dX6_restore_24 : decode cX6_restore 24 = .ok (.invokevirtual 59, 3) := by decide +kernel
theorem dX6_restore_27 : decode cX6_restore 27 = .ok (.ireturn, 1) := by decide +kernel
theorem dX6_isWithin_0 : decode cX6_isWithin 0 = .ok (.iload_n 0, 1) := by decide +kernel
theorem dX6_isWithin_1 : decode cX6_isWithin 1 = .ok (.iload_n 1, 1) := by decide +kernel
theorem dX6_isWithin_2 : decode cX6_isWithin 2 = .ok (.if_icmp .lt 12, 3) := by decide +kernel
theorem dX6_isWithin_5 : decode cX6_isWithin 5 = .ok (.iload_n 0, 1) := by decide +kernel
theorem dX6_isWithin_6 : decode cX6_isWithin 6 = .ok (.iload_n 2, 1) := by decide +kernel
theorem dX6_isWithin_7 : decode cX6_isWithin 7 = .ok (.if_icmp .gt 7, 3) := by decide +kernel
theorem dX6_isWithin_10 : decode cX6_isWithin 10 = .ok (.iconst 1, 1) := by decide +kernel
theorem dX6_isWithin_11 : decode cX6_isWithin 11 = .ok (.goto 4, 3) := by decide +kernel
theorem dX6_isWithin_14 : decode cX6_isWithin 14 = .ok (.iconst 0, 1) := by decide +kernel
theorem dX6_isWithin_15 : decode cX6_isWithin 15 = .ok (.ireturn, 1) := by decide +kernel
theorem dX6_isTicks_0 : decode cX6_isTicks 0 = .ok (.iload_n 0, 1) := by decide +kernel
theorem dX6_isTicks_1 : decode cX6_isTicks 1 = .ok (.iconst 1, 1) := by decide +kernel
theorem dX6_isTicks_2 : decode cX6_isTicks 2 = .ok (.bipush 100, 2) := by decide +kernel
theorem dX6_isTicks_4 : decode cX6_isTicks 4 = .ok (.invokestatic 113, 3) := by decide +kernel
theorem dX6_isTicks_7 : decode cX6_isTicks 7 = .ok (.ireturn, 1) := by decide +kernel
theorem dX6_areBounds_0 : decode cX6_areBounds 0 = .ok (.iload_n 0, 1) := by decide +kernel
theorem dX6_areBounds_1 : decode cX6_areBounds 1 = .ok (.iconst 1, 1) := by decide +kernel
theorem dX6_areBounds_2 : decode cX6_areBounds 2 = .ok (.sipush 200, 3) := by decide +kernel
theorem dX6_areBounds_5 : decode cX6_areBounds 5 = .ok (.invokestatic 113, 3) := by decide +kernel
theorem dX6_areBounds_8 : decode cX6_areBounds 8 = .ok (.ifCond .eq 16, 3) := by decide +kernel
theorem dX6_areBounds_11 : decode cX6_areBounds 11 = .ok (.iload_n 1, 1) := by decide +kernel
theorem dX6_areBounds_12 : decode cX6_areBounds 12 = .ok (.iconst 1, 1) := by decide +kernel
theorem dX6_areBounds_13 : decode cX6_areBounds 13 = .ok (.iload_n 0, 1) := by decide +kernel
theorem dX6_areBounds_14 : decode cX6_areBounds 14 = .ok (.invokestatic 113, 3) := by decide +kernel
theorem dX6_areBounds_17 : decode cX6_areBounds 17 = .ok (.ifCond .eq 7, 3) := by decide +kernel
theorem dX6_areBounds_20 : decode cX6_areBounds 20 = .ok (.iconst 1, 1) := by decide +kernel
theorem dX6_areBounds_21 : decode cX6_areBounds 21 = .ok (.goto 4, 3) := by decide +kernel
theorem dX6_areBounds_24 : decode cX6_areBounds 24 = .ok (.iconst 0, 1) := by decide +kernel
theorem dX6_areBounds_25 : decode cX6_areBounds 25 = .ok (.ireturn, 1) := by decide +kernel
theorem dX7_init_0 : decode cX7_init 0 = .ok (.aload_n 0, 1) := by decide +kernel
theorem dX7_init_1 : decode cX7_init 1 = .ok (.invokespecial 1, 3) := by decide +kernel
theorem dX7_init_4 : decode cX7_init 4 = .ok (.aload_n 0, 1) := by decide +kernel
theorem dX7_init_5 : decode cX7_init 5 = .ok (.sipush 470, 3) := by decide +kernel
theorem dX7_init_8 : decode cX7_init 8 = .ok (.newarray .int, 2) := by decide +kernel
theorem dX7_init_10 : decode cX7_init 10 = .ok (.putfield 7, 3) := by decide +kernel
theorem dX7_init_13 : decode cX7_init 13 = .ok (.aload_n 0, 1) := by decide +kernel
theorem dX7_init_14 : decode cX7_init 14 = .ok (.sipush 470, 3) := by decide +kernel
theorem dX7_init_17 : decode cX7_init 17 = .ok (.newarray .int, 2) := by decide +kernel
theorem dX7_init_19 : decode cX7_init 19 = .ok (.putfield 13, 3) := by decide +kernel
theorem dX7_init_22 : decode cX7_init 22 = .ok (.aload_n 0, 1) := by decide +kernel
theorem dX7_init_23 : decode cX7_init 23 = .ok (.sipush 2820, 3) := by decide +kernel
theorem dX7_init_26 : decode cX7_init 26 = .ok (.newarray .int, 2) := by decide +kernel
theorem dX7_init_28 : decode cX7_init 28 = .ok (.putfield 16, 3) := by decide +kernel
theorem dX7_init_31 : decode cX7_init 31 = .ok (.aload_n 0, 1) := by decide +kernel
theorem dX7_init_32 : decode cX7_init 32 = .ok (.sipush 940, 3) := by decide +kernel
theorem dX7_init_35 : decode cX7_init 35 = .ok (.newarray .int, 2) := by decide +kernel
theorem dX7_init_37 : decode cX7_init 37 = .ok (.putfield 19, 3) := by decide +kernel
theorem dX7_init_40 : decode cX7_init 40 = .ok (.aload_n 0, 1) := by decide +kernel
theorem dX7_init_41 : decode cX7_init 41 = .ok (.iconst 2, 1) := by decide +kernel
theorem dX7_init_42 : decode cX7_init 42 = .ok (.newarray .boolean, 2) := by decide +kernel
theorem dX7_init_44 : decode cX7_init 44 = .ok (.putfield 22, 3) := by decide +kernel
theorem dX7_init_47 : decode cX7_init 47 = .ok (.aload_n 0, 1) := by decide +kernel
theorem dX7_init_48 : decode cX7_init 48 = .ok (.bipush 60, 2) := by decide +kernel
theorem dX7_init_50 : decode cX7_init 50 = .ok (.newarray .int, 2) := by decide +kernel
theorem dX7_init_52 : decode cX7_init 52 = .ok (.putfield 26, 3) := by decide +kernel
theorem dX7_init_55 : decode cX7_init 55 = .ok (.aload_n 0, 1) := by decide +kernel
theorem dX7_init_56 : decode cX7_init 56 = .ok (.bipush 80, 2) := by decide +kernel
theorem dX7_init_58 : decode cX7_init 58 = .ok (.newarray .int, 2) := by decide +kernel
theorem dX7_init_60 : decode cX7_init 60 = .ok (.putfield 29, 3) := by decide +kernel
theorem dX7_init_63 : decode cX7_init 63 = .ok (.aload_n 0, 1) := by decide +kernel
theorem dX7_init_64 : decode cX7_init 64 = .ok (.bipush 40, 2) := by decide +kernel
theorem dX7_init_66 : decode cX7_init 66 = .ok (.newarray .int, 2) := by decide +kernel
theorem dX7_init_68 : decode cX7_init 68 = .ok (.putfield 32, 3) := by decide +kernel
theorem dX7_init_71 : decode cX7_init 71 = .ok (.aload_n 0, 1) := by decide +kernel
theorem dX7_init_72 : decode cX7_init 72 = .ok (.sipush 150, 3) := by decide +kernel
theorem dX7_init_75 : decode cX7_init 75 = .ok (.newarray .int, 2) := by decide +kernel
theorem dX7_init_77 : decode cX7_init 77 = .ok (.putfield 35, 3) := by decide +kernel
theorem dX7_init_80 : decode cX7_init 80 = .ok (.aload_n 0, 1) := by decide +kernel
theorem dX7_init_81 : decode cX7_init 81 = .ok (.getfield 7, 3) := by decide +kernel
theorem dX7_init_84 : decode cX7_init 84 = .ok (.iconst 0, 1) := by decide +kernel
theorem dX7_init_85 : decode cX7_init 85 = .ok (.iconst 1, 1) := by decide +kernel
theorem dX7_init_86 : decode cX7_init 86 = .ok (.iastore, 1) := by decide +kernel
theorem dX7_init_87 : decode cX7_init 87 = .ok (.aload_n 0, 1) := by decide +kernel
theorem dX7_init_88 : decode cX7_init 88 = .ok (.getfield 7, 3) := by decide +kernel
theorem dX7_init_91 : decode cX7_init 91 = .ok (.iconst 1, 1) := by decide +kernel
theorem dX7_init_92 : decode cX7_init 92 = .ok (.iconst 1, 1) := by decide +kernel
theorem dX7_init_93 : decode cX7_init 93 = .ok (.iastore, 1) := by decide +kernel
theorem dX7_init_94 : decode cX7_init 94 = .ok (.return_, 1) := by decide +kernel
theorem dX7_in_0 : decode cX7_in 0 = .ok (.iload_n 0, 1) := by decide +kernel
theorem dX7_in_1 : decode cX7_in 1 = .ok (.iload_n 1, 1) := by decide +kernel
theorem dX7_in_2 : decode cX7_in 2 = .ok (.if_icmp .lt 12, 3) := by decide +kernel
theorem dX7_in_5 : decode cX7_in 5 = .ok (.iload_n 0, 1) := by decide +kernel
theorem dX7_in_6 : decode cX7_in 6 = .ok (.iload_n 2, 1) := by decide +kernel
theorem dX7_in_7 : decode cX7_in 7 = .ok (.if_icmp .gt 7, 3) := by decide +kernel
theorem dX7_in_10 : decode cX7_in 10 = .ok (.iconst 1, 1) := by decide +kernel
theorem dX7_in_11 : decode cX7_in 11 = .ok (.goto 4, 3) := by decide +kernel
theorem dX7_in_14 : decode cX7_in 14 = .ok (.iconst 0, 1) := by decide +kernel
theorem dX7_in_15 : decode cX7_in 15 = .ok (.ireturn, 1) := by decide +kernel
theorem dX7_record_0 : decode cX7_record 0 = .ok (.aload_n 0, 1) := by decide +kernel
theorem dX7_record_1 : decode cX7_record 1 = .ok (.getfield 38, 3) := by decide +kernel
theorem dX7_record_4 : decode cX7_record 4 = .ok (.ifCond .eq 4, 3) := by decide +kernel
theorem dX7_record_7 : decode cX7_record 7 = .ok (.return_, 1) := by decide +kernel
theorem dX7_record_8 : decode cX7_record 8 = .ok (.aload_n 0, 1) := by decide +kernel
theorem dX7_record_9 : decode cX7_record 9 = .ok (.getfield 42, 3) := by decide +kernel
theorem dX7_record_12 : decode cX7_record 12 = .ok (.bipush 6, 2) := by decide +kernel
theorem dX7_record_14 : decode cX7_record 14 = .ok (.if_icmp .ne 39, 3) := by decide +kernel
theorem dX7_record_17 : decode cX7_record 17 = .ok (.iconst 0, 1) := by decide +kernel
theorem dX7_record_18 : decode cX7_record 18 = .ok (.istore_n 1, 1) := by decide +kernel
theorem dX7_record_19 : decode cX7_record 19 = .ok (.iload_n 1, 1) := by decide +kernel
theorem dX7_record_20 : decode cX7_record 20 = .ok (.sipush 2350, 3) := by decide +kernel
theorem dX7_record_23 : decode cX7_record 23 = .ok (.if_icmp .ge 25, 3) := by decide +kernel
theorem dX7_record_26 : decode cX7_record 26 = .ok (.aload_n 0, 1) := by decide +kernel
theorem dX7_record_27 : decode cX7_record 27 = .ok (.getfield 16, 3) := by decide +kernel
theorem dX7_record_30 : decode cX7_record 30 = .ok (.iload_n 1, 1) := by decide +kernel
theorem dX7_record_31 : decode cX7_record 31 = .ok (.aload_n 0, 1) := by decide +kernel
theorem dX7_record_32 : decode cX7_record 32 = .ok (.getfield 16, 3) := by decide +kernel
theorem dX7_record_35 : decode cX7_record 35 = .ok (.iload_n 1, 1) := by decide +kernel
theorem dX7_record_36 : decode cX7_record 36 = .ok (.sipush 470, 3) := by decide +kernel
theorem dX7_record_39 : decode cX7_record 39 = .ok (.iadd, 1) := by decide +kernel
theorem dX7_record_40 : decode cX7_record 40 = .ok (.iaload, 1) := by decide +kernel
theorem dX7_record_41 : decode cX7_record 41 = .ok (.iastore, 1) := by decide +kernel
theorem dX7_record_42 : decode cX7_record 42 = .ok (.iinc 1 1, 3) := by decide +kernel
theorem dX7_record_45 : decode cX7_record 45 = .ok (.goto (-26), 3) := by decide +kernel
theorem dX7_record_48 : decode cX7_record 48 = .ok (.aload_n 0, 1) := by decide +kernel
theorem dX7_record_49 : decode cX7_record 49 = .ok (.iconst 5, 1) := by decide +kernel
theorem dX7_record_50 : decode cX7_record 50 = .ok (.putfield 42, 3) := by decide +kernel
theorem dX7_record_53 : decode cX7_record 53 = .ok (.iconst 0, 1) := by decide +kernel
theorem dX7_record_54 : decode cX7_record 54 = .ok (.istore_n 1, 1) := by decide +kernel
theorem dX7_record_55 : decode cX7_record 55 = .ok (.iload_n 1, 1) := by decide +kernel
theorem dX7_record_56 : decode cX7_record 56 = .ok (.sipush 470, 3) := by decide +kernel
theorem dX7_record_59 : decode cX7_record 59 = .ok (.if_icmp .ge 30, 3) := by decide +kernel
theorem dX7_record_62 : decode cX7_record 62 = .ok (.aload_n 0, 1) := by decide +kernel
theorem dX7_record_63 : decode cX7_record 63 = .ok (.getfield 16, 3) := by decide +kernel
theorem dX7_record_66 : decode cX7_record 66 = .ok (.aload_n 0, 1) := by decide +kernel
theorem dX7_record_67 : decode cX7_record 67 = .ok (.getfield 42, 3) := by decide +kernel
theorem dX7_record_70 : decode cX7_record 70 = .ok (.sipush 470, 3) := by decide +kernel
theorem dX7_record_73 : decode cX7_record 73 = .ok (.imul, 1) := by decide +kernel
theorem dX7_record_74 : decode cX7_record 74 = .ok (.iload_n 1, 1) := by decide +kernel
theorem dX7_record_75 : decode cX7_record 75 = .ok (.iadd, 1) := by decide +kernel
theorem dX7_record_76 : decode cX7_record 76 = .ok (.aload_n 0, 1) := by decide +kernel
theorem dX7_record_77 : decode cX7_record 77 = .ok (.getfield 7, 3) := by decide +kernel
theorem dX7_record_80 : decode cX7_record 80 = .ok (.iload_n 1, 1) := by decide +kernel
theorem dX7_record_81 : decode cX7_record 81 = .ok (.iaload, 1) := by decide +kernel
theorem dX7_record_82 : decode cX7_record 82 = .ok (.iastore, 1) := by decide +kernel
theorem dX7_record_83 : decode cX7_record 83 = .ok (.iinc 1 1, 3) := by decide +kernel
theorem dX7_record_86 : decode cX7_record 86 = .ok (.goto (-31), 3) := by decide +kernel
theorem dX7_record_89 : decode cX7_record 89 = .ok (.aload_n 0, 1) := by decide +kernel
theorem dX7_record_90 : decode cX7_record 90 = .ok (.dup, 1) := by decide +kernel
theorem dX7_record_91 : decode cX7_record 91 = .ok (.getfield 42, 3) := by decide +kernel
theorem dX7_record_94 : decode cX7_record 94 = .ok (.iconst 1, 1) := by decide +kernel
theorem dX7_record_95 : decode cX7_record 95 = .ok (.iadd, 1) := by decide +kernel
theorem dX7_record_96 : decode cX7_record 96 = .ok (.putfield 42, 3) := by decide +kernel
theorem dX7_record_99 : decode cX7_record 99 = .ok (.return_, 1) := by decide +kernel
theorem dX7_keep_0 : decode cX7_keep 0 = .ok (.iconst 0, 1) := by decide +kernel
theorem dX7_keep_1 : decode cX7_keep 1 = .ok (.istore_n 1, 1) := by decide +kernel
theorem dX7_keep_2 : decode cX7_keep 2 = .ok (.iload_n 1, 1) := by decide +kernel
theorem dX7_keep_3 : decode cX7_keep 3 = .ok (.sipush 470, 3) := by decide +kernel
theorem dX7_keep_6 : decode cX7_keep 6 = .ok (.if_icmp .ge 21, 3) := by decide +kernel
theorem dX7_keep_9 : decode cX7_keep 9 = .ok (.aload_n 0, 1) := by decide +kernel
theorem dX7_keep_10 : decode cX7_keep 10 = .ok (.getfield 13, 3) := by decide +kernel
theorem dX7_keep_13 : decode cX7_keep 13 = .ok (.iload_n 1, 1) := by decide +kernel
theorem dX7_keep_14 : decode cX7_keep 14 = .ok (.aload_n 0, 1) := by decide +kernel
theorem dX7_keep_15 : decode cX7_keep 15 = .ok (.getfield 7, 3) := by decide +kernel
theorem dX7_keep_18 : decode cX7_keep 18 = .ok (.iload_n 1, 1) := by decide +kernel
theorem dX7_keep_19 : decode cX7_keep 19 = .ok (.iaload, 1) := by decide +kernel
theorem dX7_keep_20 : decode cX7_keep 20 = .ok (.iastore, 1) := by decide +kernel
theorem dX7_keep_21 : decode cX7_keep 21 = .ok (.iinc 1 1, 3) := by decide +kernel
theorem dX7_keep_24 : decode cX7_keep 24 = .ok (.goto (-22), 3) := by decide +kernel
theorem dX7_keep_27 : decode cX7_keep 27 = .ok (.return_, 1) := by decide +kernel
theorem dX7_comeBack_0 : decode cX7_comeBack 0 = .ok (.iconst 0, 1) := by decide +kernel
theorem dX7_comeBack_1 : decode cX7_comeBack 1 = .ok (.istore_n 1, 1) := by decide +kernel
theorem dX7_comeBack_2 : decode cX7_comeBack 2 = .ok (.iload_n 1, 1) := by decide +kernel
theorem dX7_comeBack_3 : decode cX7_comeBack 3 = .ok (.sipush 470, 3) := by decide +kernel
theorem dX7_comeBack_6 : decode cX7_comeBack 6 = .ok (.if_icmp .ge 21, 3) := by decide +kernel
theorem dX7_comeBack_9 : decode cX7_comeBack 9 = .ok (.aload_n 0, 1) := by decide +kernel
theorem dX7_comeBack_10 : decode cX7_comeBack 10 = .ok (.getfield 7, 3) := by decide +kernel
theorem dX7_comeBack_13 : decode cX7_comeBack 13 = .ok (.iload_n 1, 1) := by decide +kernel
theorem dX7_comeBack_14 : decode cX7_comeBack 14 = .ok (.aload_n 0, 1) := by decide +kernel
theorem dX7_comeBack_15 : decode cX7_comeBack 15 = .ok (.getfield 13, 3) := by decide +kernel
theorem dX7_comeBack_18 : decode cX7_comeBack 18 = .ok (.iload_n 1, 1) := by decide +kernel
theorem dX7_comeBack_19 : decode cX7_comeBack 19 = .ok (.iaload, 1) := by decide +kernel
theorem dX7_comeBack_20 : decode cX7_comeBack 20 = .ok (.iastore, 1) := by decide +kernel
theorem dX7_comeBack_21 : decode cX7_comeBack 21 = .ok (.iinc 1 1, 3) := by decide +kernel
theorem dX7_comeBack_24 : decode cX7_comeBack 24 = .ok (.goto (-22), 3) := by decide +kernel
theorem dX7_comeBack_27 : decode cX7_comeBack 27 = .ok (.return_, 1) := by decide +kernel
theorem dX7_ofC_0 : decode cX7_ofC 0 = .ok (.aload_n 0, 1) := by decide +kernel
theorem dX7_ofC_1 : decode cX7_ofC 1 = .ok (.getfield 7, 3) := by decide +kernel
theorem dX7_ofC_4 : decode cX7_ofC 4 = .ok (.bipush 70, 2) := by decide +kernel
theorem dX7_ofC_6 : decode cX7_ofC 6 = .ok (.bipush 10, 2) := by decide +kernel
theorem dX7_ofC_8 : decode cX7_ofC 8 = .ok (.iload_n 1, 1) := by decide +kernel
theorem dX7_ofC_9 : decode cX7_ofC 9 = .ok (.imul, 1) := by decide +kernel
theorem dX7_ofC_10 : decode cX7_ofC 10 = .ok (.iadd, 1) := by decide +kernel
theorem dX7_ofC_11 : decode cX7_ofC 11 = .ok (.iload_n 2, 1) := by decide +kernel
theorem dX7_ofC_12 : decode cX7_ofC 12 = .ok (.iadd, 1) := by decide +kernel
theorem dX7_ofC_13 : decode cX7_ofC 13 = .ok (.iaload, 1) := by decide +kernel
theorem dX7_ofC_14 : decode cX7_ofC 14 = .ok (.ireturn, 1) := by decide +kernel
theorem dX7_bookC_0 : decode cX7_bookC 0 = .ok (.aload_n 0, 1) := by decide +kernel
theorem dX7_bookC_1 : decode cX7_bookC 1 = .ok (.getfield 7, 3) := by decide +kernel
theorem dX7_bookC_4 : decode cX7_bookC 4 = .ok (.bipush 70, 2) := by decide +kernel
theorem dX7_bookC_6 : decode cX7_bookC 6 = .ok (.bipush 10, 2) := by decide +kernel
theorem dX7_bookC_8 : decode cX7_bookC 8 = .ok (.iload_n 1, 1) := by decide +kernel
theorem dX7_bookC_9 : decode cX7_bookC 9 = .ok (.imul, 1) := by decide +kernel
theorem dX7_bookC_10 : decode cX7_bookC 10 = .ok (.iadd, 1) := by decide +kernel
theorem dX7_bookC_11 : decode cX7_bookC 11 = .ok (.iload_n 2, 1) := by decide +kernel
theorem dX7_bookC_12 : decode cX7_bookC 12 = .ok (.iadd, 1) := by decide +kernel
theorem dX7_bookC_13 : decode cX7_bookC 13 = .ok (.iload_n 3, 1) := by decide +kernel
theorem dX7_bookC_14 : decode cX7_bookC 14 = .ok (.iastore, 1) := by decide +kernel
theorem dX7_bookC_15 : decode cX7_bookC 15 = .ok (.return_, 1) := by decide +kernel
theorem dX7_ofL_0 : decode cX7_ofL 0 = .ok (.aload_n 0, 1) := by decide +kernel
theorem dX7_ofL_1 : decode cX7_ofL 1 = .ok (.getfield 7, 3) := by decide +kernel
theorem dX7_ofL_4 : decode cX7_ofL 4 = .ok (.bipush 10, 2) := by decide +kernel
theorem dX7_ofL_6 : decode cX7_ofL 6 = .ok (.bipush 10, 2) := by decide +kernel
theorem dX7_ofL_8 : decode cX7_ofL 8 = .ok (.iload_n 1, 1) := by decide +kernel
theorem dX7_ofL_9 : decode cX7_ofL 9 = .ok (.imul, 1) := by decide +kernel
theorem dX7_ofL_10 : decode cX7_ofL 10 = .ok (.iadd, 1) := by decide +kernel
theorem dX7_ofL_11 : decode cX7_ofL 11 = .ok (.iload_n 2, 1) := by decide +kernel
theorem dX7_ofL_12 : decode cX7_ofL 12 = .ok (.iadd, 1) := by decide +kernel
theorem dX7_ofL_13 : decode cX7_ofL 13 = .ok (.iaload, 1) := by decide +kernel
theorem dX7_ofL_14 : decode cX7_ofL 14 = .ok (.ireturn, 1) := by decide +kernel
theorem dX7_bookL_0 : decode cX7_bookL 0 = .ok (.aload_n 0, 1) := by decide +kernel
theorem dX7_bookL_1 : decode cX7_bookL 1 = .ok (.getfield 7, 3) := by decide +kernel
theorem dX7_bookL_4 : decode cX7_bookL 4 = .ok (.bipush 10, 2) := by decide +kernel
theorem dX7_bookL_6 : decode cX7_bookL 6 = .ok (.bipush 10, 2) := by decide +kernel
theorem dX7_bookL_8 : decode cX7_bookL 8 = .ok (.iload_n 1, 1) := by decide +kernel
theorem dX7_bookL_9 : decode cX7_bookL 9 = .ok (.imul, 1) := by decide +kernel
theorem dX7_bookL_10 : decode cX7_bookL 10 = .ok (.iadd, 1) := by decide +kernel
theorem dX7_bookL_11 : decode cX7_bookL 11 = .ok (.iload_n 2, 1) := by decide +kernel
theorem dX7_bookL_12 : decode cX7_bookL 12 = .ok (.iadd, 1) := by decide +kernel
theorem dX7_bookL_13 : decode cX7_bookL 13 = .ok (.iload_n 3, 1) := by decide +kernel
theorem dX7_bookL_14 : decode cX7_bookL 14 = .ok (.iastore, 1) := by decide +kernel
theorem dX7_bookL_15 : decode cX7_bookL 15 = .ok (.return_, 1) := by decide +kernel
theorem dX7_isOn_0 : decode cX7_isOn 0 = .ok (.aload_n 0, 1) := by decide +kernel
theorem dX7_isOn_1 : decode cX7_isOn 1 = .ok (.iload_n 1, 1) := by decide +kernel
theorem dX7_isOn_2 : decode cX7_isOn 2 = .ok (.iconst 5, 1) := by decide +kernel
theorem dX7_isOn_3 : decode cX7_isOn 3 = .ok (.invokevirtual 46, 3) := by decide +kernel
theorem dX7_isOn_6 : decode cX7_isOn 6 = .ok (.ifCond .ne 7, 3) := by decide +kernel
theorem dX7_isOn_9 : decode cX7_isOn 9 = .ok (.iconst 1, 1) := by decide +kernel
theorem dX7_isOn_10 : decode cX7_isOn 10 = .ok (.goto 4, 3) := by decide +kernel
theorem dX7_isOn_13 : decode cX7_isOn 13 = .ok (.iconst 0, 1) := by decide +kernel
theorem dX7_isOn_14 : decode cX7_isOn 14 = .ok (.ireturn, 1) := by decide +kernel
theorem dX7_lastCell_0 : decode cX7_lastCell 0 = .ok (.aload_n 0, 1) := by decide +kernel
theorem dX7_lastCell_1 : decode cX7_lastCell 1 = .ok (.iload_n 1, 1) := by decide +kernel
theorem dX7_lastCell_2 : decode cX7_lastCell 2 = .ok (.iconst 1, 1) := by decide +kernel
theorem dX7_lastCell_3 : decode cX7_lastCell 3 = .ok (.invokevirtual 46, 3) := by decide +kernel
theorem dX7_lastCell_6 : decode cX7_lastCell 6 = .ok (.aload_n 0, 1) := by decide +kernel
theorem dX7_lastCell_7 : decode cX7_lastCell 7 = .ok (.iload_n 1, 1) := by decide +kernel
theorem dX7_lastCell_8 : decode cX7_lastCell 8 = .ok (.iconst 2, 1) := by decide +kernel
theorem dX7_lastCell_9 : decode cX7_lastCell 9 = .ok (.invokevirtual 46, 3) := by decide +kernel
theorem dX7_lastCell_12 : decode cX7_lastCell 12 = .ok (.isub, 1) := by decide +kernel
theorem dX7_lastCell_13 : decode cX7_lastCell 13 = .ok (.iconst 1, 1) := by decide +kernel
theorem dX7_lastCell_14 : decode cX7_lastCell 14 = .ok (.iadd, 1) := by decide +kernel
theorem dX7_lastCell_15 : decode cX7_lastCell 15 = .ok (.ireturn, 1) := by decide +kernel
theorem dX7_mark_0 : decode cX7_mark 0 = .ok (.aload_n 0, 1) := by decide +kernel
theorem dX7_mark_1 : decode cX7_mark 1 = .ok (.iload_n 1, 1) := by decide +kernel
theorem dX7_mark_2 : decode cX7_mark 2 = .ok (.invokevirtual 50, 3) := by decide +kernel
theorem dX7_mark_5 : decode cX7_mark 5 = .ok (.istore_n 3, 1) := by decide +kernel
theorem dX7_mark_6 : decode cX7_mark 6 = .ok (.iload_n 3, 1) := by decide +kernel
theorem dX7_mark_7 : decode cX7_mark 7 = .ok (.aload_n 0, 1) := by decide +kernel
theorem dX7_mark_8 : decode cX7_mark 8 = .ok (.iload_n 1, 1) := by decide +kernel
theorem dX7_mark_9 : decode cX7_mark 9 = .ok (.iconst 1, 1) := by decide +kernel
theorem dX7_mark_10 : decode cX7_mark 10 = .ok (.invokevirtual 46, 3) := by decide +kernel
theorem dX7_mark_13 : decode cX7_mark 13 = .ok (.if_icmp .gt 36, 3) := by decide +kernel
theorem dX7_mark_16 : decode cX7_mark 16 = .ok (.iload_n 3, 1) := by decide +kernel
theorem dX7_mark_17 : decode cX7_mark 17 = .ok (.iconst 0, 1) := by decide +kernel
theorem dX7_mark_18 : decode cX7_mark 18 = .ok (.bipush 39, 2) := by decide +kernel
theorem dX7_mark_20 : decode cX7_mark 20 = .ok (.invokestatic 54, 3) := by decide +kernel
theorem dX7_mark_23 : decode cX7_mark 23 = .ok (.ifCond .eq 20, 3) := by decide +kernel
theorem dX7_mark_26 : decode cX7_mark 26 = .ok (.aload_n 0, 1) := by decide +kernel
theorem dX7_mark_27 : decode cX7_mark 27 = .ok (.getfield 29, 3) := by decide +kernel
theorem dX7_mark_30 : decode cX7_mark 30 = .ok (.bipush 40, 2) := by decide +kernel
theorem dX7_mark_32 : decode cX7_mark 32 = .ok (.aload_n 0, 1) := by decide +kernel
theorem dX7_mark_33 : decode cX7_mark 33 = .ok (.iload_n 1, 1) := by decide +kernel
theorem dX7_mark_34 : decode cX7_mark 34 = .ok (.iconst 0, 1) := by decide +kernel
theorem dX7_mark_35 : decode cX7_mark 35 = .ok (.invokevirtual 46, 3) := by decide +kernel
theorem dX7_mark_38 : decode cX7_mark 38 = .ok (.imul, 1) := by decide +kernel
theorem dX7_mark_39 : decode cX7_mark 39 = .ok (.iload_n 3, 1) := by decide +kernel
theorem dX7_mark_40 : decode cX7_mark 40 = .ok (.iadd, 1) := by decide +kernel
theorem dX7_mark_41 : decode cX7_mark 41 = .ok (.iload_n 2, 1) := by decide +kernel
theorem dX7_mark_42 : decode cX7_mark 42 = .ok (.iastore, 1) := by decide +kernel
theorem dX7_mark_43 : decode cX7_mark 43 = .ok (.iinc 3 1, 3) := by decide +kernel
theorem dX7_mark_46 : decode cX7_mark 46 = .ok (.goto (-40), 3) := by decide +kernel
theorem dX7_mark_49 : decode cX7_mark 49 = .ok (.return_, 1) := by decide +kernel
theorem dX7_layCells_0 : decode cX7_layCells 0 = .ok (.iconst 0, 1) := by decide +kernel
theorem dX7_layCells_1 : decode cX7_layCells 1 = .ok (.istore_n 1, 1) := by decide +kernel
theorem dX7_layCells_2 : decode cX7_layCells 2 = .ok (.iload_n 1, 1) := by decide +kernel
theorem dX7_layCells_3 : decode cX7_layCells 3 = .ok (.bipush 80, 2) := by decide +kernel
theorem dX7_layCells_5 : decode cX7_layCells 5 = .ok (.if_icmp .ge 17, 3) := by decide +kernel
theorem dX7_layCells_8 : decode cX7_layCells 8 = .ok (.aload_n 0, 1) := by decide +kernel
theorem dX7_layCells_9 : decode cX7_layCells 9 = .ok (.getfield 29, 3) := by decide +kernel
theorem dX7_layCells_12 : decode cX7_layCells 12 = .ok (.iload_n 1, 1) := by decide +kernel
theorem dX7_layCells_13 : decode cX7_layCells 13 = .ok (.bipush (-6), 2) := by decide +kernel
theorem dX7_layCells_15 : decode cX7_layCells 15 = .ok (.iastore, 1) := by decide +kernel
theorem dX7_layCells_16 : decode cX7_layCells 16 = .ok (.iinc 1 1, 3) := by decide +kernel
theorem dX7_layCells_19 : decode cX7_layCells 19 = .ok (.goto (-17), 3) := by decide +kernel
theorem dX7_layCells_22 : decode cX7_layCells 22 = .ok (.iconst 0, 1) := by decide +kernel
theorem dX7_layCells_23 : decode cX7_layCells 23 = .ok (.istore_n 1, 1) := by decide +kernel
theorem dX7_layCells_24 : decode cX7_layCells 24 = .ok (.iload_n 1, 1) := by decide +kernel
theorem dX7_layCells_25 : decode cX7_layCells 25 = .ok (.aload_n 0, 1) := by decide +kernel
theorem dX7_layCells_26 : decode cX7_layCells 26 = .ok (.getfield 7, 3) := by decide +kernel
theorem dX7_layCells_29 : decode cX7_layCells 29 = .ok (.iconst 4, 1) := by decide +kernel
theorem dX7_layCells_30 : decode cX7_layCells 30 = .ok (.iaload, 1) := by decide +kernel
theorem dX7_layCells_31 : decode cX7_layCells 31 = .ok (.if_icmp .ge 23, 3) := by decide +kernel
theorem dX7_layCells_34 : decode cX7_layCells 34 = .ok (.aload_n 0, 1) := by decide +kernel
theorem dX7_layCells_35 : decode cX7_layCells 35 = .ok (.iload_n 1, 1) := by decide +kernel
theorem dX7_layCells_36 : decode cX7_layCells 36 = .ok (.invokevirtual 58, 3) := by decide +kernel
theorem dX7_layCells_39 : decode cX7_layCells 39 = .ok (.ifCond .eq 9, 3) := by decide +kernel
theorem dX7_layCells_42 : decode cX7_layCells 42 = .ok (.aload_n 0, 1) := by decide +kernel
theorem dX7_layCells_43 : decode cX7_layCells 43 = .ok (.iload_n 1, 1) := by decide +kernel
theorem dX7_layCells_44 : decode cX7_layCells 44 = .ok (.iload_n 1, 1) := by decide +kernel
theorem dX7_layCells_45 : decode cX7_layCells 45 = .ok (.invokevirtual 62, 3) := by decide +kernel
theorem dX7_layCells_48 : decode cX7_layCells 48 = .ok (.iinc 1 1, 3) := by decide +kernel
theorem dX7_layCells_51 : decode cX7_layCells 51 = .ok (.goto (-27), 3) := by decide +kernel
theorem dX7_layCells_54 : decode cX7_layCells 54 = .ok (.return_, 1) := by decide +kernel
theorem dX7_isFree_0 : decode cX7_isFree 0 = .ok (.iload_n 2, 1) := by decide +kernel
theorem dX7_isFree_1 : decode cX7_isFree 1 = .ok (.iconst 0, 1) := by decide +kernel
theorem dX7_isFree_2 : decode cX7_isFree 2 = .ok (.bipush 39, 2) := by decide +kernel
theorem dX7_isFree_4 : decode cX7_isFree 4 = .ok (.invokestatic 54, 3) := by decide +kernel
theorem dX7_isFree_7 : decode cX7_isFree 7 = .ok (.ifCond .eq 17, 3) := by decide +kernel
theorem dX7_isFree_10 : decode cX7_isFree 10 = .ok (.aload_n 0, 1) := by decide +kernel
theorem dX7_isFree_11 : decode cX7_isFree 11 = .ok (.getfield 29, 3) := by decide +kernel
theorem dX7_isFree_14 : decode cX7_isFree 14 = .ok (.bipush 40, 2) := by decide +kernel
theorem dX7_isFree_16 : decode cX7_isFree 16 = .ok (.iload_n 1, 1) := by decide +kernel
theorem dX7_isFree_17 : decode cX7_isFree 17 = .ok (.imul, 1) := by decide +kernel
theorem dX7_isFree_18 : decode cX7_isFree 18 = .ok (.iload_n 2, 1) := by decide +kernel
theorem dX7_isFree_19 : decode cX7_isFree 19 = .ok (.iadd, 1) := by decide +kernel
theorem dX7_isFree_20 : decode cX7_isFree 20 = .ok (.iaload, 1) := by decide +kernel
theorem dX7_isFree_21 : decode cX7_isFree 21 = .ok (.ifCond .ge 7, 3) := by decide +kernel
theorem dX7_isFree_24 : decode cX7_isFree 24 = .ok (.iconst 1, 1) := by decide +kernel
theorem dX7_isFree_25 : decode cX7_isFree 25 = .ok (.goto 4, 3) := by decide +kernel
theorem dX7_isFree_28 : decode cX7_isFree 28 = .ok (.iconst 0, 1) := by decide +kernel
theorem dX7_isFree_29 : decode cX7_isFree 29 = .ok (.ireturn, 1) := by decide +kernel
theorem dX7_canChange_0 : decode cX7_canChange 0 = .ok (.aload_n 0, 1) := by decide +kernel
theorem dX7_canChange_1 : decode cX7_canChange 1 = .ok (.iload_n 1, 1) := by decide +kernel
theorem dX7_canChange_2 : decode cX7_canChange 2 = .ok (.bipush 6, 2) := by decide +kernel
theorem dX7_canChange_4 : decode cX7_canChange 4 = .ok (.invokevirtual 46, 3) := by decide +kernel
theorem dX7_canChange_7 : decode cX7_canChange 7 = .ok (.iconst 1, 1) := by decide +kernel
theorem dX7_canChange_8 : decode cX7_canChange 8 = .ok (.if_icmp .ne 7, 3) := by decide +kernel
theorem dX7_canChange_11 : decode cX7_canChange 11 = .ok (.iconst 1, 1) := by decide +kernel
theorem dX7_canChange_12 : decode cX7_canChange 12 = .ok (.goto 4, 3) := by decide +kernel
theorem dX7_canChange_15 : decode cX7_canChange 15 = .ok (.iconst 0, 1) := by decide +kernel
theorem dX7_canChange_16 : decode cX7_canChange 16 = .ok (.istore_n 2, 1) := by decide +kernel
theorem dX7_canChange_17 : decode cX7_canChange 17 = .ok (.aload_n 0, 1) := by decide +kernel
theorem dX7_canChange_18 : decode cX7_canChange 18 = .ok (.iload_n 1, 1) := by decide +kernel
theorem dX7_canChange_19 : decode cX7_canChange 19 = .ok (.invokevirtual 50, 3) := by decide +kernel
theorem dX7_canChange_22 : decode cX7_canChange 22 = .ok (.istore_n 3, 1) := by decide +kernel
theorem dX7_canChange_23 : decode cX7_canChange 23 = .ok (.iload_n 3, 1) := by decide +kernel
theorem dX7_canChange_24 : decode cX7_canChange 24 = .ok (.aload_n 0, 1) := by decide +kernel
theorem dX7_canChange_25 : decode cX7_canChange 25 = .ok (.iload_n 1, 1) := by decide +kernel
theorem dX7_canChange_26 : decode cX7_canChange 26 = .ok (.iconst 1, 1) := by decide +kernel
theorem dX7_canChange_27 : decode cX7_canChange 27 = .ok (.invokevirtual 46, 3) := by decide +kernel
theorem dX7_canChange_30 : decode cX7_canChange 30 = .ok (.if_icmp .gt 35, 3) := by decide +kernel
theorem dX7_canChange_33 : decode cX7_canChange 33 = .ok (.iload_n 2, 1) := by decide +kernel
theorem dX7_canChange_34 : decode cX7_canChange 34 = .ok (.ifCond .eq 23, 3) := by decide +kernel
theorem dX7_canChange_37 : decode cX7_canChange 37 = .ok (.aload_n 0, 1) := by decide +kernel
theorem dX7_canChange_38 : decode cX7_canChange 38 = .ok (.iconst 1, 1) := by decide +kernel
theorem dX7_canChange_39 : decode cX7_canChange 39 = .ok (.aload_n 0, 1) := by decide +kernel
theorem dX7_canChange_40 : decode cX7_canChange 40 = .ok (.iload_n 1, 1) := by decide +kernel
theorem dX7_canChange_41 : decode cX7_canChange 41 = .ok (.iconst 0, 1) := by decide +kernel
theorem dX7_canChange_42 : decode cX7_canChange 42 = .ok (.invokevirtual 46, 3) := by decide +kernel
theorem dX7_canChange_45 : decode cX7_canChange 45 = .ok (.isub, 1) := by decide +kernel
theorem dX7_canChange_46 : decode cX7_canChange 46 = .ok (.iload_n 3, 1) := by decide +kernel
theorem dX7_canChange_47 : decode cX7_canChange 47 = .ok (.invokevirtual 66, 3) := by decide +kernel
theorem dX7_canChange_50 : decode cX7_canChange 50 = .ok (.ifCond .eq 7, 3) := by decide +kernel
theorem dX7_canChange_53 : decode cX7_canChange 53 = .ok (.iconst 1, 1) := by decide +kernel
theorem dX7_canChange_54 : decode cX7_canChange 54 = .ok (.goto 4, 3) := by decide +kernel
theorem dX7_canChange_57 : decode cX7_canChange 57 = .ok (.iconst 0, 1) := by decide +kernel
theorem dX7_canChange_58 : decode cX7_canChange 58 = .ok (.istore_n 2, 1) := by decide +kernel
theorem dX7_canChange_59 : decode cX7_canChange 59 = .ok (.iinc 3 1, 3) := by decide +kernel
theorem dX7_canChange_62 : decode cX7_canChange 62 = .ok (.goto (-39), 3) := by decide +kernel
theorem dX7_canChange_65 : decode cX7_canChange 65 = .ok (.iload_n 2, 1) := by decide +kernel
theorem dX7_canChange_66 : decode cX7_canChange 66 = .ok (.ireturn, 1) := by decide +kernel
theorem dX7_move_0 : decode cX7_move 0 = .ok (.aload_n 0, 1) := by decide +kernel
theorem dX7_move_1 : decode cX7_move 1 = .ok (.iload_n 1, 1) := by decide +kernel
theorem dX7_move_2 : decode cX7_move 2 = .ok (.invokevirtual 70, 3) := by decide +kernel
theorem dX7_move_5 : decode cX7_move 5 = .ok (.istore_n 2, 1) := by decide +kernel
theorem dX7_move_6 : decode cX7_move 6 = .ok (.aload_n 0, 1) := by decide +kernel
theorem dX7_move_7 : decode cX7_move 7 = .ok (.iload_n 1, 1) := by decide +kernel
theorem dX7_move_8 : decode cX7_move 8 = .ok (.iconst 0, 1) := by decide +kernel
theorem dX7_move_9 : decode cX7_move 9 = .ok (.invokevirtual 46, 3) := by decide +kernel
theorem dX7_move_12 : decode cX7_move 12 = .ok (.istore_n 3, 1) := by decide +kernel
theorem dX7_move_13 : decode cX7_move 13 = .ok (.aload_n 0, 1) := by decide +kernel
theorem dX7_move_14 : decode cX7_move 14 = .ok (.iload_n 1, 1) := by decide +kernel
theorem dX7_move_15 : decode cX7_move 15 = .ok (.bipush (-6), 2) := by decide +kernel
theorem dX7_move_17 : decode cX7_move 17 = .ok (.invokevirtual 62, 3) := by decide +kernel
theorem dX7_move_20 : decode cX7_move 20 = .ok (.iload_n 2, 1) := by decide +kernel
theorem dX7_move_21 : decode cX7_move 21 = .ok (.ifCond .eq 39, 3) := by decide +kernel
theorem dX7_move_24 : decode cX7_move 24 = .ok (.aload_n 0, 1) := by decide +kernel
theorem dX7_move_25 : decode cX7_move 25 = .ok (.iload_n 1, 1) := by decide +kernel
theorem dX7_move_26 : decode cX7_move 26 = .ok (.iconst 0, 1) := by decide +kernel
theorem dX7_move_27 : decode cX7_move 27 = .ok (.iconst 1, 1) := by decide +kernel
theorem dX7_move_28 : decode cX7_move 28 = .ok (.iload_n 3, 1) := by decide +kernel
theorem dX7_move_29 : decode cX7_move 29 = .ok (.isub, 1) := by decide +kernel
theorem dX7_move_30 : decode cX7_move 30 = .ok (.invokevirtual 73, 3) := by decide +kernel
theorem dX7_move_33 : decode cX7_move 33 = .ok (.aload_n 0, 1) := by decide +kernel
theorem dX7_move_34 : decode cX7_move 34 = .ok (.iload_n 1, 1) := by decide +kernel
theorem dX7_move_35 : decode cX7_move 35 = .ok (.bipush 6, 2) := by decide +kernel
theorem dX7_move_37 : decode cX7_move 37 = .ok (.iconst 0, 1) := by decide +kernel
theorem dX7_move_38 : decode cX7_move 38 = .ok (.invokevirtual 73, 3) := by decide +kernel
theorem dX7_move_41 : decode cX7_move 41 = .ok (.aload_n 0, 1) := by decide +kernel
theorem dX7_move_42 : decode cX7_move 42 = .ok (.iload_n 1, 1) := by decide +kernel
theorem dX7_move_43 : decode cX7_move 43 = .ok (.bipush 7, 2) := by decide +kernel
theorem dX7_move_45 : decode cX7_move 45 = .ok (.aload_n 0, 1) := by decide +kernel
theorem dX7_move_46 : decode cX7_move 46 = .ok (.iload_n 1, 1) := by decide +kernel
theorem dX7_move_47 : decode cX7_move 47 = .ok (.bipush 7, 2) := by decide +kernel
theorem dX7_move_49 : decode cX7_move 49 = .ok (.invokevirtual 46, 3) := by decide +kernel
theorem dX7_move_52 : decode cX7_move 52 = .ok (.iconst 1, 1) := by decide +kernel
theorem dX7_move_53 : decode cX7_move 53 = .ok (.iadd, 1) := by decide +kernel
theorem dX7_move_54 : decode cX7_move 54 = .ok (.invokevirtual 73, 3) := by decide +kernel
theorem dX7_move_57 : decode cX7_move 57 = .ok (.goto 123, 3) := by decide +kernel
theorem dX7_move_60 : decode cX7_move 60 = .ok (.iconst 0, 1) := by decide +kernel
theorem dX7_move_61 : decode cX7_move 61 = .ok (.istore 4, 2) := by decide +kernel
theorem dX7_move_63 : decode cX7_move 63 = .ok (.iload 4, 2) := by decide +kernel
theorem dX7_move_65 : decode cX7_move 65 = .ok (.aload_n 0, 1) := by decide +kernel
theorem dX7_move_66 : decode cX7_move 66 = .ok (.iload_n 1, 1) := by decide +kernel
theorem dX7_move_67 : decode cX7_move 67 = .ok (.iconst 3, 1) := by decide +kernel
theorem dX7_move_68 : decode cX7_move 68 = .ok (.invokevirtual 46, 3) := by decide +kernel
theorem dX7_move_71 : decode cX7_move 71 = .ok (.if_icmp .ge 49, 3) := by decide +kernel
theorem dX7_move_74 : decode cX7_move 74 = .ok (.aload_n 0, 1) := by decide +kernel
theorem dX7_move_75 : decode cX7_move 75 = .ok (.iload_n 1, 1) := by decide +kernel
theorem dX7_move_76 : decode cX7_move 76 = .ok (.invokevirtual 50, 3) := by decide +kernel
theorem dX7_move_79 : decode cX7_move 79 = .ok (.bipush 40, 2) := by decide +kernel
theorem dX7_move_81 : decode cX7_move 81 = .ok (.if_icmp .ge 39, 3) := by decide +kernel
theorem dX7_move_84 : decode cX7_move 84 = .ok (.aload_n 0, 1) := by decide +kernel
theorem dX7_move_85 : decode cX7_move 85 = .ok (.iload_n 3, 1) := by decide +kernel
theorem dX7_move_86 : decode cX7_move 86 = .ok (.aload_n 0, 1) := by decide +kernel
theorem dX7_move_87 : decode cX7_move 87 = .ok (.iload_n 1, 1) := by decide +kernel
theorem dX7_move_88 : decode cX7_move 88 = .ok (.iconst 1, 1) := by decide +kernel
theorem dX7_move_89 : decode cX7_move 89 = .ok (.invokevirtual 46, 3) := by decide +kernel
theorem dX7_move_92 : decode cX7_move 92 = .ok (.iconst 1, 1) := by decide +kernel
theorem dX7_move_93 : decode cX7_move 93 = .ok (.iadd, 1) := by decide +kernel
theorem dX7_move_94 : decode cX7_move 94 = .ok (.invokevirtual 66, 3) := by decide +kernel
theorem dX7_move_97 : decode cX7_move 97 = .ok (.ifCond .eq 23, 3) := by decide +kernel
theorem dX7_move_100 : decode cX7_move 100 = .ok (.aload_n 0, 1) := by decide +kernel
theorem dX7_move_101 : decode cX7_move 101 = .ok (.iload_n 1, 1) := by decide +kernel
theorem dX7_move_102 : decode cX7_move 102 = .ok (.iconst 1, 1) := by decide +kernel
theorem dX7_move_103 : decode cX7_move 103 = .ok (.aload_n 0, 1) := by decide +kernel
theorem dX7_move_104 : decode cX7_move 104 = .ok (.iload_n 1, 1) := by decide +kernel
theorem dX7_move_105 : decode cX7_move 105 = .ok (.iconst 1, 1) := by decide +kernel
theorem dX7_move_106 : decode cX7_move 106 = .ok (.invokevirtual 46, 3) := by decide +kernel
theorem dX7_move_109 : decode cX7_move 109 = .ok (.iconst 1, 1) := by decide +kernel
theorem dX7_move_110 : decode cX7_move 110 = .ok (.iadd, 1) := by decide +kernel
theorem dX7_move_111 : decode cX7_move 111 = .ok (.invokevirtual 73, 3) := by decide +kernel
theorem dX7_move_114 : decode cX7_move 114 = .ok (.iinc 4 1, 3) := by decide +kernel
theorem dX7_move_117 : decode cX7_move 117 = .ok (.goto (-54), 3) := by decide +kernel
theorem dX7_move_120 : decode cX7_move 120 = .ok (.aload_n 0, 1) := by decide +kernel
theorem dX7_move_121 : decode cX7_move 121 = .ok (.iload_n 1, 1) := by decide +kernel
theorem dX7_move_122 : decode cX7_move 122 = .ok (.iconst 5, 1) := by decide +kernel
theorem dX7_move_123 : decode cX7_move 123 = .ok (.aload_n 0, 1) := by decide +kernel
theorem dX7_move_124 : decode cX7_move 124 = .ok (.iload_n 1, 1) := by decide +kernel
theorem dX7_move_125 : decode cX7_move 125 = .ok (.invokevirtual 50, 3) := by decide +kernel
theorem dX7_move_128 : decode cX7_move 128 = .ok (.bipush 39, 2) := by decide +kernel
theorem dX7_move_130 : decode cX7_move 130 = .ok (.if_icmp .le 7, 3) := by decide +kernel
theorem dX7_move_133 : decode cX7_move 133 = .ok (.iconst 1, 1) := by decide +kernel
theorem dX7_move_134 : decode cX7_move 134 = .ok (.goto 4, 3) := by decide +kernel
theorem dX7_move_137 : decode cX7_move 137 = .ok (.iconst 0, 1) := by decide +kernel
theorem dX7_move_138 : decode cX7_move 138 = .ok (.invokevirtual 73, 3) := by decide +kernel
theorem dX7_move_141 : decode cX7_move 141 = .ok (.aload_n 0, 1) := by decide +kernel
theorem dX7_move_142 : decode cX7_move 142 = .ok (.iload_n 1, 1) := by decide +kernel
theorem dX7_move_143 : decode cX7_move 143 = .ok (.bipush 8, 2) := by decide +kernel
theorem dX7_move_145 : decode cX7_move 145 = .ok (.aload_n 0, 1) := by decide +kernel
theorem dX7_move_146 : decode cX7_move 146 = .ok (.iload_n 1, 1) := by decide +kernel
theorem dX7_move_147 : decode cX7_move 147 = .ok (.bipush 8, 2) := by decide +kernel
theorem dX7_move_149 : decode cX7_move 149 = .ok (.invokevirtual 46, 3) := by decide +kernel
theorem dX7_move_152 : decode cX7_move 152 = .ok (.iload 4, 2) := by decide +kernel
theorem dX7_move_154 : decode cX7_move 154 = .ok (.aload_n 0, 1) := by decide +kernel
theorem dX7_move_155 : decode cX7_move 155 = .ok (.iload_n 1, 1) := by decide +kernel
theorem dX7_move_156 : decode cX7_move 156 = .ok (.iconst 3, 1) := by decide +kernel
theorem dX7_move_157 : decode cX7_move 157 = .ok (.invokevirtual 46, 3) := by decide +kernel
theorem dX7_move_160 : decode cX7_move 160 = .ok (.if_icmp .ge 15, 3) := by decide +kernel
theorem dX7_move_163 : decode cX7_move 163 = .ok (.aload_n 0, 1) := by decide +kernel
theorem dX7_move_164 : decode cX7_move 164 = .ok (.iload_n 1, 1) := by decide +kernel
theorem dX7_move_165 : decode cX7_move 165 = .ok (.invokevirtual 58, 3) := by decide +kernel
theorem dX7_move_168 : decode cX7_move 168 = .ok (.ifCond .eq 7, 3) := by decide +kernel
theorem dX7_move_171 : decode cX7_move 171 = .ok (.iconst 1, 1) := by decide +kernel
theorem dX7_move_172 : decode cX7_move 172 = .ok (.goto 4, 3) := by decide +kernel
theorem dX7_move_175 : decode cX7_move 175 = .ok (.iconst 0, 1) := by decide +kernel
theorem dX7_move_176 : decode cX7_move 176 = .ok (.iadd, 1) := by decide +kernel
theorem dX7_move_177 : decode cX7_move 177 = .ok (.invokevirtual 73, 3) := by decide +kernel
theorem dX7_move_180 : decode cX7_move 180 = .ok (.aload_n 0, 1) := by decide +kernel
theorem dX7_move_181 : decode cX7_move 181 = .ok (.iload_n 1, 1) := by decide +kernel
theorem dX7_move_182 : decode cX7_move 182 = .ok (.invokevirtual 58, 3) := by decide +kernel
theorem dX7_move_185 : decode cX7_move 185 = .ok (.ifCond .eq 9, 3) := by decide +kernel
theorem dX7_move_188 : decode cX7_move 188 = .ok (.aload_n 0, 1) := by decide +kernel
theorem dX7_move_189 : decode cX7_move 189 = .ok (.iload_n 1, 1) := by decide +kernel
theorem dX7_move_190 : decode cX7_move 190 = .ok (.iload_n 1, 1) := by decide +kernel
theorem dX7_move_191 : decode cX7_move 191 = .ok (.invokevirtual 62, 3) := by decide +kernel
theorem dX7_move_194 : decode cX7_move 194 = .ok (.return_, 1) := by decide +kernel
theorem dX7_moveAll_0 : decode cX7_moveAll 0 = .ok (.iconst 0, 1) := by decide +kernel
theorem dX7_moveAll_1 : decode cX7_moveAll 1 = .ok (.istore_n 1, 1) := by decide +kernel
theorem dX7_moveAll_2 : decode cX7_moveAll 2 = .ok (.iconst 0, 1) := by decide +kernel
theorem dX7_moveAll_3 : decode cX7_moveAll 3 = .ok (.istore_n 2, 1) := by decide +kernel
theorem dX7_moveAll_4 : decode cX7_moveAll 4 = .ok (.iload_n 2, 1) := by decide +kernel
theorem dX7_moveAll_5 : decode cX7_moveAll 5 = .ok (.aload_n 0, 1) := by decide +kernel
theorem dX7_moveAll_6 : decode cX7_moveAll 6 = .ok (.getfield 7, 3) := by decide +kernel
theorem dX7_moveAll_9 : decode cX7_moveAll 9 = .ok (.iconst 4, 1) := by decide +kernel
theorem dX7_moveAll_10 : decode cX7_moveAll 10 = .ok (.iaload, 1) := by decide +kernel
theorem dX7_moveAll_11 : decode cX7_moveAll 11 = .ok (.if_icmp .ge 75, 3) := by decide +kernel
theorem dX7_moveAll_14 : decode cX7_moveAll 14 = .ok (.aload_n 0, 1) := by decide +kernel
theorem dX7_moveAll_15 : decode cX7_moveAll 15 = .ok (.iload_n 2, 1) := by decide +kernel
theorem dX7_moveAll_16 : decode cX7_moveAll 16 = .ok (.invokevirtual 58, 3) := by decide +kernel
theorem dX7_moveAll_19 : decode cX7_moveAll 19 = .ok (.ifCond .eq 61, 3) := by decide +kernel
theorem dX7_moveAll_22 : decode cX7_moveAll 22 = .ok (.iload_n 1, 1) := by decide +kernel
theorem dX7_moveAll_23 : decode cX7_moveAll 23 = .ok (.istore_n 3, 1) := by decide +kernel
theorem dX7_moveAll_24 : decode cX7_moveAll 24 = .ok (.iload_n 3, 1) := by decide +kernel
theorem dX7_moveAll_25 : decode cX7_moveAll 25 = .ok (.ifCond .le 45, 3) := by decide +kernel
theorem dX7_moveAll_28 : decode cX7_moveAll 28 = .ok (.aload_n 0, 1) := by decide +kernel
theorem dX7_moveAll_29 : decode cX7_moveAll 29 = .ok (.aload_n 0, 1) := by decide +kernel
theorem dX7_moveAll_30 : decode cX7_moveAll 30 = .ok (.getfield 32, 3) := by decide +kernel
theorem dX7_moveAll_33 : decode cX7_moveAll 33 = .ok (.iload_n 3, 1) := by decide +kernel
theorem dX7_moveAll_34 : decode cX7_moveAll 34 = .ok (.iconst 1, 1) := by decide +kernel
theorem dX7_moveAll_35 : decode cX7_moveAll 35 = .ok (.isub, 1) := by decide +kernel
theorem dX7_moveAll_36 : decode cX7_moveAll 36 = .ok (.iaload, 1) := by decide +kernel
theorem dX7_moveAll_37 : decode cX7_moveAll 37 = .ok (.iconst 1, 1) := by decide +kernel
theorem dX7_moveAll_38 : decode cX7_moveAll 38 = .ok (.invokevirtual 46, 3) := by decide +kernel
theorem dX7_moveAll_41 : decode cX7_moveAll 41 = .ok (.aload_n 0, 1) := by decide +kernel
theorem dX7_moveAll_42 : decode cX7_moveAll 42 = .ok (.iload_n 2, 1) := by decide +kernel
theorem dX7_moveAll_43 : decode cX7_moveAll 43 = .ok (.iconst 1, 1) := by decide +kernel
theorem dX7_moveAll_44 : decode cX7_moveAll 44 = .ok (.invokevirtual 46, 3) := by decide +kernel
theorem dX7_moveAll_47 : decode cX7_moveAll 47 = .ok (.if_icmp .ge 23, 3) := by decide +kernel
theorem dX7_moveAll_50 : decode cX7_moveAll 50 = .ok (.aload_n 0, 1) := by decide +kernel
theorem dX7_moveAll_51 : decode cX7_moveAll 51 = .ok (.getfield 32, 3) := by decide +kernel
theorem dX7_moveAll_54 : decode cX7_moveAll 54 = .ok (.iload_n 3, 1) := by decide +kernel
theorem dX7_moveAll_55 : decode cX7_moveAll 55 = .ok (.aload_n 0, 1) := by decide +kernel
theorem dX7_moveAll_56 : decode cX7_moveAll 56 = .ok (.getfield 32, 3) := by decide +kernel
theorem dX7_moveAll_59 : decode cX7_moveAll 59 = .ok (.iload_n 3, 1) := by decide +kernel
theorem dX7_moveAll_60 : decode cX7_moveAll 60 = .ok (.iconst 1, 1) := by decide +kernel
theorem dX7_moveAll_61 : decode cX7_moveAll 61 = .ok (.isub, 1) := by decide +kernel
theorem dX7_moveAll_62 : decode cX7_moveAll 62 = .ok (.iaload, 1) := by decide +kernel
theorem dX7_moveAll_63 : decode cX7_moveAll 63 = .ok (.iastore, 1) := by decide +kernel
theorem dX7_moveAll_64 : decode cX7_moveAll 64 = .ok (.iinc 3 (-1), 3) := by decide +kernel
theorem dX7_moveAll_67 : decode cX7_moveAll 67 = .ok (.goto (-43), 3) := by decide +kernel
theorem dX7_moveAll_70 : decode cX7_moveAll 70 = .ok (.aload_n 0, 1) := by decide +kernel
theorem dX7_moveAll_71 : decode cX7_moveAll 71 = .ok (.getfield 32, 3) := by decide +kernel
theorem dX7_moveAll_74 : decode cX7_moveAll 74 = .ok (.iload_n 3, 1) := by decide +kernel
theorem dX7_moveAll_75 : decode cX7_moveAll 75 = .ok (.iload_n 2, 1) := by decide +kernel
theorem dX7_moveAll_76 : decode cX7_moveAll 76 = .ok (.iastore, 1) := by decide +kernel
theorem dX7_moveAll_77 : decode cX7_moveAll 77 = .ok (.iinc 1 1, 3) := by decide +kernel
theorem dX7_moveAll_80 : decode cX7_moveAll 80 = .ok (.iinc 2 1, 3) := by decide +kernel
theorem dX7_moveAll_83 : decode cX7_moveAll 83 = .ok (.goto (-79), 3) := by decide +kernel
theorem dX7_moveAll_86 : decode cX7_moveAll 86 = .ok (.aload_n 0, 1) := by decide +kernel
theorem dX7_moveAll_87 : decode cX7_moveAll 87 = .ok (.invokevirtual 77, 3) := by decide +kernel
theorem dX7_moveAll_90 : decode cX7_moveAll 90 = .ok (.iconst 0, 1) := by decide +kernel
theorem dX7_moveAll_91 : decode cX7_moveAll 91 = .ok (.istore_n 2, 1) := by decide +kernel
theorem dX7_moveAll_92 : decode cX7_moveAll 92 = .ok (.iload_n 2, 1) := by decide +kernel
theorem dX7_moveAll_93 : decode cX7_moveAll 93 = .ok (.iload_n 1, 1) := by decide +kernel
theorem dX7_moveAll_94 : decode cX7_moveAll 94 = .ok (.if_icmp .ge 19, 3) := by decide +kernel
theorem dX7_moveAll_97 : decode cX7_moveAll 97 = .ok (.aload_n 0, 1) := by decide +kernel
theorem dX7_moveAll_98 : decode cX7_moveAll 98 = .ok (.aload_n 0, 1) := by decide +kernel
theorem dX7_moveAll_99 : decode cX7_moveAll 99 = .ok (.getfield 32, 3) := by decide +kernel
theorem dX7_moveAll_102 : decode cX7_moveAll 102 = .ok (.iload_n 2, 1) := by decide +kernel
theorem dX7_moveAll_103 : decode cX7_moveAll 103 = .ok (.iaload, 1) := by decide +kernel
theorem dX7_moveAll_104 : decode cX7_moveAll 104 = .ok (.invokevirtual 80, 3) := by decide +kernel
theorem dX7_moveAll_107 : decode cX7_moveAll 107 = .ok (.iinc 2 1, 3) := by decide +kernel
theorem dX7_moveAll_110 : decode cX7_moveAll 110 = .ok (.goto (-18), 3) := by decide +kernel
theorem dX7_moveAll_113 : decode cX7_moveAll 113 = .ok (.return_, 1) := by decide +kernel
theorem dX7_isOver_0 : decode cX7_isOver 0 = .ok (.aload_n 0, 1) := by decide +kernel
theorem dX7_isOver_1 : decode cX7_isOver 1 = .ok (.iload_n 2, 1) := by decide +kernel
theorem dX7_isOver_2 : decode cX7_isOver 2 = .ok (.iconst 1, 1) := by decide +kernel
theorem dX7_isOver_3 : decode cX7_isOver 3 = .ok (.invokevirtual 84, 3) := by decide +kernel
theorem dX7_isOver_6 : decode cX7_isOver 6 = .ok (.istore_n 3, 1) := by decide +kernel
theorem dX7_isOver_7 : decode cX7_isOver 7 = .ok (.iload_n 3, 1) := by decide +kernel
theorem dX7_isOver_8 : decode cX7_isOver 8 = .ok (.aload_n 0, 1) := by decide +kernel
theorem dX7_isOver_9 : decode cX7_isOver 9 = .ok (.iload_n 2, 1) := by decide +kernel
theorem dX7_isOver_10 : decode cX7_isOver 10 = .ok (.iconst 2, 1) := by decide +kernel
theorem dX7_isOver_11 : decode cX7_isOver 11 = .ok (.invokevirtual 84, 3) := by decide +kernel
theorem dX7_isOver_14 : decode cX7_isOver 14 = .ok (.iadd, 1) := by decide +kernel
theorem dX7_isOver_15 : decode cX7_isOver 15 = .ok (.iconst 1, 1) := by decide +kernel
theorem dX7_isOver_16 : decode cX7_isOver 16 = .ok (.isub, 1) := by decide +kernel
theorem dX7_isOver_17 : decode cX7_isOver 17 = .ok (.istore 4, 2) := by decide +kernel
theorem dX7_isOver_19 : decode cX7_isOver 19 = .ok (.aload_n 0, 1) := by decide +kernel
theorem dX7_isOver_20 : decode cX7_isOver 20 = .ok (.iload_n 1, 1) := by decide +kernel
theorem dX7_isOver_21 : decode cX7_isOver 21 = .ok (.invokevirtual 58, 3) := by decide +kernel
theorem dX7_isOver_24 : decode cX7_isOver 24 = .ok (.ifCond .eq 42, 3) := by decide +kernel
theorem dX7_isOver_27 : decode cX7_isOver 27 = .ok (.aload_n 0, 1) := by decide +kernel
theorem dX7_isOver_28 : decode cX7_isOver 28 = .ok (.iload_n 1, 1) := by decide +kernel
theorem dX7_isOver_29 : decode cX7_isOver 29 = .ok (.iconst 0, 1) := by decide +kernel
theorem dX7_isOver_30 : decode cX7_isOver 30 = .ok (.invokevirtual 46, 3) := by decide +kernel
theorem dX7_isOver_33 : decode cX7_isOver 33 = .ok (.aload_n 0, 1) := by decide +kernel
theorem dX7_isOver_34 : decode cX7_isOver 34 = .ok (.iload_n 2, 1) := by decide +kernel
theorem dX7_isOver_35 : decode cX7_isOver 35 = .ok (.iconst 0, 1) := by decide +kernel
theorem dX7_isOver_36 : decode cX7_isOver 36 = .ok (.invokevirtual 84, 3) := by decide +kernel
theorem dX7_isOver_39 : decode cX7_isOver 39 = .ok (.if_icmp .ne 27, 3) := by decide +kernel
theorem dX7_isOver_42 : decode cX7_isOver 42 = .ok (.aload_n 0, 1) := by decide +kernel
theorem dX7_isOver_43 : decode cX7_isOver 43 = .ok (.iload_n 1, 1) := by decide +kernel
theorem dX7_isOver_44 : decode cX7_isOver 44 = .ok (.iconst 1, 1) := by decide +kernel
theorem dX7_isOver_45 : decode cX7_isOver 45 = .ok (.invokevirtual 46, 3) := by decide +kernel
theorem dX7_isOver_48 : decode cX7_isOver 48 = .ok (.iload_n 3, 1) := by decide +kernel
theorem dX7_isOver_49 : decode cX7_isOver 49 = .ok (.if_icmp .lt 17, 3) := by decide +kernel
theorem dX7_isOver_52 : decode cX7_isOver 52 = .ok (.aload_n 0, 1) := by decide +kernel
theorem dX7_isOver_53 : decode cX7_isOver 53 = .ok (.iload_n 1, 1) := by decide +kernel
theorem dX7_isOver_54 : decode cX7_isOver 54 = .ok (.invokevirtual 50, 3) := by decide +kernel
theorem dX7_isOver_57 : decode cX7_isOver 57 = .ok (.iload 4, 2) := by decide +kernel
theorem dX7_isOver_59 : decode cX7_isOver 59 = .ok (.if_icmp .gt 7, 3) := by decide +kernel
theorem dX7_isOver_62 : decode cX7_isOver 62 = .ok (.iconst 1, 1) := by decide +kernel
theorem dX7_isOver_63 : decode cX7_isOver 63 = .ok (.goto 4, 3) := by decide +kernel
theorem dX7_isOver_66 : decode cX7_isOver 66 = .ok (.iconst 0, 1) := by decide +kernel
theorem dX7_isOver_67 : decode cX7_isOver 67 = .ok (.ireturn, 1) := by decide +kernel
theorem dX7_overBy_0 : decode cX7_overBy 0 = .ok (.iconst 0, 1) := by decide +kernel
theorem dX7_overBy_1 : decode cX7_overBy 1 = .ok (.istore_n 2, 1) := by decide +kernel
theorem dX7_overBy_2 : decode cX7_overBy 2 = .ok (.iconst 0, 1) := by decide +kernel
theorem dX7_overBy_3 : decode cX7_overBy 3 = .ok (.istore_n 3, 1) := by decide +kernel
theorem dX7_overBy_4 : decode cX7_overBy 4 = .ok (.iload_n 3, 1) := by decide +kernel
theorem dX7_overBy_5 : decode cX7_overBy 5 = .ok (.aload_n 0, 1) := by decide +kernel
theorem dX7_overBy_6 : decode cX7_overBy 6 = .ok (.getfield 7, 3) := by decide +kernel
theorem dX7_overBy_9 : decode cX7_overBy 9 = .ok (.iconst 3, 1) := by decide +kernel
theorem dX7_overBy_10 : decode cX7_overBy 10 = .ok (.iaload, 1) := by decide +kernel
theorem dX7_overBy_11 : decode cX7_overBy 11 = .ok (.if_icmp .ge 28, 3) := by decide +kernel
theorem dX7_overBy_14 : decode cX7_overBy 14 = .ok (.iload_n 2, 1) := by decide +kernel
theorem dX7_overBy_15 : decode cX7_overBy 15 = .ok (.aload_n 0, 1) := by decide +kernel
theorem dX7_overBy_16 : decode cX7_overBy 16 = .ok (.iload_n 1, 1) := by decide +kernel
theorem dX7_overBy_17 : decode cX7_overBy 17 = .ok (.iload_n 3, 1) := by decide +kernel
theorem dX7_overBy_18 : decode cX7_overBy 18 = .ok (.invokevirtual 87, 3) := by decide +kernel
theorem dX7_overBy_21 : decode cX7_overBy 21 = .ok (.ifCond .eq 9, 3) := by decide +kernel
theorem dX7_overBy_24 : decode cX7_overBy 24 = .ok (.iconst 1, 1) := by decide +kernel
theorem dX7_overBy_25 : decode cX7_overBy 25 = .ok (.iload_n 3, 1) := by decide +kernel
theorem dX7_overBy_26 : decode cX7_overBy 26 = .ok (.ishl, 1) := by decide +kernel
theorem dX7_overBy_27 : decode cX7_overBy 27 = .ok (.goto 4, 3) := by decide +kernel
theorem dX7_overBy_30 : decode cX7_overBy 30 = .ok (.iconst 0, 1) := by decide +kernel
theorem dX7_overBy_31 : decode cX7_overBy 31 = .ok (.ior, 1) := by decide +kernel
theorem dX7_overBy_32 : decode cX7_overBy 32 = .ok (.istore_n 2, 1) := by decide +kernel
theorem dX7_overBy_33 : decode cX7_overBy 33 = .ok (.iinc 3 1, 3) := by decide +kernel
theorem dX7_overBy_36 : decode cX7_overBy 36 = .ok (.goto (-32), 3) := by decide +kernel
theorem dX7_overBy_39 : decode cX7_overBy 39 = .ok (.iload_n 2, 1) := by decide +kernel
theorem dX7_overBy_40 : decode cX7_overBy 40 = .ok (.ireturn, 1) := by decide +kernel
theorem dX7_passAll_0 : decode cX7_passAll 0 = .ok (.iconst 0, 1) := by decide +kernel
theorem dX7_passAll_1 : decode cX7_passAll 1 = .ok (.istore_n 1, 1) := by decide +kernel
theorem dX7_passAll_2 : decode cX7_passAll 2 = .ok (.iload_n 1, 1) := by decide +kernel
theorem dX7_passAll_3 : decode cX7_passAll 3 = .ok (.aload_n 0, 1) := by decide +kernel
theorem dX7_passAll_4 : decode cX7_passAll 4 = .ok (.getfield 7, 3) := by decide +kernel
theorem dX7_passAll_7 : decode cX7_passAll 7 = .ok (.iconst 4, 1) := by decide +kernel
theorem dX7_passAll_8 : decode cX7_passAll 8 = .ok (.iaload, 1) := by decide +kernel
theorem dX7_passAll_9 : decode cX7_passAll 9 = .ok (.if_icmp .ge 73, 3) := by decide +kernel
theorem dX7_passAll_12 : decode cX7_passAll 12 = .ok (.aload_n 0, 1) := by decide +kernel
theorem dX7_passAll_13 : decode cX7_passAll 13 = .ok (.iload_n 1, 1) := by decide +kernel
theorem dX7_passAll_14 : decode cX7_passAll 14 = .ok (.invokevirtual 90, 3) := by decide +kernel
theorem dX7_passAll_17 : decode cX7_passAll 17 = .ok (.istore_n 2, 1) := by decide +kernel
theorem dX7_passAll_18 : decode cX7_passAll 18 = .ok (.iconst 0, 1) := by decide +kernel
theorem dX7_passAll_19 : decode cX7_passAll 19 = .ok (.istore_n 3, 1) := by decide +kernel
theorem dX7_passAll_20 : decode cX7_passAll 20 = .ok (.iload_n 3, 1) := by decide +kernel
theorem dX7_passAll_21 : decode cX7_passAll 21 = .ok (.aload_n 0, 1) := by decide +kernel
theorem dX7_passAll_22 : decode cX7_passAll 22 = .ok (.getfield 7, 3) := by decide +kernel
theorem dX7_passAll_25 : decode cX7_passAll 25 = .ok (.iconst 3, 1) := by decide +kernel
theorem dX7_passAll_26 : decode cX7_passAll 26 = .ok (.iaload, 1) := by decide +kernel
theorem dX7_passAll_27 : decode cX7_passAll 27 = .ok (.if_icmp .ge 41, 3) := by decide +kernel
theorem dX7_passAll_30 : decode cX7_passAll 30 = .ok (.aload_n 0, 1) := by decide +kernel
theorem dX7_passAll_31 : decode cX7_passAll 31 = .ok (.iload_n 3, 1) := by decide +kernel
theorem dX7_passAll_32 : decode cX7_passAll 32 = .ok (.bipush 7, 2) := by decide +kernel
theorem dX7_passAll_34 : decode cX7_passAll 34 = .ok (.aload_n 0, 1) := by decide +kernel
theorem dX7_passAll_35 : decode cX7_passAll 35 = .ok (.iload_n 3, 1) := by decide +kernel
theorem dX7_passAll_36 : decode cX7_passAll 36 = .ok (.bipush 7, 2) := by decide +kernel
theorem dX7_passAll_38 : decode cX7_passAll 38 = .ok (.invokevirtual 84, 3) := by decide +kernel
theorem dX7_passAll_41 : decode cX7_passAll 41 = .ok (.iload_n 2, 1) := by decide +kernel
theorem dX7_passAll_42 : decode cX7_passAll 42 = .ok (.iload_n 3, 1) := by decide +kernel
theorem dX7_passAll_43 : decode cX7_passAll 43 = .ok (.ishr, 1) := by decide +kernel
theorem dX7_passAll_44 : decode cX7_passAll 44 = .ok (.aload_n 0, 1) := by decide +kernel
theorem dX7_passAll_45 : decode cX7_passAll 45 = .ok (.iload_n 1, 1) := by decide +kernel
theorem dX7_passAll_46 : decode cX7_passAll 46 = .ok (.bipush 9, 2) := by decide +kernel
theorem dX7_passAll_48 : decode cX7_passAll 48 = .ok (.invokevirtual 46, 3) := by decide +kernel
theorem dX7_passAll_51 : decode cX7_passAll 51 = .ok (.iload_n 3, 1) := by decide +kernel
theorem dX7_passAll_52 : decode cX7_passAll 52 = .ok (.ishr, 1) := by decide +kernel
theorem dX7_passAll_53 : decode cX7_passAll 53 = .ok (.iconst (-1), 1) := by decide +kernel
theorem dX7_passAll_54 : decode cX7_passAll 54 = .ok (.ixor, 1) := by decide +kernel
theorem dX7_passAll_55 : decode cX7_passAll 55 = .ok (.iand, 1) := by decide +kernel
theorem dX7_passAll_56 : decode cX7_passAll 56 = .ok (.iconst 1, 1) := by decide +kernel
theorem dX7_passAll_57 : decode cX7_passAll 57 = .ok (.iand, 1) := by decide +kernel
theorem dX7_passAll_58 : decode cX7_passAll 58 = .ok (.iadd, 1) := by decide +kernel
theorem dX7_passAll_59 : decode cX7_passAll 59 = .ok (.invokevirtual 93, 3) := by decide +kernel
theorem dX7_passAll_62 : decode cX7_passAll 62 = .ok (.iinc 3 1, 3) := by decide +kernel
theorem dX7_passAll_65 : decode cX7_passAll 65 = .ok (.goto (-45), 3) := by decide +kernel
theorem dX7_passAll_68 : decode cX7_passAll 68 = .ok (.aload_n 0, 1) := by decide +kernel
theorem dX7_passAll_69 : decode cX7_passAll 69 = .ok (.iload_n 1, 1) := by decide +kernel
theorem dX7_passAll_70 : decode cX7_passAll 70 = .ok (.bipush 9, 2) := by decide +kernel
theorem dX7_passAll_72 : decode cX7_passAll 72 = .ok (.iload_n 2, 1) := by decide +kernel
theorem dX7_passAll_73 : decode cX7_passAll 73 = .ok (.invokevirtual 73, 3) := by decide +kernel
theorem dX7_passAll_76 : decode cX7_passAll 76 = .ok (.iinc 1 1, 3) := by decide +kernel
theorem dX7_passAll_79 : decode cX7_passAll 79 = .ok (.goto (-77), 3) := by decide +kernel
theorem dX7_passAll_82 : decode cX7_passAll 82 = .ok (.return_, 1) := by decide +kernel
theorem dX7_metal_0 : decode cX7_metal 0 = .ok (.iconst 0, 1) := by decide +kernel
theorem dX7_metal_1 : decode cX7_metal 1 = .ok (.istore_n 3, 1) := by decide +kernel
theorem dX7_metal_2 : decode cX7_metal 2 = .ok (.aload_n 0, 1) := by decide +kernel
theorem dX7_metal_3 : decode cX7_metal 3 = .ok (.iload_n 1, 1) := by decide +kernel
theorem dX7_metal_4 : decode cX7_metal 4 = .ok (.iconst 1, 1) := by decide +kernel
theorem dX7_metal_5 : decode cX7_metal 5 = .ok (.invokevirtual 84, 3) := by decide +kernel
theorem dX7_metal_8 : decode cX7_metal 8 = .ok (.istore 4, 2) := by decide +kernel
theorem dX7_metal_10 : decode cX7_metal 10 = .ok (.iload 4, 2) := by decide +kernel
theorem dX7_metal_12 : decode cX7_metal 12 = .ok (.aload_n 0, 1) := by decide +kernel
theorem dX7_metal_13 : decode cX7_metal 13 = .ok (.iload_n 1, 1) := by decide +kernel
theorem dX7_metal_14 : decode cX7_metal 14 = .ok (.iconst 1, 1) := by decide +kernel
theorem dX7_metal_15 : decode cX7_metal 15 = .ok (.invokevirtual 84, 3) := by decide +kernel
theorem dX7_metal_18 : decode cX7_metal 18 = .ok (.aload_n 0, 1) := by decide +kernel
theorem dX7_metal_19 : decode cX7_metal 19 = .ok (.iload_n 1, 1) := by decide +kernel
theorem dX7_metal_20 : decode cX7_metal 20 = .ok (.iconst 2, 1) := by decide +kernel
theorem dX7_metal_21 : decode cX7_metal 21 = .ok (.invokevirtual 84, 3) := by decide +kernel
theorem dX7_metal_24 : decode cX7_metal 24 = .ok (.iadd, 1) := by decide +kernel
theorem dX7_metal_25 : decode cX7_metal 25 = .ok (.if_icmp .ge 42, 3) := by decide +kernel
theorem dX7_metal_28 : decode cX7_metal 28 = .ok (.aload_n 0, 1) := by decide +kernel
theorem dX7_metal_29 : decode cX7_metal 29 = .ok (.getfield 29, 3) := by decide +kernel
theorem dX7_metal_32 : decode cX7_metal 32 = .ok (.bipush 40, 2) := by decide +kernel
theorem dX7_metal_34 : decode cX7_metal 34 = .ok (.iload_n 2, 1) := by decide +kernel
theorem dX7_metal_35 : decode cX7_metal 35 = .ok (.imul, 1) := by decide +kernel
theorem dX7_metal_36 : decode cX7_metal 36 = .ok (.iload 4, 2) := by decide +kernel
theorem dX7_metal_38 : decode cX7_metal 38 = .ok (.iadd, 1) := by decide +kernel
theorem dX7_metal_39 : decode cX7_metal 39 = .ok (.iaload, 1) := by decide +kernel
theorem dX7_metal_40 : decode cX7_metal 40 = .ok (.istore 5, 2) := by decide +kernel
theorem dX7_metal_42 : decode cX7_metal 42 = .ok (.iload_n 3, 1) := by decide +kernel
theorem dX7_metal_43 : decode cX7_metal 43 = .ok (.iload 5, 2) := by decide +kernel
theorem dX7_metal_45 : decode cX7_metal 45 = .ok (.ifCond .ge 7, 3) := by decide +kernel
theorem dX7_metal_48 : decode cX7_metal 48 = .ok (.iconst 0, 1) := by decide +kernel
theorem dX7_metal_49 : decode cX7_metal 49 = .ok (.goto 10, 3) := by decide +kernel
theorem dX7_metal_52 : decode cX7_metal 52 = .ok (.aload_n 0, 1) := by decide +kernel
theorem dX7_metal_53 : decode cX7_metal 53 = .ok (.iload 5, 2) := by decide +kernel
theorem dX7_metal_55 : decode cX7_metal 55 = .ok (.iconst 4, 1) := by decide +kernel
theorem dX7_metal_56 : decode cX7_metal 56 = .ok (.invokevirtual 46, 3) := by decide +kernel
theorem dX7_metal_59 : decode cX7_metal 59 = .ok (.iadd, 1) := by decide +kernel
theorem dX7_metal_60 : decode cX7_metal 60 = .ok (.istore_n 3, 1) := by decide +kernel
theorem dX7_metal_61 : decode cX7_metal 61 = .ok (.iinc 4 1, 3) := by decide +kernel
theorem dX7_metal_64 : decode cX7_metal 64 = .ok (.goto (-54), 3) := by decide +kernel
theorem dX7_metal_67 : decode cX7_metal 67 = .ok (.iload_n 3, 1) := by decide +kernel
theorem dX7_metal_68 : decode cX7_metal 68 = .ok (.ireturn, 1) := by decide +kernel
theorem dX7_strength_0 : decode cX7_strength 0 = .ok (.aload_n 0, 1) := by decide +kernel
theorem dX7_strength_1 : decode cX7_strength 1 = .ok (.iload_n 1, 1) := by decide +kernel
theorem dX7_strength_2 : decode cX7_strength 2 = .ok (.iconst 0, 1) := by decide +kernel
theorem dX7_strength_3 : decode cX7_strength 3 = .ok (.invokevirtual 84, 3) := by decide +kernel
theorem dX7_strength_6 : decode cX7_strength 6 = .ok (.istore_n 2, 1) := by decide +kernel
theorem dX7_strength_7 : decode cX7_strength 7 = .ok (.iconst 4, 1) := by decide +kernel
theorem dX7_strength_8 : decode cX7_strength 8 = .ok (.aload_n 0, 1) := by decide +kernel
theorem dX7_strength_9 : decode cX7_strength 9 = .ok (.iload_n 1, 1) := by decide +kernel
theorem dX7_strength_10 : decode cX7_strength 10 = .ok (.iload_n 2, 1) := by decide +kernel
theorem dX7_strength_11 : decode cX7_strength 11 = .ok (.invokevirtual 96, 3) := by decide +kernel
theorem dX7_strength_14 : decode cX7_strength 14 = .ok (.imul, 1) := by decide +kernel
theorem dX7_strength_15 : decode cX7_strength 15 = .ok (.aload_n 0, 1) := by decide +kernel
theorem dX7_strength_16 : decode cX7_strength 16 = .ok (.getfield 7, 3) := by decide +kernel
theorem dX7_strength_19 : decode cX7_strength 19 = .ok (.iconst 0, 1) := by decide +kernel
theorem dX7_strength_20 : decode cX7_strength 20 = .ok (.iaload, 1) := by decide +kernel
theorem dX7_strength_21 : decode cX7_strength 21 = .ok (.aload_n 0, 1) := by decide +kernel
theorem dX7_strength_22 : decode cX7_strength 22 = .ok (.iload_n 1, 1) := by decide +kernel
theorem dX7_strength_23 : decode cX7_strength 23 = .ok (.iconst 1, 1) := by decide +kernel
theorem dX7_strength_24 : decode cX7_strength 24 = .ok (.iload_n 2, 1) := by decide +kernel
theorem dX7_strength_25 : decode cX7_strength 25 = .ok (.isub, 1) := by decide +kernel
theorem dX7_strength_26 : decode cX7_strength 26 = .ok (.invokevirtual 96, 3) := by decide +kernel
theorem dX7_strength_29 : decode cX7_strength 29 = .ok (.imul, 1) := by decide +kernel
theorem dX7_strength_30 : decode cX7_strength 30 = .ok (.iadd, 1) := by decide +kernel
theorem dX7_strength_31 : decode cX7_strength 31 = .ok (.ireturn, 1) := by decide +kernel
theorem dX7_listen_0 : decode cX7_listen 0 = .ok (.aload_n 0, 1) := by decide +kernel
theorem dX7_listen_1 : decode cX7_listen 1 = .ok (.iload_n 1, 1) := by decide +kernel
theorem dX7_listen_2 : decode cX7_listen 2 = .ok (.invokevirtual 99, 3) := by decide +kernel
theorem dX7_listen_5 : decode cX7_listen 5 = .ok (.istore_n 2, 1) := by decide +kernel
theorem dX7_listen_6 : decode cX7_listen 6 = .ok (.aload_n 0, 1) := by decide +kernel
theorem dX7_listen_7 : decode cX7_listen 7 = .ok (.iload_n 1, 1) := by decide +kernel
theorem dX7_listen_8 : decode cX7_listen 8 = .ok (.bipush 9, 2) := by decide +kernel
theorem dX7_listen_10 : decode cX7_listen 10 = .ok (.aload_n 0, 1) := by decide +kernel
theorem dX7_listen_11 : decode cX7_listen 11 = .ok (.iload_n 1, 1) := by decide +kernel
theorem dX7_listen_12 : decode cX7_listen 12 = .ok (.bipush 9, 2) := by decide +kernel
theorem dX7_listen_14 : decode cX7_listen 14 = .ok (.invokevirtual 84, 3) := by decide +kernel
theorem dX7_listen_17 : decode cX7_listen 17 = .ok (.iconst 1, 1) := by decide +kernel
theorem dX7_listen_18 : decode cX7_listen 18 = .ok (.iadd, 1) := by decide +kernel
theorem dX7_listen_19 : decode cX7_listen 19 = .ok (.invokevirtual 93, 3) := by decide +kernel
theorem dX7_listen_22 : decode cX7_listen 22 = .ok (.aload_n 0, 1) := by decide +kernel
theorem dX7_listen_23 : decode cX7_listen 23 = .ok (.iload_n 1, 1) := by decide +kernel
theorem dX7_listen_24 : decode cX7_listen 24 = .ok (.iconst 5, 1) := by decide +kernel
theorem dX7_listen_25 : decode cX7_listen 25 = .ok (.invokevirtual 84, 3) := by decide +kernel
theorem dX7_listen_28 : decode cX7_listen 28 = .ok (.ifCond .ne 39, 3) := by decide +kernel
theorem dX7_listen_31 : decode cX7_listen 31 = .ok (.iload_n 2, 1) := by decide +kernel
theorem dX7_listen_32 : decode cX7_listen 32 = .ok (.aload_n 0, 1) := by decide +kernel
theorem dX7_listen_33 : decode cX7_listen 33 = .ok (.iload_n 1, 1) := by decide +kernel
theorem dX7_listen_34 : decode cX7_listen 34 = .ok (.iconst 3, 1) := by decide +kernel
theorem dX7_listen_35 : decode cX7_listen 35 = .ok (.invokevirtual 84, 3) := by decide +kernel
theorem dX7_listen_38 : decode cX7_listen 38 = .ok (.if_icmp .lt 29, 3) := by decide +kernel
theorem dX7_listen_41 : decode cX7_listen 41 = .ok (.aload_n 0, 1) := by decide +kernel
theorem dX7_listen_42 : decode cX7_listen 42 = .ok (.iload_n 1, 1) := by decide +kernel
theorem dX7_listen_43 : decode cX7_listen 43 = .ok (.iconst 5, 1) := by decide +kernel
theorem dX7_listen_44 : decode cX7_listen 44 = .ok (.iconst 1, 1) := by decide +kernel
theorem dX7_listen_45 : decode cX7_listen 45 = .ok (.invokevirtual 93, 3) := by decide +kernel
theorem dX7_listen_48 : decode cX7_listen 48 = .ok (.aload_n 0, 1) := by decide +kernel
theorem dX7_listen_49 : decode cX7_listen 49 = .ok (.iload_n 1, 1) := by decide +kernel
theorem dX7_listen_50 : decode cX7_listen 50 = .ok (.bipush 6, 2) := by decide +kernel
theorem dX7_listen_52 : decode cX7_listen 52 = .ok (.aload_n 0, 1) := by decide +kernel
theorem dX7_listen_53 : decode cX7_listen 53 = .ok (.iload_n 1, 1) := by decide +kernel
theorem dX7_listen_54 : decode cX7_listen 54 = .ok (.bipush 6, 2) := by decide +kernel
theorem dX7_listen_56 : decode cX7_listen 56 = .ok (.invokevirtual 84, 3) := by decide +kernel
theorem dX7_listen_59 : decode cX7_listen 59 = .ok (.iconst 1, 1) := by decide +kernel
theorem dX7_listen_60 : decode cX7_listen 60 = .ok (.iadd, 1) := by decide +kernel
theorem dX7_listen_61 : decode cX7_listen 61 = .ok (.invokevirtual 93, 3) := by decide +kernel
theorem dX7_listen_64 : decode cX7_listen 64 = .ok (.goto 30, 3) := by decide +kernel
theorem dX7_listen_67 : decode cX7_listen 67 = .ok (.aload_n 0, 1) := by decide +kernel
theorem dX7_listen_68 : decode cX7_listen 68 = .ok (.iload_n 1, 1) := by decide +kernel
theorem dX7_listen_69 : decode cX7_listen 69 = .ok (.iconst 5, 1) := by decide +kernel
theorem dX7_listen_70 : decode cX7_listen 70 = .ok (.invokevirtual 84, 3) := by decide +kernel
theorem dX7_listen_73 : decode cX7_listen 73 = .ok (.iconst 1, 1) := by decide +kernel
theorem dX7_listen_74 : decode cX7_listen 74 = .ok (.if_icmp .ne 20, 3) := by decide +kernel
theorem dX7_listen_77 : decode cX7_listen 77 = .ok (.iload_n 2, 1) := by decide +kernel
theorem dX7_listen_78 : decode cX7_listen 78 = .ok (.aload_n 0, 1) := by decide +kernel
theorem dX7_listen_79 : decode cX7_listen 79 = .ok (.iload_n 1, 1) := by decide +kernel
theorem dX7_listen_80 : decode cX7_listen 80 = .ok (.iconst 4, 1) := by decide +kernel
theorem dX7_listen_81 : decode cX7_listen 81 = .ok (.invokevirtual 84, 3) := by decide +kernel
theorem dX7_listen_84 : decode cX7_listen 84 = .ok (.if_icmp .ge 10, 3) := by decide +kernel
theorem dX7_listen_87 : decode cX7_listen 87 = .ok (.aload_n 0, 1) := by decide +kernel
theorem dX7_listen_88 : decode cX7_listen 88 = .ok (.iload_n 1, 1) := by decide +kernel
theorem dX7_listen_89 : decode cX7_listen 89 = .ok (.iconst 5, 1) := by decide +kernel
theorem dX7_listen_90 : decode cX7_listen 90 = .ok (.iconst 0, 1) := by decide +kernel
theorem dX7_listen_91 : decode cX7_listen 91 = .ok (.invokevirtual 93, 3) := by decide +kernel
theorem dX7_listen_94 : decode cX7_listen 94 = .ok (.return_, 1) := by decide +kernel
theorem dX7_listener_0 : decode cX7_listener 0 = .ok (.aload_n 0, 1) := by decide +kernel
theorem dX7_listener_1 : decode cX7_listener 1 = .ok (.getfield 7, 3) := by decide +kernel
theorem dX7_listener_4 : decode cX7_listener 4 = .ok (.iconst 3, 1) := by decide +kernel
theorem dX7_listener_5 : decode cX7_listener 5 = .ok (.iaload, 1) := by decide +kernel
theorem dX7_listener_6 : decode cX7_listener 6 = .ok (.ifCond .ne 8, 3) := by decide +kernel
theorem dX7_listener_9 : decode cX7_listener 9 = .ok (.bipush (-6), 2) := by decide +kernel
theorem dX7_listener_11 : decode cX7_listener 11 = .ok (.goto 23, 3) := by decide +kernel
theorem dX7_listener_14 : decode cX7_listener 14 = .ok (.aload_n 0, 1) := by decide +kernel
theorem dX7_listener_15 : decode cX7_listener 15 = .ok (.getfield 7, 3) := by decide +kernel
theorem dX7_listener_18 : decode cX7_listener 18 = .ok (.iconst 2, 1) := by decide +kernel
theorem dX7_listener_19 : decode cX7_listener 19 = .ok (.iaload, 1) := by decide +kernel
theorem dX7_listener_20 : decode cX7_listener 20 = .ok (.aload_n 0, 1) := by decide +kernel
theorem dX7_listener_21 : decode cX7_listener 21 = .ok (.getfield 7, 3) := by decide +kernel
theorem dX7_listener_24 : decode cX7_listener 24 = .ok (.iconst 1, 1) := by decide +kernel
theorem dX7_listener_25 : decode cX7_listener 25 = .ok (.iaload, 1) := by decide +kernel
theorem dX7_listener_26 : decode cX7_listener 26 = .ok (.idiv, 1) := by decide +kernel
theorem dX7_listener_27 : decode cX7_listener 27 = .ok (.aload_n 0, 1) := by decide +kernel
theorem dX7_listener_28 : decode cX7_listener 28 = .ok (.getfield 7, 3) := by decide +kernel
theorem dX7_listener_31 : decode cX7_listener 31 = .ok (.iconst 3, 1) := by decide +kernel
theorem dX7_listener_32 : decode cX7_listener 32 = .ok (.iaload, 1) := by decide +kernel
theorem dX7_listener_33 : decode cX7_listener 33 = .ok (.irem, 1) := by decide +kernel
theorem dX7_listener_34 : decode cX7_listener 34 = .ok (.ireturn, 1) := by decide +kernel
theorem dX7_pass_0 : decode cX7_pass 0 = .ok (.aload_n 0, 1) := by decide +kernel
theorem dX7_pass_1 : decode cX7_pass 1 = .ok (.invokevirtual 102, 3) := by decide +kernel
theorem dX7_pass_4 : decode cX7_pass 4 = .ok (.aload_n 0, 1) := by decide +kernel
theorem dX7_pass_5 : decode cX7_pass 5 = .ok (.invokevirtual 105, 3) := by decide +kernel
theorem dX7_pass_8 : decode cX7_pass 8 = .ok (.iload_n 1, 1) := by decide +kernel
theorem dX7_pass_9 : decode cX7_pass 9 = .ok (.ifCond .ge 10, 3) := by decide +kernel
theorem dX7_pass_12 : decode cX7_pass 12 = .ok (.aload_n 0, 1) := by decide +kernel
theorem dX7_pass_13 : decode cX7_pass 13 = .ok (.invokevirtual 108, 3) := by decide +kernel
theorem dX7_pass_16 : decode cX7_pass 16 = .ok (.goto 4, 3) := by decide +kernel
theorem dX7_pass_19 : decode cX7_pass 19 = .ok (.iload_n 1, 1) := by decide +kernel
theorem dX7_pass_20 : decode cX7_pass 20 = .ok (.istore_n 2, 1) := by decide +kernel
theorem dX7_pass_21 : decode cX7_pass 21 = .ok (.iload_n 2, 1) := by decide +kernel
theorem dX7_pass_22 : decode cX7_pass 22 = .ok (.ifCond .lt 8, 3) := by decide +kernel
theorem dX7_pass_25 : decode cX7_pass 25 = .ok (.aload_n 0, 1) := by decide +kernel
theorem dX7_pass_26 : decode cX7_pass 26 = .ok (.iload_n 2, 1) := by decide +kernel
theorem dX7_pass_27 : decode cX7_pass 27 = .ok (.invokevirtual 112, 3) := by decide +kernel
theorem dX7_pass_30 : decode cX7_pass 30 = .ok (.aload_n 0, 1) := by decide +kernel
theorem dX7_pass_31 : decode cX7_pass 31 = .ok (.getfield 7, 3) := by decide +kernel
theorem dX7_pass_34 : decode cX7_pass 34 = .ok (.iconst 2, 1) := by decide +kernel
theorem dX7_pass_35 : decode cX7_pass 35 = .ok (.dup2, 1) := by decide +kernel
theorem dX7_pass_36 : decode cX7_pass 36 = .ok (.iaload, 1) := by decide +kernel
theorem dX7_pass_37 : decode cX7_pass 37 = .ok (.iconst 1, 1) := by decide +kernel
theorem dX7_pass_38 : decode cX7_pass 38 = .ok (.iadd, 1) := by decide +kernel
theorem dX7_pass_39 : decode cX7_pass 39 = .ok (.iastore, 1) := by decide +kernel
theorem dX7_pass_40 : decode cX7_pass 40 = .ok (.return_, 1) := by decide +kernel
theorem dX7_set_0 : decode cX7_set 0 = .ok (.iload_n 1, 1) := by decide +kernel
theorem dX7_set_1 : decode cX7_set 1 = .ok (.iconst 0, 1) := by decide +kernel
theorem dX7_set_2 : decode cX7_set 2 = .ok (.iconst 1, 1) := by decide +kernel
theorem dX7_set_3 : decode cX7_set 3 = .ok (.invokestatic 54, 3) := by decide +kernel
theorem dX7_set_6 : decode cX7_set 6 = .ok (.ifCond .eq 21, 3) := by decide +kernel
theorem dX7_set_9 : decode cX7_set 9 = .ok (.iload_n 2, 1) := by decide +kernel
theorem dX7_set_10 : decode cX7_set 10 = .ok (.iload_n 1, 1) := by decide +kernel
theorem dX7_set_11 : decode cX7_set 11 = .ok (.iload_n 1, 1) := by decide +kernel
theorem dX7_set_12 : decode cX7_set 12 = .ok (.ifCond .ne 8, 3) := by decide +kernel
theorem dX7_set_15 : decode cX7_set 15 = .ok (.bipush 8, 2) := by decide +kernel
theorem dX7_set_17 : decode cX7_set 17 = .ok (.goto 4, 3) := by decide +kernel
theorem dX7_set_20 : decode cX7_set 20 = .ok (.iconst 5, 1) := by decide +kernel
theorem dX7_set_21 : decode cX7_set 21 = .ok (.invokestatic 54, 3) := by decide +kernel
theorem dX7_set_24 : decode cX7_set 24 = .ok (.ifCond .ne 6, 3) := by decide +kernel
theorem dX7_set_27 : decode cX7_set 27 = .ok (.bipush (-2), 2) := by decide +kernel
theorem dX7_set_29 : decode cX7_set 29 = .ok (.ireturn, 1) := by decide +kernel
theorem dX7_set_30 : decode cX7_set 30 = .ok (.aload_n 0, 1) := by decide +kernel
theorem dX7_set_31 : decode cX7_set 31 = .ok (.invokevirtual 115, 3) := by decide +kernel
theorem dX7_set_34 : decode cX7_set 34 = .ok (.aload_n 0, 1) := by decide +kernel
theorem dX7_set_35 : decode cX7_set 35 = .ok (.getfield 7, 3) := by decide +kernel
theorem dX7_set_38 : decode cX7_set 38 = .ok (.iload_n 1, 1) := by decide +kernel
theorem dX7_set_39 : decode cX7_set 39 = .ok (.iaload, 1) := by decide +kernel
theorem dX7_set_40 : decode cX7_set 40 = .ok (.istore_n 3, 1) := by decide +kernel
theorem dX7_set_41 : decode cX7_set 41 = .ok (.aload_n 0, 1) := by decide +kernel
theorem dX7_set_42 : decode cX7_set 42 = .ok (.getfield 7, 3) := by decide +kernel
theorem dX7_set_45 : decode cX7_set 45 = .ok (.iload_n 1, 1) := by decide +kernel
theorem dX7_set_46 : decode cX7_set 46 = .ok (.iload_n 2, 1) := by decide +kernel
theorem dX7_set_47 : decode cX7_set 47 = .ok (.iastore, 1) := by decide +kernel
theorem dX7_set_48 : decode cX7_set 48 = .ok (.iload_n 3, 1) := by decide +kernel
theorem dX7_set_49 : decode cX7_set 49 = .ok (.ireturn, 1) := by decide +kernel
theorem dX7_areBounds_0 : decode cX7_areBounds 0 = .ok (.iload_n 0, 1) := by decide +kernel
theorem dX7_areBounds_1 : decode cX7_areBounds 1 = .ok (.iconst 1, 1) := by decide +kernel
theorem dX7_areBounds_2 : decode cX7_areBounds 2 = .ok (.sipush 200, 3) := by decide +kernel
theorem dX7_areBounds_5 : decode cX7_areBounds 5 = .ok (.invokestatic 54, 3) := by decide +kernel
theorem dX7_areBounds_8 : decode cX7_areBounds 8 = .ok (.ifCond .eq 16, 3) := by decide +kernel
theorem dX7_areBounds_11 : decode cX7_areBounds 11 = .ok (.iload_n 1, 1) := by decide +kernel
theorem dX7_areBounds_12 : decode cX7_areBounds 12 = .ok (.iconst 1, 1) := by decide +kernel
theorem dX7_areBounds_13 : decode cX7_areBounds 13 = .ok (.iload_n 0, 1) := by decide +kernel
theorem dX7_areBounds_14 : decode cX7_areBounds 14 = .ok (.invokestatic 54, 3) := by decide +kernel
theorem dX7_areBounds_17 : decode cX7_areBounds 17 = .ok (.ifCond .eq 7, 3) := by decide +kernel
theorem dX7_areBounds_20 : decode cX7_areBounds 20 = .ok (.iconst 1, 1) := by decide +kernel
theorem dX7_areBounds_21 : decode cX7_areBounds 21 = .ok (.goto 4, 3) := by decide +kernel
theorem dX7_areBounds_24 : decode cX7_areBounds 24 = .ok (.iconst 0, 1) := by decide +kernel
theorem dX7_areBounds_25 : decode cX7_areBounds 25 = .ok (.ireturn, 1) := by decide +kernel
theorem dX7_loop_0 : decode cX7_loop 0 = .ok (.iload_n 1, 1) := by decide +kernel
theorem dX7_loop_1 : decode cX7_loop 1 = .ok (.iconst 0, 1) := by decide +kernel
theorem dX7_loop_2 : decode cX7_loop 2 = .ok (.iconst 1, 1) := by decide +kernel
theorem dX7_loop_3 : decode cX7_loop 3 = .ok (.invokestatic 54, 3) := by decide +kernel
theorem dX7_loop_6 : decode cX7_loop 6 = .ok (.ifCond .eq 34, 3) := by decide +kernel
theorem dX7_loop_9 : decode cX7_loop 9 = .ok (.iload_n 3, 1) := by decide +kernel
theorem dX7_loop_10 : decode cX7_loop 10 = .ok (.iconst 1, 1) := by decide +kernel
theorem dX7_loop_11 : decode cX7_loop 11 = .ok (.iconst 3, 1) := by decide +kernel
theorem dX7_loop_12 : decode cX7_loop 12 = .ok (.invokestatic 54, 3) := by decide +kernel
theorem dX7_loop_15 : decode cX7_loop 15 = .ok (.ifCond .eq 25, 3) := by decide +kernel
theorem dX7_loop_18 : decode cX7_loop 18 = .ok (.iload_n 2, 1) := by decide +kernel
theorem dX7_loop_19 : decode cX7_loop 19 = .ok (.iconst 0, 1) := by decide +kernel
theorem dX7_loop_20 : decode cX7_loop 20 = .ok (.bipush 40, 2) := by decide +kernel
theorem dX7_loop_22 : decode cX7_loop 22 = .ok (.iload_n 3, 1) := by decide +kernel
theorem dX7_loop_23 : decode cX7_loop 23 = .ok (.isub, 1) := by decide +kernel
theorem dX7_loop_24 : decode cX7_loop 24 = .ok (.invokestatic 54, 3) := by decide +kernel
theorem dX7_loop_27 : decode cX7_loop 27 = .ok (.ifCond .eq 13, 3) := by decide +kernel
theorem dX7_loop_30 : decode cX7_loop 30 = .ok (.iload 4, 2) := by decide +kernel
theorem dX7_loop_32 : decode cX7_loop 32 = .ok (.iload 5, 2) := by decide +kernel
theorem dX7_loop_34 : decode cX7_loop 34 = .ok (.invokestatic 118, 3) := by decide +kernel
theorem dX7_loop_37 : decode cX7_loop 37 = .ok (.ifCond .ne 6, 3) := by decide +kernel
theorem dX7_loop_40 : decode cX7_loop 40 = .ok (.bipush (-2), 2) := by decide +kernel
theorem dX7_loop_42 : decode cX7_loop 42 = .ok (.ireturn, 1) := by decide +kernel
theorem dX7_loop_43 : decode cX7_loop 43 = .ok (.aload_n 0, 1) := by decide +kernel
theorem dX7_loop_44 : decode cX7_loop 44 = .ok (.getfield 7, 3) := by decide +kernel
theorem dX7_loop_47 : decode cX7_loop 47 = .ok (.iconst 3, 1) := by decide +kernel
theorem dX7_loop_48 : decode cX7_loop 48 = .ok (.iaload, 1) := by decide +kernel
theorem dX7_loop_49 : decode cX7_loop 49 = .ok (.bipush 6, 2) := by decide +kernel
theorem dX7_loop_51 : decode cX7_loop 51 = .ok (.if_icmp .ne 6, 3) := by decide +kernel
theorem dX7_loop_54 : decode cX7_loop 54 = .ok (.bipush (-4), 2) := by decide +kernel
theorem dX7_loop_56 : decode cX7_loop 56 = .ok (.ireturn, 1) := by decide +kernel
theorem dX7_loop_57 : decode cX7_loop 57 = .ok (.aload_n 0, 1) := by decide +kernel
theorem dX7_loop_58 : decode cX7_loop 58 = .ok (.invokevirtual 115, 3) := by decide +kernel
theorem dX7_loop_61 : decode cX7_loop 61 = .ok (.aload_n 0, 1) := by decide +kernel
theorem dX7_loop_62 : decode cX7_loop 62 = .ok (.getfield 7, 3) := by decide +kernel
theorem dX7_loop_65 : decode cX7_loop 65 = .ok (.iconst 3, 1) := by decide +kernel
theorem dX7_loop_66 : decode cX7_loop 66 = .ok (.iaload, 1) := by decide +kernel
theorem dX7_loop_67 : decode cX7_loop 67 = .ok (.istore 6, 2) := by decide +kernel
theorem dX7_loop_69 : decode cX7_loop 69 = .ok (.aload_n 0, 1) := by decide +kernel
theorem dX7_loop_70 : decode cX7_loop 70 = .ok (.getfield 7, 3) := by decide +kernel
theorem dX7_loop_73 : decode cX7_loop 73 = .ok (.iconst 3, 1) := by decide +kernel
theorem dX7_loop_74 : decode cX7_loop 74 = .ok (.dup2, 1) := by decide +kernel
theorem dX7_loop_75 : decode cX7_loop 75 = .ok (.iaload, 1) := by decide +kernel
theorem dX7_loop_76 : decode cX7_loop 76 = .ok (.iconst 1, 1) := by decide +kernel
theorem dX7_loop_77 : decode cX7_loop 77 = .ok (.iadd, 1) := by decide +kernel
theorem dX7_loop_78 : decode cX7_loop 78 = .ok (.iastore, 1) := by decide +kernel
theorem dX7_loop_79 : decode cX7_loop 79 = .ok (.aload_n 0, 1) := by decide +kernel
theorem dX7_loop_80 : decode cX7_loop 80 = .ok (.iload 6, 2) := by decide +kernel
theorem dX7_loop_82 : decode cX7_loop 82 = .ok (.iconst 0, 1) := by decide +kernel
theorem dX7_loop_83 : decode cX7_loop 83 = .ok (.iload_n 1, 1) := by decide +kernel
theorem dX7_loop_84 : decode cX7_loop 84 = .ok (.invokevirtual 93, 3) := by decide +kernel
theorem dX7_loop_87 : decode cX7_loop 87 = .ok (.aload_n 0, 1) := by decide +kernel
theorem dX7_loop_88 : decode cX7_loop 88 = .ok (.iload 6, 2) := by decide +kernel
theorem dX7_loop_90 : decode cX7_loop 90 = .ok (.iconst 1, 1) := by decide +kernel
theorem dX7_loop_91 : decode cX7_loop 91 = .ok (.iload_n 2, 1) := by decide +kernel
theorem dX7_loop_92 : decode cX7_loop 92 = .ok (.invokevirtual 93, 3) := by decide +kernel
theorem dX7_loop_95 : decode cX7_loop 95 = .ok (.aload_n 0, 1) := by decide +kernel
theorem dX7_loop_96 : decode cX7_loop 96 = .ok (.iload 6, 2) := by decide +kernel
theorem dX7_loop_98 : decode cX7_loop 98 = .ok (.iconst 2, 1) := by decide +kernel
theorem dX7_loop_99 : decode cX7_loop 99 = .ok (.iload_n 3, 1) := by decide +kernel
theorem dX7_loop_100 : decode cX7_loop 100 = .ok (.invokevirtual 93, 3) := by decide +kernel
theorem dX7_loop_103 : decode cX7_loop 103 = .ok (.aload_n 0, 1) := by decide +kernel
theorem dX7_loop_104 : decode cX7_loop 104 = .ok (.iload 6, 2) := by decide +kernel
theorem dX7_loop_106 : decode cX7_loop 106 = .ok (.iconst 3, 1) := by decide +kernel
theorem dX7_loop_107 : decode cX7_loop 107 = .ok (.iload 4, 2) := by decide +kernel
theorem dX7_loop_109 : decode cX7_loop 109 = .ok (.invokevirtual 93, 3) := by decide +kernel
theorem dX7_loop_112 : decode cX7_loop 112 = .ok (.aload_n 0, 1) := by decide +kernel
theorem dX7_loop_113 : decode cX7_loop 113 = .ok (.iload 6, 2) := by decide +kernel
theorem dX7_loop_115 : decode cX7_loop 115 = .ok (.iconst 4, 1) := by decide +kernel
theorem dX7_loop_116 : decode cX7_loop 116 = .ok (.iload 5, 2) := by decide +kernel
theorem dX7_loop_118 : decode cX7_loop 118 = .ok (.invokevirtual 93, 3) := by decide +kernel
theorem dX7_loop_121 : decode cX7_loop 121 = .ok (.iconst 0, 1) := by decide +kernel
theorem dX7_loop_122 : decode cX7_loop 122 = .ok (.istore 7, 2) := by decide +kernel
theorem dX7_loop_124 : decode cX7_loop 124 = .ok (.iload 7, 2) := by decide +kernel
theorem dX7_loop_126 : decode cX7_loop 126 = .ok (.aload_n 0, 1) := by decide +kernel
theorem dX7_loop_127 : decode cX7_loop 127 = .ok (.getfield 7, 3) := by decide +kernel
theorem dX7_loop_130 : decode cX7_loop 130 = .ok (.iconst 4, 1) := by decide +kernel
theorem dX7_loop_131 : decode cX7_loop 131 = .ok (.iaload, 1) := by decide +kernel
theorem dX7_loop_132 : decode cX7_loop 132 = .ok (.if_icmp .ge 45, 3) := by decide +kernel
theorem dX7_loop_135 : decode cX7_loop 135 = .ok (.aload_n 0, 1) := by decide +kernel
theorem dX7_loop_136 : decode cX7_loop 136 = .ok (.iload 7, 2) := by decide +kernel
theorem dX7_loop_138 : decode cX7_loop 138 = .ok (.bipush 9, 2) := by decide +kernel
theorem dX7_loop_140 : decode cX7_loop 140 = .ok (.aload_n 0, 1) := by decide +kernel
theorem dX7_loop_141 : decode cX7_loop 141 = .ok (.iload 7, 2) := by decide +kernel
theorem dX7_loop_143 : decode cX7_loop 143 = .ok (.bipush 9, 2) := by decide +kernel
theorem dX7_loop_145 : decode cX7_loop 145 = .ok (.invokevirtual 46, 3) := by decide +kernel
theorem dX7_loop_148 : decode cX7_loop 148 = .ok (.aload_n 0, 1) := by decide +kernel
theorem dX7_loop_149 : decode cX7_loop 149 = .ok (.iload 7, 2) := by decide +kernel
theorem dX7_loop_151 : decode cX7_loop 151 = .ok (.iload 6, 2) := by decide +kernel
theorem dX7_loop_153 : decode cX7_loop 153 = .ok (.invokevirtual 87, 3) := by decide +kernel
theorem dX7_loop_156 : decode cX7_loop 156 = .ok (.ifCond .eq 10, 3) := by decide +kernel
theorem dX7_loop_159 : decode cX7_loop 159 = .ok (.iconst 1, 1) := by decide +kernel
theorem dX7_loop_160 : decode cX7_loop 160 = .ok (.iload 6, 2) := by decide +kernel
theorem dX7_loop_162 : decode cX7_loop 162 = .ok (.ishl, 1) := by decide +kernel
theorem dX7_loop_163 : decode cX7_loop 163 = .ok (.goto 4, 3) := by decide +kernel
theorem dX7_loop_166 : decode cX7_loop 166 = .ok (.iconst 0, 1) := by decide +kernel
theorem dX7_loop_167 : decode cX7_loop 167 = .ok (.ior, 1) := by decide +kernel
theorem dX7_loop_168 : decode cX7_loop 168 = .ok (.invokevirtual 73, 3) := by decide +kernel
theorem dX7_loop_171 : decode cX7_loop 171 = .ok (.iinc 7 1, 3) := by decide +kernel
theorem dX7_loop_174 : decode cX7_loop 174 = .ok (.goto (-50), 3) := by decide +kernel
theorem dX7_loop_177 : decode cX7_loop 177 = .ok (.iload 6, 2) := by decide +kernel
theorem dX7_loop_179 : decode cX7_loop 179 = .ok (.ireturn, 1) := by decide +kernel
theorem dX7_isLoop_0 : decode cX7_isLoop 0 = .ok (.iload_n 1, 1) := by decide +kernel
theorem dX7_isLoop_1 : decode cX7_isLoop 1 = .ok (.iconst 0, 1) := by decide +kernel
theorem dX7_isLoop_2 : decode cX7_isLoop 2 = .ok (.aload_n 0, 1) := by decide +kernel
theorem dX7_isLoop_3 : decode cX7_isLoop 3 = .ok (.getfield 7, 3) := by decide +kernel
theorem dX7_isLoop_6 : decode cX7_isLoop 6 = .ok (.iconst 3, 1) := by decide +kernel
theorem dX7_isLoop_7 : decode cX7_isLoop 7 = .ok (.iaload, 1) := by decide +kernel
theorem dX7_isLoop_8 : decode cX7_isLoop 8 = .ok (.iconst 1, 1) := by decide +kernel
theorem dX7_isLoop_9 : decode cX7_isLoop 9 = .ok (.isub, 1) := by decide +kernel
theorem dX7_isLoop_10 : decode cX7_isLoop 10 = .ok (.invokestatic 54, 3) := by decide +kernel
theorem dX7_isLoop_13 : decode cX7_isLoop 13 = .ok (.ireturn, 1) := by decide +kernel
theorem dX7_isCar_0 : decode cX7_isCar 0 = .ok (.iload_n 1, 1) := by decide +kernel
theorem dX7_isCar_1 : decode cX7_isCar 1 = .ok (.iconst 0, 1) := by decide +kernel
theorem dX7_isCar_2 : decode cX7_isCar 2 = .ok (.aload_n 0, 1) := by decide +kernel
theorem dX7_isCar_3 : decode cX7_isCar 3 = .ok (.getfield 7, 3) := by decide +kernel
theorem dX7_isCar_6 : decode cX7_isCar 6 = .ok (.iconst 4, 1) := by decide +kernel
theorem dX7_isCar_7 : decode cX7_isCar 7 = .ok (.iaload, 1) := by decide +kernel
theorem dX7_isCar_8 : decode cX7_isCar 8 = .ok (.iconst 1, 1) := by decide +kernel
theorem dX7_isCar_9 : decode cX7_isCar 9 = .ok (.isub, 1) := by decide +kernel
theorem dX7_isCar_10 : decode cX7_isCar 10 = .ok (.invokestatic 54, 3) := by decide +kernel
theorem dX7_isCar_13 : decode cX7_isCar 13 = .ok (.ireturn, 1) := by decide +kernel
theorem dX7_bounds_0 : decode cX7_bounds 0 = .ok (.aload_n 0, 1) := by decide +kernel
theorem dX7_bounds_1 : decode cX7_bounds 1 = .ok (.iload_n 1, 1) := by decide +kernel
theorem dX7_bounds_2 : decode cX7_bounds 2 = .ok (.invokevirtual 121, 3) := by decide +kernel
theorem dX7_bounds_5 : decode cX7_bounds 5 = .ok (.ifCond .ne 5, 3) := by decide +kernel
theorem dX7_bounds_8 : decode cX7_bounds 8 = .ok (.iconst (-1), 1) := by decide +kernel
theorem dX7_bounds_9 : decode cX7_bounds 9 = .ok (.ireturn, 1) := by decide +kernel
theorem dX7_bounds_10 : decode cX7_bounds 10 = .ok (.iload_n 2, 1) := by decide +kernel
theorem dX7_bounds_11 : decode cX7_bounds 11 = .ok (.iload_n 3, 1) := by decide +kernel
theorem dX7_bounds_12 : decode cX7_bounds 12 = .ok (.invokestatic 118, 3) := by decide +kernel
theorem dX7_bounds_15 : decode cX7_bounds 15 = .ok (.ifCond .ne 6, 3) := by decide +kernel
theorem dX7_bounds_18 : decode cX7_bounds 18 = .ok (.bipush (-2), 2) := by decide +kernel
theorem dX7_bounds_20 : decode cX7_bounds 20 = .ok (.ireturn, 1) := by decide +kernel
theorem dX7_bounds_21 : decode cX7_bounds 21 = .ok (.aload_n 0, 1) := by decide +kernel
theorem dX7_bounds_22 : decode cX7_bounds 22 = .ok (.invokevirtual 115, 3) := by decide +kernel
theorem dX7_bounds_25 : decode cX7_bounds 25 = .ok (.aload_n 0, 1) := by decide +kernel
theorem dX7_bounds_26 : decode cX7_bounds 26 = .ok (.iload_n 1, 1) := by decide +kernel
theorem dX7_bounds_27 : decode cX7_bounds 27 = .ok (.iconst 3, 1) := by decide +kernel
theorem dX7_bounds_28 : decode cX7_bounds 28 = .ok (.invokevirtual 84, 3) := by decide +kernel
theorem dX7_bounds_31 : decode cX7_bounds 31 = .ok (.istore 4, 2) := by decide +kernel
theorem dX7_bounds_33 : decode cX7_bounds 33 = .ok (.aload_n 0, 1) := by decide +kernel
theorem dX7_bounds_34 : decode cX7_bounds 34 = .ok (.iload_n 1, 1) := by decide +kernel
theorem dX7_bounds_35 : decode cX7_bounds 35 = .ok (.iconst 3, 1) := by decide +kernel
theorem dX7_bounds_36 : decode cX7_bounds 36 = .ok (.iload_n 2, 1) := by decide +kernel
theorem dX7_bounds_37 : decode cX7_bounds 37 = .ok (.invokevirtual 93, 3) := by decide +kernel
theorem dX7_bounds_40 : decode cX7_bounds 40 = .ok (.aload_n 0, 1) := by decide +kernel
theorem dX7_bounds_41 : decode cX7_bounds 41 = .ok (.iload_n 1, 1) := by decide +kernel
theorem dX7_bounds_42 : decode cX7_bounds 42 = .ok (.iconst 4, 1) := by decide +kernel
theorem dX7_bounds_43 : decode cX7_bounds 43 = .ok (.iload_n 3, 1) := by decide +kernel
theorem dX7_bounds_44 : decode cX7_bounds 44 = .ok (.invokevirtual 93, 3) := by decide +kernel
theorem dX7_bounds_47 : decode cX7_bounds 47 = .ok (.iload 4, 2) := by decide +kernel
theorem dX7_bounds_49 : decode cX7_bounds 49 = .ok (.ireturn, 1) := by decide +kernel
theorem dX7_come_0 : decode cX7_come 0 = .ok (.iload_n 1, 1) := by decide +kernel
theorem dX7_come_1 : decode cX7_come 1 = .ok (.iconst 0, 1) := by decide +kernel
theorem dX7_come_2 : decode cX7_come 2 = .ok (.iconst 1, 1) := by decide +kernel
theorem dX7_come_3 : decode cX7_come 3 = .ok (.invokestatic 54, 3) := by decide +kernel
theorem dX7_come_6 : decode cX7_come 6 = .ok (.ifCond .eq 32, 3) := by decide +kernel
theorem dX7_come_9 : decode cX7_come 9 = .ok (.iload_n 2, 1) := by decide +kernel
theorem dX7_come_10 : decode cX7_come 10 = .ok (.iconst 1, 1) := by decide +kernel
theorem dX7_come_11 : decode cX7_come 11 = .ok (.iconst 4, 1) := by decide +kernel
theorem dX7_come_12 : decode cX7_come 12 = .ok (.invokestatic 54, 3) := by decide +kernel
theorem dX7_come_15 : decode cX7_come 15 = .ok (.ifCond .eq 23, 3) := by decide +kernel
theorem dX7_come_18 : decode cX7_come 18 = .ok (.iload_n 3, 1) := by decide +kernel
theorem dX7_come_19 : decode cX7_come 19 = .ok (.iconst 1, 1) := by decide +kernel
theorem dX7_come_20 : decode cX7_come 20 = .ok (.iconst 4, 1) := by decide +kernel
theorem dX7_come_21 : decode cX7_come 21 = .ok (.invokestatic 54, 3) := by decide +kernel
theorem dX7_come_24 : decode cX7_come 24 = .ok (.ifCond .eq 14, 3) := by decide +kernel
theorem dX7_come_27 : decode cX7_come 27 = .ok (.iload 4, 2) := by decide +kernel
theorem dX7_come_29 : decode cX7_come 29 = .ok (.iconst 1, 1) := by decide +kernel
theorem dX7_come_30 : decode cX7_come 30 = .ok (.bipush 9, 2) := by decide +kernel
theorem dX7_come_32 : decode cX7_come 32 = .ok (.invokestatic 54, 3) := by decide +kernel
theorem dX7_come_35 : decode cX7_come 35 = .ok (.ifCond .ne 6, 3) := by decide +kernel
theorem dX7_come_38 : decode cX7_come 38 = .ok (.bipush (-2), 2) := by decide +kernel
theorem dX7_come_40 : decode cX7_come 40 = .ok (.ireturn, 1) := by decide +kernel
theorem dX7_come_41 : decode cX7_come 41 = .ok (.aload_n 0, 1) := by decide +kernel
theorem dX7_come_42 : decode cX7_come 42 = .ok (.getfield 7, 3) := by decide +kernel
theorem dX7_come_45 : decode cX7_come 45 = .ok (.iconst 4, 1) := by decide +kernel
theorem dX7_come_46 : decode cX7_come 46 = .ok (.iaload, 1) := by decide +kernel
theorem dX7_come_47 : decode cX7_come 47 = .ok (.bipush 40, 2) := by decide +kernel
theorem dX7_come_49 : decode cX7_come 49 = .ok (.if_icmp .ne 6, 3) := by decide +kernel
theorem dX7_come_52 : decode cX7_come 52 = .ok (.bipush (-4), 2) := by decide +kernel
theorem dX7_come_54 : decode cX7_come 54 = .ok (.ireturn, 1) := by decide +kernel
theorem dX7_come_55 : decode cX7_come 55 = .ok (.aload_n 0, 1) := by decide +kernel
theorem dX7_come_56 : decode cX7_come 56 = .ok (.invokevirtual 77, 3) := by decide +kernel
theorem dX7_come_59 : decode cX7_come 59 = .ok (.aload_n 0, 1) := by decide +kernel
theorem dX7_come_60 : decode cX7_come 60 = .ok (.iload_n 1, 1) := by decide +kernel
theorem dX7_come_61 : decode cX7_come 61 = .ok (.iconst 0, 1) := by decide +kernel
theorem dX7_come_62 : decode cX7_come 62 = .ok (.invokevirtual 66, 3) := by decide +kernel
theorem dX7_come_65 : decode cX7_come 65 = .ok (.ifCond .ne 6, 3) := by decide +kernel
theorem dX7_come_68 : decode cX7_come 68 = .ok (.bipush (-5), 2) := by decide +kernel
theorem dX7_come_70 : decode cX7_come 70 = .ok (.ireturn, 1) := by decide +kernel
theorem dX7_come_71 : decode cX7_come 71 = .ok (.aload_n 0, 1) := by decide +kernel
theorem dX7_come_72 : decode cX7_come 72 = .ok (.invokevirtual 115, 3) := by decide +kernel
theorem dX7_come_75 : decode cX7_come 75 = .ok (.aload_n 0, 1) := by decide +kernel
theorem dX7_come_76 : decode cX7_come 76 = .ok (.getfield 7, 3) := by decide +kernel
theorem dX7_come_79 : decode cX7_come 79 = .ok (.iconst 4, 1) := by decide +kernel
theorem dX7_come_80 : decode cX7_come 80 = .ok (.iaload, 1) := by decide +kernel
theorem dX7_come_81 : decode cX7_come 81 = .ok (.istore 5, 2) := by decide +kernel
theorem dX7_come_83 : decode cX7_come 83 = .ok (.aload_n 0, 1) := by decide +kernel
theorem dX7_come_84 : decode cX7_come 84 = .ok (.getfield 7, 3) := by decide +kernel
theorem dX7_come_87 : decode cX7_come 87 = .ok (.iconst 4, 1) := by decide +kernel
theorem dX7_come_88 : decode cX7_come 88 = .ok (.dup2, 1) := by decide +kernel
theorem dX7_come_89 : decode cX7_come 89 = .ok (.iaload, 1) := by decide +kernel
theorem dX7_come_90 : decode cX7_come 90 = .ok (.iconst 1, 1) := by decide +kernel
theorem dX7_come_91 : decode cX7_come 91 = .ok (.iadd, 1) := by decide +kernel
theorem dX7_come_92 : decode cX7_come 92 = .ok (.iastore, 1) := by decide +kernel
theorem dX7_come_93 : decode cX7_come 93 = .ok (.aload_n 0, 1) := by decide +kernel
theorem dX7_come_94 : decode cX7_come 94 = .ok (.iload 5, 2) := by decide +kernel
theorem dX7_come_96 : decode cX7_come 96 = .ok (.iconst 0, 1) := by decide +kernel
theorem dX7_come_97 : decode cX7_come 97 = .ok (.iload_n 1, 1) := by decide +kernel
theorem dX7_come_98 : decode cX7_come 98 = .ok (.invokevirtual 73, 3) := by decide +kernel
theorem dX7_come_101 : decode cX7_come 101 = .ok (.aload_n 0, 1) := by decide +kernel
theorem dX7_come_102 : decode cX7_come 102 = .ok (.iload 5, 2) := by decide +kernel
theorem dX7_come_104 : decode cX7_come 104 = .ok (.iconst 2, 1) := by decide +kernel
theorem dX7_come_105 : decode cX7_come 105 = .ok (.iload_n 2, 1) := by decide +kernel
theorem dX7_come_106 : decode cX7_come 106 = .ok (.invokevirtual 73, 3) := by decide +kernel
theorem dX7_come_109 : decode cX7_come 109 = .ok (.aload_n 0, 1) := by decide +kernel
theorem dX7_come_110 : decode cX7_come 110 = .ok (.iload 5, 2) := by decide +kernel
theorem dX7_come_112 : decode cX7_come 112 = .ok (.iconst 3, 1) := by decide +kernel
theorem dX7_come_113 : decode cX7_come 113 = .ok (.iload_n 3, 1) := by decide +kernel
theorem dX7_come_114 : decode cX7_come 114 = .ok (.invokevirtual 73, 3) := by decide +kernel
theorem dX7_come_117 : decode cX7_come 117 = .ok (.aload_n 0, 1) := by decide +kernel
theorem dX7_come_118 : decode cX7_come 118 = .ok (.iload 5, 2) := by decide +kernel
theorem dX7_come_120 : decode cX7_come 120 = .ok (.iconst 4, 1) := by decide +kernel
theorem dX7_come_121 : decode cX7_come 121 = .ok (.iload 4, 2) := by decide +kernel
theorem dX7_come_123 : decode cX7_come 123 = .ok (.invokevirtual 73, 3) := by decide +kernel
theorem dX7_come_126 : decode cX7_come 126 = .ok (.iload 5, 2) := by decide +kernel
theorem dX7_come_128 : decode cX7_come 128 = .ok (.ireturn, 1) := by decide +kernel
theorem dX7_want_0 : decode cX7_want 0 = .ok (.aload_n 0, 1) := by decide +kernel
theorem dX7_want_1 : decode cX7_want 1 = .ok (.iload_n 1, 1) := by decide +kernel
theorem dX7_want_2 : decode cX7_want 2 = .ok (.invokevirtual 124, 3) := by decide +kernel
theorem dX7_want_5 : decode cX7_want 5 = .ok (.ifCond .ne 5, 3) := by decide +kernel
theorem dX7_want_8 : decode cX7_want 8 = .ok (.iconst (-1), 1) := by decide +kernel
theorem dX7_want_9 : decode cX7_want 9 = .ok (.ireturn, 1) := by decide +kernel
theorem dX7_want_10 : decode cX7_want 10 = .ok (.aload_n 0, 1) := by decide +kernel
theorem dX7_want_11 : decode cX7_want 11 = .ok (.iload_n 1, 1) := by decide +kernel
theorem dX7_want_12 : decode cX7_want 12 = .ok (.invokevirtual 58, 3) := by decide +kernel
theorem dX7_want_15 : decode cX7_want 15 = .ok (.ifCond .ne 6, 3) := by decide +kernel
theorem dX7_want_18 : decode cX7_want 18 = .ok (.bipush (-5), 2) := by decide +kernel
theorem dX7_want_20 : decode cX7_want 20 = .ok (.ireturn, 1) := by decide +kernel
theorem dX7_want_21 : decode cX7_want 21 = .ok (.aload_n 0, 1) := by decide +kernel
theorem dX7_want_22 : decode cX7_want 22 = .ok (.invokevirtual 115, 3) := by decide +kernel
theorem dX7_want_25 : decode cX7_want 25 = .ok (.aload_n 0, 1) := by decide +kernel
theorem dX7_want_26 : decode cX7_want 26 = .ok (.iload_n 1, 1) := by decide +kernel
theorem dX7_want_27 : decode cX7_want 27 = .ok (.bipush 6, 2) := by decide +kernel
theorem dX7_want_29 : decode cX7_want 29 = .ok (.iconst 1, 1) := by decide +kernel
theorem dX7_want_30 : decode cX7_want 30 = .ok (.aload_n 0, 1) := by decide +kernel
theorem dX7_want_31 : decode cX7_want 31 = .ok (.iload_n 1, 1) := by decide +kernel
theorem dX7_want_32 : decode cX7_want 32 = .ok (.bipush 6, 2) := by decide +kernel
theorem dX7_want_34 : decode cX7_want 34 = .ok (.invokevirtual 46, 3) := by decide +kernel
theorem dX7_want_37 : decode cX7_want 37 = .ok (.isub, 1) := by decide +kernel
theorem dX7_want_38 : decode cX7_want 38 = .ok (.invokevirtual 73, 3) := by decide +kernel
theorem dX7_want_41 : decode cX7_want 41 = .ok (.aload_n 0, 1) := by decide +kernel
theorem dX7_want_42 : decode cX7_want 42 = .ok (.iload_n 1, 1) := by decide +kernel
theorem dX7_want_43 : decode cX7_want 43 = .ok (.bipush 6, 2) := by decide +kernel
theorem dX7_want_45 : decode cX7_want 45 = .ok (.invokevirtual 46, 3) := by decide +kernel
theorem dX7_want_48 : decode cX7_want 48 = .ok (.ireturn, 1) := by decide +kernel
theorem dX7_speed_0 : decode cX7_speed 0 = .ok (.aload_n 0, 1) := by decide +kernel
theorem dX7_speed_1 : decode cX7_speed 1 = .ok (.iload_n 1, 1) := by decide +kernel
theorem dX7_speed_2 : decode cX7_speed 2 = .ok (.invokevirtual 124, 3) := by decide +kernel
theorem dX7_speed_5 : decode cX7_speed 5 = .ok (.ifCond .ne 5, 3) := by decide +kernel
theorem dX7_speed_8 : decode cX7_speed 8 = .ok (.iconst (-1), 1) := by decide +kernel
theorem dX7_speed_9 : decode cX7_speed 9 = .ok (.ireturn, 1) := by decide +kernel
theorem dX7_speed_10 : decode cX7_speed 10 = .ok (.iload_n 2, 1) := by decide +kernel
theorem dX7_speed_11 : decode cX7_speed 11 = .ok (.iconst 0, 1) := by decide +kernel
theorem dX7_speed_12 : decode cX7_speed 12 = .ok (.iconst 4, 1) := by decide +kernel
theorem dX7_speed_13 : decode cX7_speed 13 = .ok (.invokestatic 54, 3) := by decide +kernel
theorem dX7_speed_16 : decode cX7_speed 16 = .ok (.ifCond .ne 6, 3) := by decide +kernel
theorem dX7_speed_19 : decode cX7_speed 19 = .ok (.bipush (-2), 2) := by decide +kernel
theorem dX7_speed_21 : decode cX7_speed 21 = .ok (.ireturn, 1) := by decide +kernel
theorem dX7_speed_22 : decode cX7_speed 22 = .ok (.aload_n 0, 1) := by decide +kernel
theorem dX7_speed_23 : decode cX7_speed 23 = .ok (.iload_n 1, 1) := by decide +kernel
theorem dX7_speed_24 : decode cX7_speed 24 = .ok (.invokevirtual 58, 3) := by decide +kernel
theorem dX7_speed_27 : decode cX7_speed 27 = .ok (.ifCond .ne 6, 3) := by decide +kernel
theorem dX7_speed_30 : decode cX7_speed 30 = .ok (.bipush (-5), 2) := by decide +kernel
theorem dX7_speed_32 : decode cX7_speed 32 = .ok (.ireturn, 1) := by decide +kernel
theorem dX7_speed_33 : decode cX7_speed 33 = .ok (.aload_n 0, 1) := by decide +kernel
theorem dX7_speed_34 : decode cX7_speed 34 = .ok (.invokevirtual 115, 3) := by decide +kernel
theorem dX7_speed_37 : decode cX7_speed 37 = .ok (.aload_n 0, 1) := by decide +kernel
theorem dX7_speed_38 : decode cX7_speed 38 = .ok (.iload_n 1, 1) := by decide +kernel
theorem dX7_speed_39 : decode cX7_speed 39 = .ok (.iconst 3, 1) := by decide +kernel
theorem dX7_speed_40 : decode cX7_speed 40 = .ok (.invokevirtual 46, 3) := by decide +kernel
theorem dX7_speed_43 : decode cX7_speed 43 = .ok (.istore_n 3, 1) := by decide +kernel
theorem dX7_speed_44 : decode cX7_speed 44 = .ok (.aload_n 0, 1) := by decide +kernel
theorem dX7_speed_45 : decode cX7_speed 45 = .ok (.iload_n 1, 1) := by decide +kernel
theorem dX7_speed_46 : decode cX7_speed 46 = .ok (.iconst 3, 1) := by decide +kernel
theorem dX7_speed_47 : decode cX7_speed 47 = .ok (.iload_n 2, 1) := by decide +kernel
theorem dX7_speed_48 : decode cX7_speed 48 = .ok (.invokevirtual 73, 3) := by decide +kernel
theorem dX7_speed_51 : decode cX7_speed 51 = .ok (.iload_n 3, 1) := by decide +kernel
theorem dX7_speed_52 : decode cX7_speed 52 = .ok (.ireturn, 1) := by decide +kernel
theorem dX7_ticks_0 : decode cX7_ticks 0 = .ok (.iload_n 1, 1) := by decide +kernel
theorem dX7_ticks_1 : decode cX7_ticks 1 = .ok (.iconst 1, 1) := by decide +kernel
theorem dX7_ticks_2 : decode cX7_ticks 2 = .ok (.bipush 100, 2) := by decide +kernel
theorem dX7_ticks_4 : decode cX7_ticks 4 = .ok (.invokestatic 54, 3) := by decide +kernel
theorem dX7_ticks_7 : decode cX7_ticks 7 = .ok (.ifCond .ne 6, 3) := by decide +kernel
theorem dX7_ticks_10 : decode cX7_ticks 10 = .ok (.bipush (-2), 2) := by decide +kernel
theorem dX7_ticks_12 : decode cX7_ticks 12 = .ok (.ireturn, 1) := by decide +kernel
theorem dX7_ticks_13 : decode cX7_ticks 13 = .ok (.aload_n 0, 1) := by decide +kernel
theorem dX7_ticks_14 : decode cX7_ticks 14 = .ok (.invokevirtual 115, 3) := by decide +kernel
theorem dX7_ticks_17 : decode cX7_ticks 17 = .ok (.iconst 0, 1) := by decide +kernel
theorem dX7_ticks_18 : decode cX7_ticks 18 = .ok (.istore_n 2, 1) := by decide +kernel
theorem dX7_ticks_19 : decode cX7_ticks 19 = .ok (.iload_n 2, 1) := by decide +kernel
theorem dX7_ticks_20 : decode cX7_ticks 20 = .ok (.iload_n 1, 1) := by decide +kernel
theorem dX7_ticks_21 : decode cX7_ticks 21 = .ok (.if_icmp .ge 15, 3) := by decide +kernel
theorem dX7_ticks_24 : decode cX7_ticks 24 = .ok (.aload_n 0, 1) := by decide +kernel
theorem dX7_ticks_25 : decode cX7_ticks 25 = .ok (.bipush (-6), 2) := by decide +kernel
theorem dX7_ticks_27 : decode cX7_ticks 27 = .ok (.invokevirtual 127, 3) := by decide +kernel
theorem dX7_ticks_30 : decode cX7_ticks 30 = .ok (.iinc 2 1, 3) := by decide +kernel
theorem dX7_ticks_33 : decode cX7_ticks 33 = .ok (.goto (-14), 3) := by decide +kernel
theorem dX7_ticks_36 : decode cX7_ticks 36 = .ok (.aload_n 0, 1) := by decide +kernel
theorem dX7_ticks_37 : decode cX7_ticks 37 = .ok (.getfield 7, 3) := by decide +kernel
theorem dX7_ticks_40 : decode cX7_ticks 40 = .ok (.iconst 2, 1) := by decide +kernel
theorem dX7_ticks_41 : decode cX7_ticks 41 = .ok (.iaload, 1) := by decide +kernel
theorem dX7_ticks_42 : decode cX7_ticks 42 = .ok (.ireturn, 1) := by decide +kernel
theorem dX7_ofCar_0 : decode cX7_ofCar 0 = .ok (.aload_n 0, 1) := by decide +kernel
theorem dX7_ofCar_1 : decode cX7_ofCar 1 = .ok (.iload_n 1, 1) := by decide +kernel
theorem dX7_ofCar_2 : decode cX7_ofCar 2 = .ok (.invokevirtual 124, 3) := by decide +kernel
theorem dX7_ofCar_5 : decode cX7_ofCar 5 = .ok (.ifCond .ne 5, 3) := by decide +kernel
theorem dX7_ofCar_8 : decode cX7_ofCar 8 = .ok (.iconst (-1), 1) := by decide +kernel
theorem dX7_ofCar_9 : decode cX7_ofCar 9 = .ok (.ireturn, 1) := by decide +kernel
theorem dX7_ofCar_10 : decode cX7_ofCar 10 = .ok (.iload_n 2, 1) := by decide +kernel
theorem dX7_ofCar_11 : decode cX7_ofCar 11 = .ok (.bipush 9, 2) := by decide +kernel
theorem dX7_ofCar_13 : decode cX7_ofCar 13 = .ok (.if_icmp .ne 11, 3) := by decide +kernel
theorem dX7_ofCar_16 : decode cX7_ofCar 16 = .ok (.aload_n 0, 1) := by decide +kernel
theorem dX7_ofCar_17 : decode cX7_ofCar 17 = .ok (.iload_n 1, 1) := by decide +kernel
theorem dX7_ofCar_18 : decode cX7_ofCar 18 = .ok (.invokevirtual 90, 3) := by decide +kernel
theorem dX7_ofCar_21 : decode cX7_ofCar 21 = .ok (.goto 24, 3) := by decide +kernel
theorem dX7_ofCar_24 : decode cX7_ofCar 24 = .ok (.iload_n 2, 1) := by decide +kernel
theorem dX7_ofCar_25 : decode cX7_ofCar 25 = .ok (.iconst 0, 1) := by decide +kernel
theorem dX7_ofCar_26 : decode cX7_ofCar 26 = .ok (.bipush 8, 2) := by decide +kernel
theorem dX7_ofCar_28 : decode cX7_ofCar 28 = .ok (.invokestatic 54, 3) := by decide +kernel
theorem dX7_ofCar_31 : decode cX7_ofCar 31 = .ok (.ifCond .eq 12, 3) := by decide +kernel
theorem dX7_ofCar_34 : decode cX7_ofCar 34 = .ok (.aload_n 0, 1) := by decide +kernel
theorem dX7_ofCar_35 : decode cX7_ofCar 35 = .ok (.iload_n 1, 1) := by decide +kernel
theorem dX7_ofCar_36 : decode cX7_ofCar 36 = .ok (.iload_n 2, 1) := by decide +kernel
theorem dX7_ofCar_37 : decode cX7_ofCar 37 = .ok (.invokevirtual 46, 3) := by decide +kernel
theorem dX7_ofCar_40 : decode cX7_ofCar 40 = .ok (.goto 5, 3) := by decide +kernel
theorem dX7_ofCar_43 : decode cX7_ofCar 43 = .ok (.bipush (-2), 2) := by decide +kernel
theorem dX7_ofCar_45 : decode cX7_ofCar 45 = .ok (.ireturn, 1) := by decide +kernel
theorem dX7_ofLoop_0 : decode cX7_ofLoop 0 = .ok (.aload_n 0, 1) := by decide +kernel
theorem dX7_ofLoop_1 : decode cX7_ofLoop 1 = .ok (.iload_n 1, 1) := by decide +kernel
theorem dX7_ofLoop_2 : decode cX7_ofLoop 2 = .ok (.invokevirtual 121, 3) := by decide +kernel
theorem dX7_ofLoop_5 : decode cX7_ofLoop 5 = .ok (.ifCond .ne 5, 3) := by decide +kernel
theorem dX7_ofLoop_8 : decode cX7_ofLoop 8 = .ok (.iconst (-1), 1) := by decide +kernel
theorem dX7_ofLoop_9 : decode cX7_ofLoop 9 = .ok (.ireturn, 1) := by decide +kernel
theorem dX7_ofLoop_10 : decode cX7_ofLoop 10 = .ok (.iload_n 2, 1) := by decide +kernel
theorem dX7_ofLoop_11 : decode cX7_ofLoop 11 = .ok (.bipush 8, 2) := by decide +kernel
theorem dX7_ofLoop_13 : decode cX7_ofLoop 13 = .ok (.if_icmp .ne 13, 3) := by decide +kernel
theorem dX7_ofLoop_16 : decode cX7_ofLoop 16 = .ok (.aload_n 0, 1) := by decide +kernel
theorem dX7_ofLoop_17 : decode cX7_ofLoop 17 = .ok (.invokevirtual 77, 3) := by decide +kernel
theorem dX7_ofLoop_20 : decode cX7_ofLoop 20 = .ok (.aload_n 0, 1) := by decide +kernel
theorem dX7_ofLoop_21 : decode cX7_ofLoop 21 = .ok (.iload_n 1, 1) := by decide +kernel
theorem dX7_ofLoop_22 : decode cX7_ofLoop 22 = .ok (.invokevirtual 99, 3) := by decide +kernel
theorem dX7_ofLoop_25 : decode cX7_ofLoop 25 = .ok (.ireturn, 1) := by decide +kernel
theorem dX7_ofLoop_26 : decode cX7_ofLoop 26 = .ok (.iload_n 2, 1) := by decide +kernel
theorem dX7_ofLoop_27 : decode cX7_ofLoop 27 = .ok (.iconst 0, 1) := by decide +kernel
theorem dX7_ofLoop_28 : decode cX7_ofLoop 28 = .ok (.bipush 9, 2) := by decide +kernel
theorem dX7_ofLoop_30 : decode cX7_ofLoop 30 = .ok (.invokestatic 54, 3) := by decide +kernel
theorem dX7_ofLoop_33 : decode cX7_ofLoop 33 = .ok (.ifCond .eq 12, 3) := by decide +kernel
theorem dX7_ofLoop_36 : decode cX7_ofLoop 36 = .ok (.aload_n 0, 1) := by decide +kernel
theorem dX7_ofLoop_37 : decode cX7_ofLoop 37 = .ok (.iload_n 1, 1) := by decide +kernel
theorem dX7_ofLoop_38 : decode cX7_ofLoop 38 = .ok (.iload_n 2, 1) := by decide +kernel
theorem dX7_ofLoop_39 : decode cX7_ofLoop 39 = .ok (.invokevirtual 84, 3) := by decide +kernel
theorem dX7_ofLoop_42 : decode cX7_ofLoop 42 = .ok (.goto 5, 3) := by decide +kernel
theorem dX7_ofLoop_45 : decode cX7_ofLoop 45 = .ok (.bipush (-2), 2) := by decide +kernel
theorem dX7_ofLoop_47 : decode cX7_ofLoop 47 = .ok (.ireturn, 1) := by decide +kernel
theorem dX7_errorOf_0 : decode cX7_errorOf 0 = .ok (.aload_n 0, 1) := by decide +kernel
theorem dX7_errorOf_1 : decode cX7_errorOf 1 = .ok (.iload_n 1, 1) := by decide +kernel
theorem dX7_errorOf_2 : decode cX7_errorOf 2 = .ok (.bipush 6, 2) := by decide +kernel
theorem dX7_errorOf_4 : decode cX7_errorOf 4 = .ok (.invokevirtual 84, 3) := by decide +kernel
theorem dX7_errorOf_7 : decode cX7_errorOf 7 = .ok (.aload_n 0, 1) := by decide +kernel
theorem dX7_errorOf_8 : decode cX7_errorOf 8 = .ok (.iload_n 1, 1) := by decide +kernel
theorem dX7_errorOf_9 : decode cX7_errorOf 9 = .ok (.bipush 7, 2) := by decide +kernel
theorem dX7_errorOf_11 : decode cX7_errorOf 11 = .ok (.invokevirtual 84, 3) := by decide +kernel
theorem dX7_errorOf_14 : decode cX7_errorOf 14 = .ok (.isub, 1) := by decide +kernel
theorem dX7_errorOf_15 : decode cX7_errorOf 15 = .ok (.ireturn, 1) := by decide +kernel
theorem dX7_error_0 : decode cX7_error 0 = .ok (.aload_n 0, 1) := by decide +kernel
theorem dX7_error_1 : decode cX7_error 1 = .ok (.iload_n 1, 1) := by decide +kernel
theorem dX7_error_2 : decode cX7_error 2 = .ok (.invokevirtual 121, 3) := by decide +kernel
theorem dX7_error_5 : decode cX7_error 5 = .ok (.ifCond .eq 15, 3) := by decide +kernel
theorem dX7_error_8 : decode cX7_error 8 = .ok (.sipush 1000, 3) := by decide +kernel
theorem dX7_error_11 : decode cX7_error 11 = .ok (.aload_n 0, 1) := by decide +kernel
theorem dX7_error_12 : decode cX7_error 12 = .ok (.iload_n 1, 1) := by decide +kernel
theorem dX7_error_13 : decode cX7_error 13 = .ok (.invokevirtual 130, 3) := by decide +kernel
theorem dX7_error_16 : decode cX7_error 16 = .ok (.iadd, 1) := by decide +kernel
theorem dX7_error_17 : decode cX7_error 17 = .ok (.goto 4, 3) := by decide +kernel
theorem dX7_error_20 : decode cX7_error 20 = .ok (.iconst (-1), 1) := by decide +kernel
theorem dX7_error_21 : decode cX7_error 21 = .ok (.ireturn, 1) := by decide +kernel
theorem dX7_carAt_0 : decode cX7_carAt 0 = .ok (.iload_n 1, 1) := by decide +kernel
theorem dX7_carAt_1 : decode cX7_carAt 1 = .ok (.iconst 0, 1) := by decide +kernel
theorem dX7_carAt_2 : decode cX7_carAt 2 = .ok (.iconst 1, 1) := by decide +kernel
theorem dX7_carAt_3 : decode cX7_carAt 3 = .ok (.invokestatic 54, 3) := by decide +kernel
theorem dX7_carAt_6 : decode cX7_carAt 6 = .ok (.ifCond .eq 13, 3) := by decide +kernel
theorem dX7_carAt_9 : decode cX7_carAt 9 = .ok (.iload_n 2, 1) := by decide +kernel
theorem dX7_carAt_10 : decode cX7_carAt 10 = .ok (.iconst 0, 1) := by decide +kernel
theorem dX7_carAt_11 : decode cX7_carAt 11 = .ok (.bipush 39, 2) := by decide +kernel
theorem dX7_carAt_13 : decode cX7_carAt 13 = .ok (.invokestatic 54, 3) := by decide +kernel
theorem dX7_carAt_16 : decode cX7_carAt 16 = .ok (.ifCond .ne 5, 3) := by decide +kernel
theorem dX7_carAt_19 : decode cX7_carAt 19 = .ok (.iconst (-1), 1) := by decide +kernel
theorem dX7_carAt_20 : decode cX7_carAt 20 = .ok (.ireturn, 1) := by decide +kernel
theorem dX7_carAt_21 : decode cX7_carAt 21 = .ok (.aload_n 0, 1) := by decide +kernel
theorem dX7_carAt_22 : decode cX7_carAt 22 = .ok (.invokevirtual 77, 3) := by decide +kernel
theorem dX7_carAt_25 : decode cX7_carAt 25 = .ok (.aload_n 0, 1) := by decide +kernel
theorem dX7_carAt_26 : decode cX7_carAt 26 = .ok (.getfield 29, 3) := by decide +kernel
theorem dX7_carAt_29 : decode cX7_carAt 29 = .ok (.bipush 40, 2) := by decide +kernel
theorem dX7_carAt_31 : decode cX7_carAt 31 = .ok (.iload_n 1, 1) := by decide +kernel
theorem dX7_carAt_32 : decode cX7_carAt 32 = .ok (.imul, 1) := by decide +kernel
theorem dX7_carAt_33 : decode cX7_carAt 33 = .ok (.iload_n 2, 1) := by decide +kernel
theorem dX7_carAt_34 : decode cX7_carAt 34 = .ok (.iadd, 1) := by decide +kernel
theorem dX7_carAt_35 : decode cX7_carAt 35 = .ok (.iaload, 1) := by decide +kernel
theorem dX7_carAt_36 : decode cX7_carAt 36 = .ok (.ireturn, 1) := by decide +kernel
theorem dX7_gone_0 : decode cX7_gone 0 = .ok (.iconst 0, 1) := by decide +kernel
theorem dX7_gone_1 : decode cX7_gone 1 = .ok (.istore_n 1, 1) := by decide +kernel
theorem dX7_gone_2 : decode cX7_gone 2 = .ok (.iconst 0, 1) := by decide +kernel
theorem dX7_gone_3 : decode cX7_gone 3 = .ok (.istore_n 2, 1) := by decide +kernel
theorem dX7_gone_4 : decode cX7_gone 4 = .ok (.iload_n 2, 1) := by decide +kernel
theorem dX7_gone_5 : decode cX7_gone 5 = .ok (.aload_n 0, 1) := by decide +kernel
theorem dX7_gone_6 : decode cX7_gone 6 = .ok (.getfield 7, 3) := by decide +kernel
theorem dX7_gone_9 : decode cX7_gone 9 = .ok (.iconst 4, 1) := by decide +kernel
theorem dX7_gone_10 : decode cX7_gone 10 = .ok (.iaload, 1) := by decide +kernel
theorem dX7_gone_11 : decode cX7_gone 11 = .ok (.if_icmp .ge 18, 3) := by decide +kernel
theorem dX7_gone_14 : decode cX7_gone 14 = .ok (.iload_n 1, 1) := by decide +kernel
theorem dX7_gone_15 : decode cX7_gone 15 = .ok (.aload_n 0, 1) := by decide +kernel
theorem dX7_gone_16 : decode cX7_gone 16 = .ok (.iload_n 2, 1) := by decide +kernel
theorem dX7_gone_17 : decode cX7_gone 17 = .ok (.iconst 5, 1) := by decide +kernel
theorem dX7_gone_18 : decode cX7_gone 18 = .ok (.invokevirtual 46, 3) := by decide +kernel
theorem dX7_gone_21 : decode cX7_gone 21 = .ok (.iadd, 1) := by decide +kernel
theorem dX7_gone_22 : decode cX7_gone 22 = .ok (.istore_n 1, 1) := by decide +kernel
theorem dX7_gone_23 : decode cX7_gone 23 = .ok (.iinc 2 1, 3) := by decide +kernel
theorem dX7_gone_26 : decode cX7_gone 26 = .ok (.goto (-22), 3) := by decide +kernel
theorem dX7_gone_29 : decode cX7_gone 29 = .ok (.iload_n 1, 1) := by decide +kernel
theorem dX7_gone_30 : decode cX7_gone 30 = .ok (.ireturn, 1) := by decide +kernel
theorem dX7_sum_0 : decode cX7_sum 0 = .ok (.iconst 0, 1) := by decide +kernel
theorem dX7_sum_1 : decode cX7_sum 1 = .ok (.istore_n 2, 1) := by decide +kernel
theorem dX7_sum_2 : decode cX7_sum 2 = .ok (.iconst 0, 1) := by decide +kernel
theorem dX7_sum_3 : decode cX7_sum 3 = .ok (.istore_n 3, 1) := by decide +kernel
theorem dX7_sum_4 : decode cX7_sum 4 = .ok (.iload_n 3, 1) := by decide +kernel
theorem dX7_sum_5 : decode cX7_sum 5 = .ok (.aload_n 0, 1) := by decide +kernel
theorem dX7_sum_6 : decode cX7_sum 6 = .ok (.getfield 7, 3) := by decide +kernel
theorem dX7_sum_9 : decode cX7_sum 9 = .ok (.iconst 3, 1) := by decide +kernel
theorem dX7_sum_10 : decode cX7_sum 10 = .ok (.iaload, 1) := by decide +kernel
theorem dX7_sum_11 : decode cX7_sum 11 = .ok (.if_icmp .ge 18, 3) := by decide +kernel
theorem dX7_sum_14 : decode cX7_sum 14 = .ok (.iload_n 2, 1) := by decide +kernel
theorem dX7_sum_15 : decode cX7_sum 15 = .ok (.aload_n 0, 1) := by decide +kernel
theorem dX7_sum_16 : decode cX7_sum 16 = .ok (.iload_n 3, 1) := by decide +kernel
theorem dX7_sum_17 : decode cX7_sum 17 = .ok (.iload_n 1, 1) := by decide +kernel
theorem dX7_sum_18 : decode cX7_sum 18 = .ok (.invokevirtual 84, 3) := by decide +kernel
theorem dX7_sum_21 : decode cX7_sum 21 = .ok (.iadd, 1) := by decide +kernel
theorem dX7_sum_22 : decode cX7_sum 22 = .ok (.istore_n 2, 1) := by decide +kernel
theorem dX7_sum_23 : decode cX7_sum 23 = .ok (.iinc 3 1, 3) := by decide +kernel
theorem dX7_sum_26 : decode cX7_sum 26 = .ok (.goto (-22), 3) := by decide +kernel
theorem dX7_sum_29 : decode cX7_sum 29 = .ok (.iload_n 2, 1) := by decide +kernel
theorem dX7_sum_30 : decode cX7_sum 30 = .ok (.ireturn, 1) := by decide +kernel
theorem dX7_count_0 : decode cX7_count 0 = .ok (.iload_n 1, 1) := by decide +kernel
theorem dX7_count_1 : decode cX7_count 1 = .ok (.tableswitch 102 0 9 #[55, 55, 55, 64, 76, 81, 86, 86, 92, 97], 55) := by decide +kernel
theorem dX7_count_56 : decode cX7_count 56 = .ok (.aload_n 0, 1) := by decide +kernel
theorem dX7_count_57 : decode cX7_count 57 = .ok (.getfield 7, 3) := by decide +kernel
theorem dX7_count_60 : decode cX7_count 60 = .ok (.iconst 2, 1) := by decide +kernel
theorem dX7_count_61 : decode cX7_count 61 = .ok (.iload_n 1, 1) := by decide +kernel
theorem dX7_count_62 : decode cX7_count 62 = .ok (.iadd, 1) := by decide +kernel
theorem dX7_count_63 : decode cX7_count 63 = .ok (.iaload, 1) := by decide +kernel
theorem dX7_count_64 : decode cX7_count 64 = .ok (.ireturn, 1) := by decide +kernel
theorem dX7_count_65 : decode cX7_count 65 = .ok (.aload_n 0, 1) := by decide +kernel
theorem dX7_count_66 : decode cX7_count 66 = .ok (.getfield 7, 3) := by decide +kernel
theorem dX7_count_69 : decode cX7_count 69 = .ok (.iconst 4, 1) := by decide +kernel
theorem dX7_count_70 : decode cX7_count 70 = .ok (.iaload, 1) := by decide +kernel
theorem dX7_count_71 : decode cX7_count 71 = .ok (.aload_n 0, 1) := by decide +kernel
theorem dX7_count_72 : decode cX7_count 72 = .ok (.invokevirtual 133, 3) := by decide +kernel
theorem dX7_count_75 : decode cX7_count 75 = .ok (.isub, 1) := by decide +kernel
theorem dX7_count_76 : decode cX7_count 76 = .ok (.ireturn, 1) := by decide +kernel
theorem dX7_count_77 : decode cX7_count 77 = .ok (.aload_n 0, 1) := by decide +kernel
theorem dX7_count_78 : decode cX7_count 78 = .ok (.invokevirtual 133, 3) := by decide +kernel
theorem dX7_count_81 : decode cX7_count 81 = .ok (.ireturn, 1) := by decide +kernel
theorem dX7_count_82 : decode cX7_count 82 = .ok (.aload_n 0, 1) := by decide +kernel
theorem dX7_count_83 : decode cX7_count 83 = .ok (.invokevirtual 108, 3) := by decide +kernel
theorem dX7_count_86 : decode cX7_count 86 = .ok (.ireturn, 1) := by decide +kernel
theorem dX7_count_87 : decode cX7_count 87 = .ok (.aload_n 0, 1) := by decide +kernel
theorem dX7_count_88 : decode cX7_count 88 = .ok (.iload_n 1, 1) := by decide +kernel
theorem dX7_count_89 : decode cX7_count 89 = .ok (.invokevirtual 136, 3) := by decide +kernel
theorem dX7_count_92 : decode cX7_count 92 = .ok (.ireturn, 1) := by decide +kernel
theorem dX7_count_93 : decode cX7_count 93 = .ok (.aload_n 0, 1) := by decide +kernel
theorem dX7_count_94 : decode cX7_count 94 = .ok (.getfield 139, 3) := by decide +kernel
theorem dX7_count_97 : decode cX7_count 97 = .ok (.ireturn, 1) := by decide +kernel
theorem dX7_count_98 : decode cX7_count 98 = .ok (.aload_n 0, 1) := by decide +kernel
theorem dX7_count_99 : decode cX7_count 99 = .ok (.getfield 42, 3) := by decide +kernel
theorem dX7_count_102 : decode cX7_count 102 = .ok (.ireturn, 1) := by decide +kernel
theorem dX7_count_103 : decode cX7_count 103 = .ok (.iload_n 1, 1) := by decide +kernel
theorem dX7_count_104 : decode cX7_count 104 = .ok (.bipush 10, 2) := by decide +kernel
theorem dX7_count_106 : decode cX7_count 106 = .ok (.bipush 11, 2) := by decide +kernel
theorem dX7_count_108 : decode cX7_count 108 = .ok (.invokestatic 54, 3) := by decide +kernel
theorem dX7_count_111 : decode cX7_count 111 = .ok (.ifCond .eq 15, 3) := by decide +kernel
theorem dX7_count_114 : decode cX7_count 114 = .ok (.aload_n 0, 1) := by decide +kernel
theorem dX7_count_115 : decode cX7_count 115 = .ok (.getfield 7, 3) := by decide +kernel
theorem dX7_count_118 : decode cX7_count 118 = .ok (.iload_n 1, 1) := by decide +kernel
theorem dX7_count_119 : decode cX7_count 119 = .ok (.bipush 10, 2) := by decide +kernel
theorem dX7_count_121 : decode cX7_count 121 = .ok (.isub, 1) := by decide +kernel
theorem dX7_count_122 : decode cX7_count 122 = .ok (.iaload, 1) := by decide +kernel
theorem dX7_count_123 : decode cX7_count 123 = .ok (.goto 5, 3) := by decide +kernel
theorem dX7_count_126 : decode cX7_count 126 = .ok (.bipush (-2), 2) := by decide +kernel
theorem dX7_count_128 : decode cX7_count 128 = .ok (.ireturn, 1) := by decide +kernel
theorem dX7_inside_0 : decode cX7_inside 0 = .ok (.aload_n 0, 1) := by decide +kernel
theorem dX7_inside_1 : decode cX7_inside 1 = .ok (.iload_n 1, 1) := by decide +kernel
theorem dX7_inside_2 : decode cX7_inside 2 = .ok (.invokevirtual 121, 3) := by decide +kernel
theorem dX7_inside_5 : decode cX7_inside 5 = .ok (.ifCond .eq 33, 3) := by decide +kernel
theorem dX7_inside_8 : decode cX7_inside 8 = .ok (.aload_n 0, 1) := by decide +kernel
theorem dX7_inside_9 : decode cX7_inside 9 = .ok (.iload_n 2, 1) := by decide +kernel
theorem dX7_inside_10 : decode cX7_inside 10 = .ok (.invokevirtual 121, 3) := by decide +kernel
theorem dX7_inside_13 : decode cX7_inside 13 = .ok (.ifCond .eq 25, 3) := by decide +kernel
theorem dX7_inside_16 : decode cX7_inside 16 = .ok (.sipush 1000, 3) := by decide +kernel
theorem dX7_inside_19 : decode cX7_inside 19 = .ok (.aload_n 0, 1) := by decide +kernel
theorem dX7_inside_20 : decode cX7_inside 20 = .ok (.iload_n 1, 1) := by decide +kernel
theorem dX7_inside_21 : decode cX7_inside 21 = .ok (.bipush 6, 2) := by decide +kernel
theorem dX7_inside_23 : decode cX7_inside 23 = .ok (.invokevirtual 84, 3) := by decide +kernel
theorem dX7_inside_26 : decode cX7_inside 26 = .ok (.iadd, 1) := by decide +kernel
theorem dX7_inside_27 : decode cX7_inside 27 = .ok (.aload_n 0, 1) := by decide +kernel
theorem dX7_inside_28 : decode cX7_inside 28 = .ok (.iload_n 2, 1) := by decide +kernel
theorem dX7_inside_29 : decode cX7_inside 29 = .ok (.bipush 6, 2) := by decide +kernel
theorem dX7_inside_31 : decode cX7_inside 31 = .ok (.invokevirtual 84, 3) := by decide +kernel
theorem dX7_inside_34 : decode cX7_inside 34 = .ok (.isub, 1) := by decide +kernel
theorem dX7_inside_35 : decode cX7_inside 35 = .ok (.goto 4, 3) := by decide +kernel
theorem dX7_inside_38 : decode cX7_inside 38 = .ok (.iconst (-1), 1) := by decide +kernel
theorem dX7_inside_39 : decode cX7_inside 39 = .ok (.ireturn, 1) := by decide +kernel
theorem dX7_counted_0 : decode cX7_counted 0 = .ok (.aload_n 0, 1) := by decide +kernel
theorem dX7_counted_1 : decode cX7_counted 1 = .ok (.iload_n 1, 1) := by decide +kernel
theorem dX7_counted_2 : decode cX7_counted 2 = .ok (.invokevirtual 121, 3) := by decide +kernel
theorem dX7_counted_5 : decode cX7_counted 5 = .ok (.ifCond .ne 5, 3) := by decide +kernel
theorem dX7_counted_8 : decode cX7_counted 8 = .ok (.iconst (-1), 1) := by decide +kernel
theorem dX7_counted_9 : decode cX7_counted 9 = .ok (.ireturn, 1) := by decide +kernel
theorem dX7_counted_10 : decode cX7_counted 10 = .ok (.iload_n 2, 1) := by decide +kernel
theorem dX7_counted_11 : decode cX7_counted 11 = .ok (.iconst 1, 1) := by decide +kernel
theorem dX7_counted_12 : decode cX7_counted 12 = .ok (.bipush 100, 2) := by decide +kernel
theorem dX7_counted_14 : decode cX7_counted 14 = .ok (.invokestatic 54, 3) := by decide +kernel
theorem dX7_counted_17 : decode cX7_counted 17 = .ok (.ifCond .ne 6, 3) := by decide +kernel
theorem dX7_counted_20 : decode cX7_counted 20 = .ok (.bipush (-2), 2) := by decide +kernel
theorem dX7_counted_22 : decode cX7_counted 22 = .ok (.ireturn, 1) := by decide +kernel
theorem dX7_counted_23 : decode cX7_counted 23 = .ok (.aload_n 0, 1) := by decide +kernel
theorem dX7_counted_24 : decode cX7_counted 24 = .ok (.invokevirtual 142, 3) := by decide +kernel
theorem dX7_counted_27 : decode cX7_counted 27 = .ok (.iconst 0, 1) := by decide +kernel
theorem dX7_counted_28 : decode cX7_counted 28 = .ok (.istore 4, 2) := by decide +kernel
theorem dX7_counted_30 : decode cX7_counted 30 = .ok (.iload 4, 2) := by decide +kernel
theorem dX7_counted_32 : decode cX7_counted 32 = .ok (.iload_n 2, 1) := by decide +kernel
theorem dX7_counted_33 : decode cX7_counted 33 = .ok (.if_icmp .ge 14, 3) := by decide +kernel
theorem dX7_counted_36 : decode cX7_counted 36 = .ok (.aload_n 0, 1) := by decide +kernel
theorem dX7_counted_37 : decode cX7_counted 37 = .ok (.iload_n 3, 1) := by decide +kernel
theorem dX7_counted_38 : decode cX7_counted 38 = .ok (.invokevirtual 127, 3) := by decide +kernel
theorem dX7_counted_41 : decode cX7_counted 41 = .ok (.iinc 4 1, 3) := by decide +kernel
theorem dX7_counted_44 : decode cX7_counted 44 = .ok (.goto (-14), 3) := by decide +kernel
theorem dX7_counted_47 : decode cX7_counted 47 = .ok (.aload_n 0, 1) := by decide +kernel
theorem dX7_counted_48 : decode cX7_counted 48 = .ok (.iload_n 1, 1) := by decide +kernel
theorem dX7_counted_49 : decode cX7_counted 49 = .ok (.bipush 6, 2) := by decide +kernel
theorem dX7_counted_51 : decode cX7_counted 51 = .ok (.invokevirtual 84, 3) := by decide +kernel
theorem dX7_counted_54 : decode cX7_counted 54 = .ok (.istore 4, 2) := by decide +kernel
theorem dX7_counted_56 : decode cX7_counted 56 = .ok (.aload_n 0, 1) := by decide +kernel
theorem dX7_counted_57 : decode cX7_counted 57 = .ok (.invokevirtual 145, 3) := by decide +kernel
theorem dX7_counted_60 : decode cX7_counted 60 = .ok (.iload 4, 2) := by decide +kernel
theorem dX7_counted_62 : decode cX7_counted 62 = .ok (.ireturn, 1) := by decide +kernel
theorem dX7_countsIn_0 : decode cX7_countsIn 0 = .ok (.aload_n 0, 1) := by decide +kernel
theorem dX7_countsIn_1 : decode cX7_countsIn 1 = .ok (.iload_n 1, 1) := by decide +kernel
theorem dX7_countsIn_2 : decode cX7_countsIn 2 = .ok (.iload_n 2, 1) := by decide +kernel
theorem dX7_countsIn_3 : decode cX7_countsIn 3 = .ok (.bipush (-6), 2) := by decide +kernel
theorem dX7_countsIn_5 : decode cX7_countsIn 5 = .ok (.invokevirtual 148, 3) := by decide +kernel
theorem dX7_countsIn_8 : decode cX7_countsIn 8 = .ok (.ireturn, 1) := by decide +kernel
theorem dX7_countsAlone_0 : decode cX7_countsAlone 0 = .ok (.aload_n 0, 1) := by decide +kernel
theorem dX7_countsAlone_1 : decode cX7_countsAlone 1 = .ok (.iload_n 1, 1) := by decide +kernel
theorem dX7_countsAlone_2 : decode cX7_countsAlone 2 = .ok (.iload_n 2, 1) := by decide +kernel
theorem dX7_countsAlone_3 : decode cX7_countsAlone 3 = .ok (.iload_n 1, 1) := by decide +kernel
theorem dX7_countsAlone_4 : decode cX7_countsAlone 4 = .ok (.invokevirtual 148, 3) := by decide +kernel
theorem dX7_countsAlone_7 : decode cX7_countsAlone 7 = .ok (.ireturn, 1) := by decide +kernel
theorem dX7_amount_0 : decode cX7_amount 0 = .ok (.iload_n 0, 1) := by decide +kernel
theorem dX7_amount_1 : decode cX7_amount 1 = .ok (.ifCond .ge 8, 3) := by decide +kernel
theorem dX7_amount_4 : decode cX7_amount 4 = .ok (.iload_n 0, 1) := by decide +kernel
theorem dX7_amount_5 : decode cX7_amount 5 = .ok (.ineg, 1) := by decide +kernel
theorem dX7_amount_6 : decode cX7_amount 6 = .ok (.goto 4, 3) := by decide +kernel
theorem dX7_amount_9 : decode cX7_amount 9 = .ok (.iload_n 0, 1) := by decide +kernel
theorem dX7_amount_10 : decode cX7_amount 10 = .ok (.ireturn, 1) := by decide +kernel
theorem dX7_bestUpper_0 : decode cX7_bestUpper 0 = .ok (.aload_n 0, 1) := by decide +kernel
theorem dX7_bestUpper_1 : decode cX7_bestUpper 1 = .ok (.iload_n 1, 1) := by decide +kernel
theorem dX7_bestUpper_2 : decode cX7_bestUpper 2 = .ok (.invokevirtual 121, 3) := by decide +kernel
theorem dX7_bestUpper_5 : decode cX7_bestUpper 5 = .ok (.ifCond .ne 5, 3) := by decide +kernel
theorem dX7_bestUpper_8 : decode cX7_bestUpper 8 = .ok (.iconst (-1), 1) := by decide +kernel
theorem dX7_bestUpper_9 : decode cX7_bestUpper 9 = .ok (.ireturn, 1) := by decide +kernel
theorem dX7_bestUpper_10 : decode cX7_bestUpper 10 = .ok (.iload_n 2, 1) := by decide +kernel
theorem dX7_bestUpper_11 : decode cX7_bestUpper 11 = .ok (.iconst 1, 1) := by decide +kernel
theorem dX7_bestUpper_12 : decode cX7_bestUpper 12 = .ok (.bipush 100, 2) := by decide +kernel
theorem dX7_bestUpper_14 : decode cX7_bestUpper 14 = .ok (.invokestatic 54, 3) := by decide +kernel
theorem dX7_bestUpper_17 : decode cX7_bestUpper 17 = .ok (.ifCond .ne 6, 3) := by decide +kernel
theorem dX7_bestUpper_20 : decode cX7_bestUpper 20 = .ok (.bipush (-2), 2) := by decide +kernel
theorem dX7_bestUpper_22 : decode cX7_bestUpper 22 = .ok (.ireturn, 1) := by decide +kernel
theorem dX7_bestUpper_23 : decode cX7_bestUpper 23 = .ok (.bipush (-6), 2) := by decide +kernel
theorem dX7_bestUpper_25 : decode cX7_bestUpper 25 = .ok (.istore_n 3, 1) := by decide +kernel
theorem dX7_bestUpper_26 : decode cX7_bestUpper 26 = .ok (.iconst 0, 1) := by decide +kernel
theorem dX7_bestUpper_27 : decode cX7_bestUpper 27 = .ok (.istore 4, 2) := by decide +kernel
theorem dX7_bestUpper_29 : decode cX7_bestUpper 29 = .ok (.aload_n 0, 1) := by decide +kernel
theorem dX7_bestUpper_30 : decode cX7_bestUpper 30 = .ok (.invokevirtual 142, 3) := by decide +kernel
theorem dX7_bestUpper_33 : decode cX7_bestUpper 33 = .ok (.aload_n 0, 1) := by decide +kernel
theorem dX7_bestUpper_34 : decode cX7_bestUpper 34 = .ok (.iload_n 1, 1) := by decide +kernel
theorem dX7_bestUpper_35 : decode cX7_bestUpper 35 = .ok (.iconst 4, 1) := by decide +kernel
theorem dX7_bestUpper_36 : decode cX7_bestUpper 36 = .ok (.invokevirtual 84, 3) := by decide +kernel
theorem dX7_bestUpper_39 : decode cX7_bestUpper 39 = .ok (.istore 5, 2) := by decide +kernel
theorem dX7_bestUpper_41 : decode cX7_bestUpper 41 = .ok (.iload 5, 2) := by decide +kernel
theorem dX7_bestUpper_43 : decode cX7_bestUpper 43 = .ok (.istore 6, 2) := by decide +kernel
theorem dX7_bestUpper_45 : decode cX7_bestUpper 45 = .ok (.iload 6, 2) := by decide +kernel
theorem dX7_bestUpper_47 : decode cX7_bestUpper 47 = .ok (.sipush 200, 3) := by decide +kernel
theorem dX7_bestUpper_50 : decode cX7_bestUpper 50 = .ok (.if_icmp .gt 70, 3) := by decide +kernel
theorem dX7_bestUpper_53 : decode cX7_bestUpper 53 = .ok (.aload_n 0, 1) := by decide +kernel
theorem dX7_bestUpper_54 : decode cX7_bestUpper 54 = .ok (.iload_n 1, 1) := by decide +kernel
theorem dX7_bestUpper_55 : decode cX7_bestUpper 55 = .ok (.iconst 3, 1) := by decide +kernel
theorem dX7_bestUpper_56 : decode cX7_bestUpper 56 = .ok (.iload 6, 2) := by decide +kernel
theorem dX7_bestUpper_58 : decode cX7_bestUpper 58 = .ok (.invokevirtual 93, 3) := by decide +kernel
theorem dX7_bestUpper_61 : decode cX7_bestUpper 61 = .ok (.iconst 0, 1) := by decide +kernel
theorem dX7_bestUpper_62 : decode cX7_bestUpper 62 = .ok (.istore 7, 2) := by decide +kernel
theorem dX7_bestUpper_64 : decode cX7_bestUpper 64 = .ok (.iload 7, 2) := by decide +kernel
theorem dX7_bestUpper_66 : decode cX7_bestUpper 66 = .ok (.iload_n 2, 1) := by decide +kernel
theorem dX7_bestUpper_67 : decode cX7_bestUpper 67 = .ok (.if_icmp .ge 15, 3) := by decide +kernel
theorem dX7_bestUpper_70 : decode cX7_bestUpper 70 = .ok (.aload_n 0, 1) := by decide +kernel
theorem dX7_bestUpper_71 : decode cX7_bestUpper 71 = .ok (.bipush (-6), 2) := by decide +kernel
theorem dX7_bestUpper_73 : decode cX7_bestUpper 73 = .ok (.invokevirtual 127, 3) := by decide +kernel
theorem dX7_bestUpper_76 : decode cX7_bestUpper 76 = .ok (.iinc 7 1, 3) := by decide +kernel
theorem dX7_bestUpper_79 : decode cX7_bestUpper 79 = .ok (.goto (-15), 3) := by decide +kernel
theorem dX7_bestUpper_82 : decode cX7_bestUpper 82 = .ok (.aload_n 0, 1) := by decide +kernel
theorem dX7_bestUpper_83 : decode cX7_bestUpper 83 = .ok (.iload_n 1, 1) := by decide +kernel
theorem dX7_bestUpper_84 : decode cX7_bestUpper 84 = .ok (.invokevirtual 130, 3) := by decide +kernel
theorem dX7_bestUpper_87 : decode cX7_bestUpper 87 = .ok (.invokestatic 152, 3) := by decide +kernel
theorem dX7_bestUpper_90 : decode cX7_bestUpper 90 = .ok (.istore 7, 2) := by decide +kernel
theorem dX7_bestUpper_92 : decode cX7_bestUpper 92 = .ok (.aload_n 0, 1) := by decide +kernel
theorem dX7_bestUpper_93 : decode cX7_bestUpper 93 = .ok (.invokevirtual 145, 3) := by decide +kernel
theorem dX7_bestUpper_96 : decode cX7_bestUpper 96 = .ok (.iload_n 3, 1) := by decide +kernel
theorem dX7_bestUpper_97 : decode cX7_bestUpper 97 = .ok (.ifCond .lt 10, 3) := by decide +kernel
theorem dX7_bestUpper_100 : decode cX7_bestUpper 100 = .ok (.iload 7, 2) := by decide +kernel
theorem dX7_bestUpper_102 : decode cX7_bestUpper 102 = .ok (.iload 4, 2) := by decide +kernel
theorem dX7_bestUpper_104 : decode cX7_bestUpper 104 = .ok (.if_icmp .ge 10, 3) := by decide +kernel
theorem dX7_bestUpper_107 : decode cX7_bestUpper 107 = .ok (.iload 6, 2) := by decide +kernel
theorem dX7_bestUpper_109 : decode cX7_bestUpper 109 = .ok (.istore_n 3, 1) := by decide +kernel
theorem dX7_bestUpper_110 : decode cX7_bestUpper 110 = .ok (.iload 7, 2) := by decide +kernel
theorem dX7_bestUpper_112 : decode cX7_bestUpper 112 = .ok (.istore 4, 2) := by decide +kernel
theorem dX7_bestUpper_114 : decode cX7_bestUpper 114 = .ok (.iinc 6 1, 3) := by decide +kernel
theorem dX7_bestUpper_117 : decode cX7_bestUpper 117 = .ok (.goto (-72), 3) := by decide +kernel
theorem dX7_bestUpper_120 : decode cX7_bestUpper 120 = .ok (.iload_n 3, 1) := by decide +kernel
theorem dX7_bestUpper_121 : decode cX7_bestUpper 121 = .ok (.ireturn, 1) := by decide +kernel
theorem dX7_bestTurn_0 : decode cX7_bestTurn 0 = .ok (.iload_n 1, 1) := by decide +kernel
theorem dX7_bestTurn_1 : decode cX7_bestTurn 1 = .ok (.iconst 1, 1) := by decide +kernel
theorem dX7_bestTurn_2 : decode cX7_bestTurn 2 = .ok (.bipush 100, 2) := by decide +kernel
theorem dX7_bestTurn_4 : decode cX7_bestTurn 4 = .ok (.invokestatic 54, 3) := by decide +kernel
theorem dX7_bestTurn_7 : decode cX7_bestTurn 7 = .ok (.ifCond .ne 6, 3) := by decide +kernel
theorem dX7_bestTurn_10 : decode cX7_bestTurn 10 = .ok (.bipush (-2), 2) := by decide +kernel
theorem dX7_bestTurn_12 : decode cX7_bestTurn 12 = .ok (.ireturn, 1) := by decide +kernel
theorem dX7_bestTurn_13 : decode cX7_bestTurn 13 = .ok (.bipush (-6), 2) := by decide +kernel
theorem dX7_bestTurn_15 : decode cX7_bestTurn 15 = .ok (.istore_n 2, 1) := by decide +kernel
theorem dX7_bestTurn_16 : decode cX7_bestTurn 16 = .ok (.iconst 0, 1) := by decide +kernel
theorem dX7_bestTurn_17 : decode cX7_bestTurn 17 = .ok (.istore_n 3, 1) := by decide +kernel
theorem dX7_bestTurn_18 : decode cX7_bestTurn 18 = .ok (.aload_n 0, 1) := by decide +kernel
theorem dX7_bestTurn_19 : decode cX7_bestTurn 19 = .ok (.invokevirtual 142, 3) := by decide +kernel
theorem dX7_bestTurn_22 : decode cX7_bestTurn 22 = .ok (.iconst 1, 1) := by decide +kernel
theorem dX7_bestTurn_23 : decode cX7_bestTurn 23 = .ok (.istore 4, 2) := by decide +kernel
theorem dX7_bestTurn_25 : decode cX7_bestTurn 25 = .ok (.iload 4, 2) := by decide +kernel
theorem dX7_bestTurn_27 : decode cX7_bestTurn 27 = .ok (.bipush 6, 2) := by decide +kernel
theorem dX7_bestTurn_29 : decode cX7_bestTurn 29 = .ok (.if_icmp .ge 95, 3) := by decide +kernel
theorem dX7_bestTurn_32 : decode cX7_bestTurn 32 = .ok (.aload_n 0, 1) := by decide +kernel
theorem dX7_bestTurn_33 : decode cX7_bestTurn 33 = .ok (.getfield 7, 3) := by decide +kernel
theorem dX7_bestTurn_36 : decode cX7_bestTurn 36 = .ok (.iconst 1, 1) := by decide +kernel
theorem dX7_bestTurn_37 : decode cX7_bestTurn 37 = .ok (.iload 4, 2) := by decide +kernel
theorem dX7_bestTurn_39 : decode cX7_bestTurn 39 = .ok (.iastore, 1) := by decide +kernel
theorem dX7_bestTurn_40 : decode cX7_bestTurn 40 = .ok (.iconst 0, 1) := by decide +kernel
theorem dX7_bestTurn_41 : decode cX7_bestTurn 41 = .ok (.istore 5, 2) := by decide +kernel
theorem dX7_bestTurn_43 : decode cX7_bestTurn 43 = .ok (.iload 5, 2) := by decide +kernel
theorem dX7_bestTurn_45 : decode cX7_bestTurn 45 = .ok (.iload_n 1, 1) := by decide +kernel
theorem dX7_bestTurn_46 : decode cX7_bestTurn 46 = .ok (.if_icmp .ge 15, 3) := by decide +kernel
theorem dX7_bestTurn_49 : decode cX7_bestTurn 49 = .ok (.aload_n 0, 1) := by decide +kernel
theorem dX7_bestTurn_50 : decode cX7_bestTurn 50 = .ok (.bipush (-6), 2) := by decide +kernel
theorem dX7_bestTurn_52 : decode cX7_bestTurn 52 = .ok (.invokevirtual 127, 3) := by decide +kernel
theorem dX7_bestTurn_55 : decode cX7_bestTurn 55 = .ok (.iinc 5 1, 3) := by decide +kernel
theorem dX7_bestTurn_58 : decode cX7_bestTurn 58 = .ok (.goto (-15), 3) := by decide +kernel
theorem dX7_bestTurn_61 : decode cX7_bestTurn 61 = .ok (.iconst 0, 1) := by decide +kernel
theorem dX7_bestTurn_62 : decode cX7_bestTurn 62 = .ok (.istore 5, 2) := by decide +kernel
theorem dX7_bestTurn_64 : decode cX7_bestTurn 64 = .ok (.iconst 0, 1) := by decide +kernel
theorem dX7_bestTurn_65 : decode cX7_bestTurn 65 = .ok (.istore 6, 2) := by decide +kernel
theorem dX7_bestTurn_67 : decode cX7_bestTurn 67 = .ok (.iload 6, 2) := by decide +kernel
theorem dX7_bestTurn_69 : decode cX7_bestTurn 69 = .ok (.aload_n 0, 1) := by decide +kernel
theorem dX7_bestTurn_70 : decode cX7_bestTurn 70 = .ok (.getfield 7, 3) := by decide +kernel
theorem dX7_bestTurn_73 : decode cX7_bestTurn 73 = .ok (.iconst 3, 1) := by decide +kernel
theorem dX7_bestTurn_74 : decode cX7_bestTurn 74 = .ok (.iaload, 1) := by decide +kernel
theorem dX7_bestTurn_75 : decode cX7_bestTurn 75 = .ok (.if_icmp .ge 23, 3) := by decide +kernel
theorem dX7_bestTurn_78 : decode cX7_bestTurn 78 = .ok (.iload 5, 2) := by decide +kernel
theorem dX7_bestTurn_80 : decode cX7_bestTurn 80 = .ok (.aload_n 0, 1) := by decide +kernel
theorem dX7_bestTurn_81 : decode cX7_bestTurn 81 = .ok (.iload 6, 2) := by decide +kernel
theorem dX7_bestTurn_83 : decode cX7_bestTurn 83 = .ok (.invokevirtual 130, 3) := by decide +kernel
theorem dX7_bestTurn_86 : decode cX7_bestTurn 86 = .ok (.invokestatic 152, 3) := by decide +kernel
theorem dX7_bestTurn_89 : decode cX7_bestTurn 89 = .ok (.iadd, 1) := by decide +kernel
theorem dX7_bestTurn_90 : decode cX7_bestTurn 90 = .ok (.istore 5, 2) := by decide +kernel
theorem dX7_bestTurn_92 : decode cX7_bestTurn 92 = .ok (.iinc 6 1, 3) := by decide +kernel
theorem dX7_bestTurn_95 : decode cX7_bestTurn 95 = .ok (.goto (-28), 3) := by decide +kernel
theorem dX7_bestTurn_98 : decode cX7_bestTurn 98 = .ok (.aload_n 0, 1) := by decide +kernel
theorem dX7_bestTurn_99 : decode cX7_bestTurn 99 = .ok (.invokevirtual 145, 3) := by decide +kernel
theorem dX7_bestTurn_102 : decode cX7_bestTurn 102 = .ok (.iload_n 2, 1) := by decide +kernel
theorem dX7_bestTurn_103 : decode cX7_bestTurn 103 = .ok (.ifCond .lt 9, 3) := by decide +kernel
theorem dX7_bestTurn_106 : decode cX7_bestTurn 106 = .ok (.iload 5, 2) := by decide +kernel
theorem dX7_bestTurn_108 : decode cX7_bestTurn 108 = .ok (.iload_n 3, 1) := by decide +kernel
theorem dX7_bestTurn_109 : decode cX7_bestTurn 109 = .ok (.if_icmp .ge 9, 3) := by decide +kernel
theorem dX7_bestTurn_112 : decode cX7_bestTurn 112 = .ok (.iload 4, 2) := by decide +kernel
theorem dX7_bestTurn_114 : decode cX7_bestTurn 114 = .ok (.istore_n 2, 1) := by decide +kernel
theorem dX7_bestTurn_115 : decode cX7_bestTurn 115 = .ok (.iload 5, 2) := by decide +kernel
theorem dX7_bestTurn_117 : decode cX7_bestTurn 117 = .ok (.istore_n 3, 1) := by decide +kernel
theorem dX7_bestTurn_118 : decode cX7_bestTurn 118 = .ok (.iinc 4 1, 3) := by decide +kernel
theorem dX7_bestTurn_121 : decode cX7_bestTurn 121 = .ok (.goto (-96), 3) := by decide +kernel
theorem dX7_bestTurn_124 : decode cX7_bestTurn 124 = .ok (.iload_n 2, 1) := by decide +kernel
theorem dX7_bestTurn_125 : decode cX7_bestTurn 125 = .ok (.ireturn, 1) := by decide +kernel
theorem dX7_goneIn_0 : decode cX7_goneIn 0 = .ok (.aload_n 0, 1) := by decide +kernel
theorem dX7_goneIn_1 : decode cX7_goneIn 1 = .ok (.iload_n 1, 1) := by decide +kernel
theorem dX7_goneIn_2 : decode cX7_goneIn 2 = .ok (.invokevirtual 124, 3) := by decide +kernel
theorem dX7_goneIn_5 : decode cX7_goneIn 5 = .ok (.ifCond .ne 5, 3) := by decide +kernel
theorem dX7_goneIn_8 : decode cX7_goneIn 8 = .ok (.iconst (-1), 1) := by decide +kernel
theorem dX7_goneIn_9 : decode cX7_goneIn 9 = .ok (.ireturn, 1) := by decide +kernel
theorem dX7_goneIn_10 : decode cX7_goneIn 10 = .ok (.aload_n 0, 1) := by decide +kernel
theorem dX7_goneIn_11 : decode cX7_goneIn 11 = .ok (.invokevirtual 142, 3) := by decide +kernel
theorem dX7_goneIn_14 : decode cX7_goneIn 14 = .ok (.iconst 0, 1) := by decide +kernel
theorem dX7_goneIn_15 : decode cX7_goneIn 15 = .ok (.istore_n 2, 1) := by decide +kernel
theorem dX7_goneIn_16 : decode cX7_goneIn 16 = .ok (.iload_n 2, 1) := by decide +kernel
theorem dX7_goneIn_17 : decode cX7_goneIn 17 = .ok (.sipush 200, 3) := by decide +kernel
theorem dX7_goneIn_20 : decode cX7_goneIn 20 = .ok (.if_icmp .ge 23, 3) := by decide +kernel
theorem dX7_goneIn_23 : decode cX7_goneIn 23 = .ok (.aload_n 0, 1) := by decide +kernel
theorem dX7_goneIn_24 : decode cX7_goneIn 24 = .ok (.iload_n 1, 1) := by decide +kernel
theorem dX7_goneIn_25 : decode cX7_goneIn 25 = .ok (.invokevirtual 58, 3) := by decide +kernel
theorem dX7_goneIn_28 : decode cX7_goneIn 28 = .ok (.ifCond .eq 15, 3) := by decide +kernel
theorem dX7_goneIn_31 : decode cX7_goneIn 31 = .ok (.aload_n 0, 1) := by decide +kernel
theorem dX7_goneIn_32 : decode cX7_goneIn 32 = .ok (.bipush (-6), 2) := by decide +kernel
theorem dX7_goneIn_34 : decode cX7_goneIn 34 = .ok (.invokevirtual 127, 3) := by decide +kernel
theorem dX7_goneIn_37 : decode cX7_goneIn 37 = .ok (.iinc 2 1, 3) := by decide +kernel
theorem dX7_goneIn_40 : decode cX7_goneIn 40 = .ok (.goto (-24), 3) := by decide +kernel
theorem dX7_goneIn_43 : decode cX7_goneIn 43 = .ok (.aload_n 0, 1) := by decide +kernel
theorem dX7_goneIn_44 : decode cX7_goneIn 44 = .ok (.iload_n 1, 1) := by decide +kernel
theorem dX7_goneIn_45 : decode cX7_goneIn 45 = .ok (.invokevirtual 58, 3) := by decide +kernel
theorem dX7_goneIn_48 : decode cX7_goneIn 48 = .ok (.ifCond .eq 8, 3) := by decide +kernel
theorem dX7_goneIn_51 : decode cX7_goneIn 51 = .ok (.bipush (-6), 2) := by decide +kernel
theorem dX7_goneIn_53 : decode cX7_goneIn 53 = .ok (.goto 4, 3) := by decide +kernel
theorem dX7_goneIn_56 : decode cX7_goneIn 56 = .ok (.iload_n 2, 1) := by decide +kernel
theorem dX7_goneIn_57 : decode cX7_goneIn 57 = .ok (.istore_n 3, 1) := by decide +kernel
theorem dX7_goneIn_58 : decode cX7_goneIn 58 = .ok (.aload_n 0, 1) := by decide +kernel
theorem dX7_goneIn_59 : decode cX7_goneIn 59 = .ok (.invokevirtual 145, 3) := by decide +kernel
theorem dX7_goneIn_62 : decode cX7_goneIn 62 = .ok (.iload_n 3, 1) := by decide +kernel
theorem dX7_goneIn_63 : decode cX7_goneIn 63 = .ok (.ireturn, 1) := by decide +kernel
theorem dX7_sign_0 : decode cX7_sign 0 = .ok (.aload_n 0, 1) := by decide +kernel
theorem dX7_sign_1 : decode cX7_sign 1 = .ok (.getfield 155, 3) := by decide +kernel
theorem dX7_sign_4 : decode cX7_sign 4 = .ok (.aload_n 0, 1) := by decide +kernel
theorem dX7_sign_5 : decode cX7_sign 5 = .ok (.getfield 139, 3) := by decide +kernel
theorem dX7_sign_8 : decode cX7_sign 8 = .ok (.if_icmp .ge 15, 3) := by decide +kernel
theorem dX7_sign_11 : decode cX7_sign 11 = .ok (.aload_n 0, 1) := by decide +kernel
theorem dX7_sign_12 : decode cX7_sign 12 = .ok (.getfield 26, 3) := by decide +kernel
theorem dX7_sign_15 : decode cX7_sign 15 = .ok (.aload_n 0, 1) := by decide +kernel
theorem dX7_sign_16 : decode cX7_sign 16 = .ok (.getfield 155, 3) := by decide +kernel
theorem dX7_sign_19 : decode cX7_sign 19 = .ok (.iaload, 1) := by decide +kernel
theorem dX7_sign_20 : decode cX7_sign 20 = .ok (.goto 4, 3) := by decide +kernel
theorem dX7_sign_23 : decode cX7_sign 23 = .ok (.iconst 0, 1) := by decide +kernel
theorem dX7_sign_24 : decode cX7_sign 24 = .ok (.ireturn, 1) := by decide +kernel
theorem dX7_one_0 : decode cX7_one 0 = .ok (.aload_n 0, 1) := by decide +kernel
theorem dX7_one_1 : decode cX7_one 1 = .ok (.invokevirtual 158, 3) := by decide +kernel
theorem dX7_one_4 : decode cX7_one 4 = .ok (.bipush 48, 2) := by decide +kernel
theorem dX7_one_6 : decode cX7_one 6 = .ok (.isub, 1) := by decide +kernel
theorem dX7_one_7 : decode cX7_one 7 = .ok (.istore_n 3, 1) := by decide +kernel
theorem dX7_one_8 : decode cX7_one 8 = .ok (.aload_n 0, 1) := by decide +kernel
theorem dX7_one_9 : decode cX7_one 9 = .ok (.aload_n 0, 1) := by decide +kernel
theorem dX7_one_10 : decode cX7_one 10 = .ok (.getfield 161, 3) := by decide +kernel
theorem dX7_one_13 : decode cX7_one 13 = .ok (.ifCond .ne 12, 3) := by decide +kernel
theorem dX7_one_16 : decode cX7_one 16 = .ok (.iload_n 3, 1) := by decide +kernel
theorem dX7_one_17 : decode cX7_one 17 = .ok (.iload_n 1, 1) := by decide +kernel
theorem dX7_one_18 : decode cX7_one 18 = .ok (.iload_n 2, 1) := by decide +kernel
theorem dX7_one_19 : decode cX7_one 19 = .ok (.invokestatic 54, 3) := by decide +kernel
theorem dX7_one_22 : decode cX7_one 22 = .ok (.ifCond .ne 7, 3) := by decide +kernel
theorem dX7_one_25 : decode cX7_one 25 = .ok (.iconst 1, 1) := by decide +kernel
theorem dX7_one_26 : decode cX7_one 26 = .ok (.goto 4, 3) := by decide +kernel
theorem dX7_one_29 : decode cX7_one 29 = .ok (.iconst 0, 1) := by decide +kernel
theorem dX7_one_30 : decode cX7_one 30 = .ok (.putfield 161, 3) := by decide +kernel
theorem dX7_one_33 : decode cX7_one 33 = .ok (.aload_n 0, 1) := by decide +kernel
theorem dX7_one_34 : decode cX7_one 34 = .ok (.dup, 1) := by decide +kernel
theorem dX7_one_35 : decode cX7_one 35 = .ok (.getfield 155, 3) := by decide +kernel
theorem dX7_one_38 : decode cX7_one 38 = .ok (.aload_n 0, 1) := by decide +kernel
theorem dX7_one_39 : decode cX7_one 39 = .ok (.getfield 161, 3) := by decide +kernel
theorem dX7_one_42 : decode cX7_one 42 = .ok (.ifCond .eq 7, 3) := by decide +kernel
theorem dX7_one_45 : decode cX7_one 45 = .ok (.iconst 0, 1) := by decide +kernel
theorem dX7_one_46 : decode cX7_one 46 = .ok (.goto 4, 3) := by decide +kernel
theorem dX7_one_49 : decode cX7_one 49 = .ok (.iconst 1, 1) := by decide +kernel
theorem dX7_one_50 : decode cX7_one 50 = .ok (.iadd, 1) := by decide +kernel
theorem dX7_one_51 : decode cX7_one 51 = .ok (.putfield 155, 3) := by decide +kernel
theorem dX7_one_54 : decode cX7_one 54 = .ok (.iload_n 3, 1) := by decide +kernel
theorem dX7_one_55 : decode cX7_one 55 = .ok (.ireturn, 1) := by decide +kernel
theorem dX7_number_0 : decode cX7_number 0 = .ok (.aload_n 0, 1) := by decide +kernel
theorem dX7_number_1 : decode cX7_number 1 = .ok (.iconst 0, 1) := by decide +kernel
theorem dX7_number_2 : decode cX7_number 2 = .ok (.bipush 9, 2) := by decide +kernel
theorem dX7_number_4 : decode cX7_number 4 = .ok (.invokevirtual 164, 3) := by decide +kernel
theorem dX7_number_7 : decode cX7_number 7 = .ok (.istore_n 1, 1) := by decide +kernel
theorem dX7_number_8 : decode cX7_number 8 = .ok (.aload_n 0, 1) := by decide +kernel
theorem dX7_number_9 : decode cX7_number 9 = .ok (.getfield 161, 3) := by decide +kernel
theorem dX7_number_12 : decode cX7_number 12 = .ok (.ifCond .ne 64, 3) := by decide +kernel
theorem dX7_number_15 : decode cX7_number 15 = .ok (.iload_n 1, 1) := by decide +kernel
theorem dX7_number_16 : decode cX7_number 16 = .ok (.ifCond .le 60, 3) := by decide +kernel
theorem dX7_number_19 : decode cX7_number 19 = .ok (.aload_n 0, 1) := by decide +kernel
theorem dX7_number_20 : decode cX7_number 20 = .ok (.invokevirtual 158, 3) := by decide +kernel
theorem dX7_number_23 : decode cX7_number 23 = .ok (.bipush 48, 2) := by decide +kernel
theorem dX7_number_25 : decode cX7_number 25 = .ok (.bipush 57, 2) := by decide +kernel
theorem dX7_number_27 : decode cX7_number 27 = .ok (.invokestatic 54, 3) := by decide +kernel
theorem dX7_number_30 : decode cX7_number 30 = .ok (.ifCond .eq 46, 3) := by decide +kernel
theorem dX7_number_33 : decode cX7_number 33 = .ok (.bipush 10, 2) := by decide +kernel
theorem dX7_number_35 : decode cX7_number 35 = .ok (.iload_n 1, 1) := by decide +kernel
theorem dX7_number_36 : decode cX7_number 36 = .ok (.imul, 1) := by decide +kernel
theorem dX7_number_37 : decode cX7_number 37 = .ok (.aload_n 0, 1) := by decide +kernel
theorem dX7_number_38 : decode cX7_number 38 = .ok (.invokevirtual 158, 3) := by decide +kernel
theorem dX7_number_41 : decode cX7_number 41 = .ok (.iadd, 1) := by decide +kernel
theorem dX7_number_42 : decode cX7_number 42 = .ok (.bipush 48, 2) := by decide +kernel
theorem dX7_number_44 : decode cX7_number 44 = .ok (.isub, 1) := by decide +kernel
theorem dX7_number_45 : decode cX7_number 45 = .ok (.bipush 99, 2) := by decide +kernel
theorem dX7_number_47 : decode cX7_number 47 = .ok (.if_icmp .gt 29, 3) := by decide +kernel
theorem dX7_number_50 : decode cX7_number 50 = .ok (.bipush 10, 2) := by decide +kernel
theorem dX7_number_52 : decode cX7_number 52 = .ok (.iload_n 1, 1) := by decide +kernel
theorem dX7_number_53 : decode cX7_number 53 = .ok (.imul, 1) := by decide +kernel
theorem dX7_number_54 : decode cX7_number 54 = .ok (.aload_n 0, 1) := by decide +kernel
theorem dX7_number_55 : decode cX7_number 55 = .ok (.invokevirtual 158, 3) := by decide +kernel
theorem dX7_number_58 : decode cX7_number 58 = .ok (.iadd, 1) := by decide +kernel
theorem dX7_number_59 : decode cX7_number 59 = .ok (.bipush 48, 2) := by decide +kernel
theorem dX7_number_61 : decode cX7_number 61 = .ok (.isub, 1) := by decide +kernel
theorem dX7_number_62 : decode cX7_number 62 = .ok (.istore_n 1, 1) := by decide +kernel
theorem dX7_number_63 : decode cX7_number 63 = .ok (.aload_n 0, 1) := by decide +kernel
theorem dX7_number_64 : decode cX7_number 64 = .ok (.dup, 1) := by decide +kernel
theorem dX7_number_65 : decode cX7_number 65 = .ok (.getfield 155, 3) := by decide +kernel
theorem dX7_number_68 : decode cX7_number 68 = .ok (.iconst 1, 1) := by decide +kernel
theorem dX7_number_69 : decode cX7_number 69 = .ok (.iadd, 1) := by decide +kernel
theorem dX7_number_70 : decode cX7_number 70 = .ok (.putfield 155, 3) := by decide +kernel
theorem dX7_number_73 : decode cX7_number 73 = .ok (.goto (-65), 3) := by decide +kernel
theorem dX7_number_76 : decode cX7_number 76 = .ok (.iload_n 1, 1) := by decide +kernel
theorem dX7_number_77 : decode cX7_number 77 = .ok (.ireturn, 1) := by decide +kernel
theorem dX7_readOne_0 : decode cX7_readOne 0 = .ok (.iconst 5, 1) := by decide +kernel
theorem dX7_readOne_1 : decode cX7_readOne 1 = .ok (.aload_n 0, 1) := by decide +kernel
theorem dX7_readOne_2 : decode cX7_readOne 2 = .ok (.getfield 167, 3) := by decide +kernel
theorem dX7_readOne_5 : decode cX7_readOne 5 = .ok (.imul, 1) := by decide +kernel
theorem dX7_readOne_6 : decode cX7_readOne 6 = .ok (.istore_n 1, 1) := by decide +kernel
theorem dX7_readOne_7 : decode cX7_readOne 7 = .ok (.aload_n 0, 1) := by decide +kernel
theorem dX7_readOne_8 : decode cX7_readOne 8 = .ok (.invokevirtual 158, 3) := by decide +kernel
theorem dX7_readOne_11 : decode cX7_readOne 11 = .ok (.istore_n 2, 1) := by decide +kernel
theorem dX7_readOne_12 : decode cX7_readOne 12 = .ok (.aload_n 0, 1) := by decide +kernel
theorem dX7_readOne_13 : decode cX7_readOne 13 = .ok (.getfield 35, 3) := by decide +kernel
theorem dX7_readOne_16 : decode cX7_readOne 16 = .ok (.iload_n 1, 1) := by decide +kernel
theorem dX7_readOne_17 : decode cX7_readOne 17 = .ok (.iload_n 2, 1) := by decide +kernel
theorem dX7_readOne_18 : decode cX7_readOne 18 = .ok (.iastore, 1) := by decide +kernel
theorem dX7_readOne_19 : decode cX7_readOne 19 = .ok (.aload_n 0, 1) := by decide +kernel
theorem dX7_readOne_20 : decode cX7_readOne 20 = .ok (.iload_n 2, 1) := by decide +kernel
theorem dX7_readOne_21 : decode cX7_readOne 21 = .ok (.bipush 99, 2) := by decide +kernel
theorem dX7_readOne_23 : decode cX7_readOne 23 = .ok (.if_icmp .eq 19, 3) := by decide +kernel
theorem dX7_readOne_26 : decode cX7_readOne 26 = .ok (.iload_n 2, 1) := by decide +kernel
theorem dX7_readOne_27 : decode cX7_readOne 27 = .ok (.bipush 119, 2) := by decide +kernel
theorem dX7_readOne_29 : decode cX7_readOne 29 = .ok (.if_icmp .eq 13, 3) := by decide +kernel
theorem dX7_readOne_32 : decode cX7_readOne 32 = .ok (.iload_n 2, 1) := by decide +kernel
theorem dX7_readOne_33 : decode cX7_readOne 33 = .ok (.bipush 116, 2) := by decide +kernel
theorem dX7_readOne_35 : decode cX7_readOne 35 = .ok (.if_icmp .eq 7, 3) := by decide +kernel
theorem dX7_readOne_38 : decode cX7_readOne 38 = .ok (.iconst 1, 1) := by decide +kernel
theorem dX7_readOne_39 : decode cX7_readOne 39 = .ok (.goto 4, 3) := by decide +kernel
theorem dX7_readOne_42 : decode cX7_readOne 42 = .ok (.iconst 0, 1) := by decide +kernel
theorem dX7_readOne_43 : decode cX7_readOne 43 = .ok (.putfield 161, 3) := by decide +kernel
theorem dX7_readOne_46 : decode cX7_readOne 46 = .ok (.aload_n 0, 1) := by decide +kernel
theorem dX7_readOne_47 : decode cX7_readOne 47 = .ok (.getfield 161, 3) := by decide +kernel
theorem dX7_readOne_50 : decode cX7_readOne 50 = .ok (.ifCond .eq 4, 3) := by decide +kernel
theorem dX7_readOne_53 : decode cX7_readOne 53 = .ok (.return_, 1) := by decide +kernel
theorem dX7_readOne_54 : decode cX7_readOne 54 = .ok (.aload_n 0, 1) := by decide +kernel
theorem dX7_readOne_55 : decode cX7_readOne 55 = .ok (.dup, 1) := by decide +kernel
theorem dX7_readOne_56 : decode cX7_readOne 56 = .ok (.getfield 155, 3) := by decide +kernel
theorem dX7_readOne_59 : decode cX7_readOne 59 = .ok (.iconst 1, 1) := by decide +kernel
theorem dX7_readOne_60 : decode cX7_readOne 60 = .ok (.iadd, 1) := by decide +kernel
theorem dX7_readOne_61 : decode cX7_readOne 61 = .ok (.putfield 155, 3) := by decide +kernel
theorem dX7_readOne_64 : decode cX7_readOne 64 = .ok (.iload_n 2, 1) := by decide +kernel
theorem dX7_readOne_65 : decode cX7_readOne 65 = .ok (.bipush 99, 2) := by decide +kernel
theorem dX7_readOne_67 : decode cX7_readOne 67 = .ok (.if_icmp .ne 63, 3) := by decide +kernel
theorem dX7_readOne_70 : decode cX7_readOne 70 = .ok (.aload_n 0, 1) := by decide +kernel
theorem dX7_readOne_71 : decode cX7_readOne 71 = .ok (.getfield 35, 3) := by decide +kernel
theorem dX7_readOne_74 : decode cX7_readOne 74 = .ok (.iload_n 1, 1) := by decide +kernel
theorem dX7_readOne_75 : decode cX7_readOne 75 = .ok (.iconst 1, 1) := by decide +kernel
theorem dX7_readOne_76 : decode cX7_readOne 76 = .ok (.iadd, 1) := by decide +kernel
theorem dX7_readOne_77 : decode cX7_readOne 77 = .ok (.aload_n 0, 1) := by decide +kernel
theorem dX7_readOne_78 : decode cX7_readOne 78 = .ok (.iconst 0, 1) := by decide +kernel
theorem dX7_readOne_79 : decode cX7_readOne 79 = .ok (.iconst 1, 1) := by decide +kernel
theorem dX7_readOne_80 : decode cX7_readOne 80 = .ok (.invokevirtual 164, 3) := by decide +kernel
theorem dX7_readOne_83 : decode cX7_readOne 83 = .ok (.iastore, 1) := by decide +kernel
theorem dX7_readOne_84 : decode cX7_readOne 84 = .ok (.aload_n 0, 1) := by decide +kernel
theorem dX7_readOne_85 : decode cX7_readOne 85 = .ok (.getfield 35, 3) := by decide +kernel
theorem dX7_readOne_88 : decode cX7_readOne 88 = .ok (.iload_n 1, 1) := by decide +kernel
theorem dX7_readOne_89 : decode cX7_readOne 89 = .ok (.iconst 2, 1) := by decide +kernel
theorem dX7_readOne_90 : decode cX7_readOne 90 = .ok (.iadd, 1) := by decide +kernel
theorem dX7_readOne_91 : decode cX7_readOne 91 = .ok (.aload_n 0, 1) := by decide +kernel
theorem dX7_readOne_92 : decode cX7_readOne 92 = .ok (.iconst 1, 1) := by decide +kernel
theorem dX7_readOne_93 : decode cX7_readOne 93 = .ok (.iconst 4, 1) := by decide +kernel
theorem dX7_readOne_94 : decode cX7_readOne 94 = .ok (.invokevirtual 164, 3) := by decide +kernel
theorem dX7_readOne_97 : decode cX7_readOne 97 = .ok (.iastore, 1) := by decide +kernel
theorem dX7_readOne_98 : decode cX7_readOne 98 = .ok (.aload_n 0, 1) := by decide +kernel
theorem dX7_readOne_99 : decode cX7_readOne 99 = .ok (.getfield 35, 3) := by decide +kernel
theorem dX7_readOne_102 : decode cX7_readOne 102 = .ok (.iload_n 1, 1) := by decide +kernel
theorem dX7_readOne_103 : decode cX7_readOne 103 = .ok (.iconst 3, 1) := by decide +kernel
theorem dX7_readOne_104 : decode cX7_readOne 104 = .ok (.iadd, 1) := by decide +kernel
theorem dX7_readOne_105 : decode cX7_readOne 105 = .ok (.aload_n 0, 1) := by decide +kernel
theorem dX7_readOne_106 : decode cX7_readOne 106 = .ok (.iconst 1, 1) := by decide +kernel
theorem dX7_readOne_107 : decode cX7_readOne 107 = .ok (.iconst 4, 1) := by decide +kernel
theorem dX7_readOne_108 : decode cX7_readOne 108 = .ok (.invokevirtual 164, 3) := by decide +kernel
theorem dX7_readOne_111 : decode cX7_readOne 111 = .ok (.iastore, 1) := by decide +kernel
theorem dX7_readOne_112 : decode cX7_readOne 112 = .ok (.aload_n 0, 1) := by decide +kernel
theorem dX7_readOne_113 : decode cX7_readOne 113 = .ok (.getfield 35, 3) := by decide +kernel
theorem dX7_readOne_116 : decode cX7_readOne 116 = .ok (.iload_n 1, 1) := by decide +kernel
theorem dX7_readOne_117 : decode cX7_readOne 117 = .ok (.iconst 4, 1) := by decide +kernel
theorem dX7_readOne_118 : decode cX7_readOne 118 = .ok (.iadd, 1) := by decide +kernel
theorem dX7_readOne_119 : decode cX7_readOne 119 = .ok (.aload_n 0, 1) := by decide +kernel
theorem dX7_readOne_120 : decode cX7_readOne 120 = .ok (.iconst 1, 1) := by decide +kernel
theorem dX7_readOne_121 : decode cX7_readOne 121 = .ok (.bipush 9, 2) := by decide +kernel
theorem dX7_readOne_123 : decode cX7_readOne 123 = .ok (.invokevirtual 164, 3) := by decide +kernel
theorem dX7_readOne_126 : decode cX7_readOne 126 = .ok (.iastore, 1) := by decide +kernel
theorem dX7_readOne_127 : decode cX7_readOne 127 = .ok (.goto 15, 3) := by decide +kernel
theorem dX7_readOne_130 : decode cX7_readOne 130 = .ok (.aload_n 0, 1) := by decide +kernel
theorem dX7_readOne_131 : decode cX7_readOne 131 = .ok (.getfield 35, 3) := by decide +kernel
theorem dX7_readOne_134 : decode cX7_readOne 134 = .ok (.iload_n 1, 1) := by decide +kernel
theorem dX7_readOne_135 : decode cX7_readOne 135 = .ok (.iconst 1, 1) := by decide +kernel
theorem dX7_readOne_136 : decode cX7_readOne 136 = .ok (.iadd, 1) := by decide +kernel
theorem dX7_readOne_137 : decode cX7_readOne 137 = .ok (.aload_n 0, 1) := by decide +kernel
theorem dX7_readOne_138 : decode cX7_readOne 138 = .ok (.invokevirtual 170, 3) := by decide +kernel
theorem dX7_readOne_141 : decode cX7_readOne 141 = .ok (.iastore, 1) := by decide +kernel
theorem dX7_readOne_142 : decode cX7_readOne 142 = .ok (.aload_n 0, 1) := by decide +kernel
theorem dX7_readOne_143 : decode cX7_readOne 143 = .ok (.dup, 1) := by decide +kernel
theorem dX7_readOne_144 : decode cX7_readOne 144 = .ok (.getfield 167, 3) := by decide +kernel
theorem dX7_readOne_147 : decode cX7_readOne 147 = .ok (.iconst 1, 1) := by decide +kernel
theorem dX7_readOne_148 : decode cX7_readOne 148 = .ok (.iadd, 1) := by decide +kernel
theorem dX7_readOne_149 : decode cX7_readOne 149 = .ok (.putfield 167, 3) := by decide +kernel
theorem dX7_readOne_152 : decode cX7_readOne 152 = .ok (.return_, 1) := by decide +kernel
theorem dX7_faultOf_0 : decode cX7_faultOf 0 = .ok (.aload_n 0, 1) := by decide +kernel
theorem dX7_faultOf_1 : decode cX7_faultOf 1 = .ok (.iconst 0, 1) := by decide +kernel
theorem dX7_faultOf_2 : decode cX7_faultOf 2 = .ok (.putfield 155, 3) := by decide +kernel
theorem dX7_faultOf_5 : decode cX7_faultOf 5 = .ok (.aload_n 0, 1) := by decide +kernel
theorem dX7_faultOf_6 : decode cX7_faultOf 6 = .ok (.iconst 0, 1) := by decide +kernel
theorem dX7_faultOf_7 : decode cX7_faultOf 7 = .ok (.putfield 167, 3) := by decide +kernel
theorem dX7_faultOf_10 : decode cX7_faultOf 10 = .ok (.aload_n 0, 1) := by decide +kernel
theorem dX7_faultOf_11 : decode cX7_faultOf 11 = .ok (.iconst 0, 1) := by decide +kernel
theorem dX7_faultOf_12 : decode cX7_faultOf 12 = .ok (.putfield 161, 3) := by decide +kernel
theorem dX7_faultOf_15 : decode cX7_faultOf 15 = .ok (.aload_n 0, 1) := by decide +kernel
theorem dX7_faultOf_16 : decode cX7_faultOf 16 = .ok (.invokevirtual 173, 3) := by decide +kernel
theorem dX7_faultOf_19 : decode cX7_faultOf 19 = .ok (.aload_n 0, 1) := by decide +kernel
theorem dX7_faultOf_20 : decode cX7_faultOf 20 = .ok (.getfield 161, 3) := by decide +kernel
theorem dX7_faultOf_23 : decode cX7_faultOf 23 = .ok (.ifCond .ne 56, 3) := by decide +kernel
theorem dX7_faultOf_26 : decode cX7_faultOf 26 = .ok (.aload_n 0, 1) := by decide +kernel
theorem dX7_faultOf_27 : decode cX7_faultOf 27 = .ok (.getfield 155, 3) := by decide +kernel
theorem dX7_faultOf_30 : decode cX7_faultOf 30 = .ok (.aload_n 0, 1) := by decide +kernel
theorem dX7_faultOf_31 : decode cX7_faultOf 31 = .ok (.getfield 139, 3) := by decide +kernel
theorem dX7_faultOf_34 : decode cX7_faultOf 34 = .ok (.if_icmp .ge 45, 3) := by decide +kernel
theorem dX7_faultOf_37 : decode cX7_faultOf 37 = .ok (.aload_n 0, 1) := by decide +kernel
theorem dX7_faultOf_38 : decode cX7_faultOf 38 = .ok (.aload_n 0, 1) := by decide +kernel
theorem dX7_faultOf_39 : decode cX7_faultOf 39 = .ok (.invokevirtual 158, 3) := by decide +kernel
theorem dX7_faultOf_42 : decode cX7_faultOf 42 = .ok (.bipush 59, 2) := by decide +kernel
theorem dX7_faultOf_44 : decode cX7_faultOf 44 = .ok (.if_icmp .eq 7, 3) := by decide +kernel
theorem dX7_faultOf_47 : decode cX7_faultOf 47 = .ok (.iconst 1, 1) := by decide +kernel
theorem dX7_faultOf_48 : decode cX7_faultOf 48 = .ok (.goto 4, 3) := by decide +kernel
theorem dX7_faultOf_51 : decode cX7_faultOf 51 = .ok (.iconst 0, 1) := by decide +kernel
theorem dX7_faultOf_52 : decode cX7_faultOf 52 = .ok (.putfield 161, 3) := by decide +kernel
theorem dX7_faultOf_55 : decode cX7_faultOf 55 = .ok (.aload_n 0, 1) := by decide +kernel
theorem dX7_faultOf_56 : decode cX7_faultOf 56 = .ok (.getfield 161, 3) := by decide +kernel
theorem dX7_faultOf_59 : decode cX7_faultOf 59 = .ok (.ifCond .ne (-40), 3) := by decide +kernel
theorem dX7_faultOf_62 : decode cX7_faultOf 62 = .ok (.aload_n 0, 1) := by decide +kernel
theorem dX7_faultOf_63 : decode cX7_faultOf 63 = .ok (.dup, 1) := by decide +kernel
theorem dX7_faultOf_64 : decode cX7_faultOf 64 = .ok (.getfield 155, 3) := by decide +kernel
theorem dX7_faultOf_67 : decode cX7_faultOf 67 = .ok (.iconst 1, 1) := by decide +kernel
theorem dX7_faultOf_68 : decode cX7_faultOf 68 = .ok (.iadd, 1) := by decide +kernel
theorem dX7_faultOf_69 : decode cX7_faultOf 69 = .ok (.putfield 155, 3) := by decide +kernel
theorem dX7_faultOf_72 : decode cX7_faultOf 72 = .ok (.aload_n 0, 1) := by decide +kernel
theorem dX7_faultOf_73 : decode cX7_faultOf 73 = .ok (.invokevirtual 173, 3) := by decide +kernel
theorem dX7_faultOf_76 : decode cX7_faultOf 76 = .ok (.goto (-57), 3) := by decide +kernel
theorem dX7_faultOf_79 : decode cX7_faultOf 79 = .ok (.aload_n 0, 1) := by decide +kernel
theorem dX7_faultOf_80 : decode cX7_faultOf 80 = .ok (.getfield 161, 3) := by decide +kernel
theorem dX7_faultOf_83 : decode cX7_faultOf 83 = .ok (.ifCond .eq 10, 3) := by decide +kernel
theorem dX7_faultOf_86 : decode cX7_faultOf 86 = .ok (.aload_n 0, 1) := by decide +kernel
theorem dX7_faultOf_87 : decode cX7_faultOf 87 = .ok (.getfield 155, 3) := by decide +kernel
theorem dX7_faultOf_90 : decode cX7_faultOf 90 = .ok (.goto 5, 3) := by decide +kernel
theorem dX7_faultOf_93 : decode cX7_faultOf 93 = .ok (.bipush (-6), 2) := by decide +kernel
theorem dX7_faultOf_95 : decode cX7_faultOf 95 = .ok (.ireturn, 1) := by decide +kernel
theorem dX7_put_0 : decode cX7_put 0 = .ok (.iconst 0, 1) := by decide +kernel
theorem dX7_put_1 : decode cX7_put 1 = .ok (.istore_n 3, 1) := by decide +kernel
theorem dX7_put_2 : decode cX7_put 2 = .ok (.lload_n 1, 1) := by decide +kernel
theorem dX7_put_3 : decode cX7_put 3 = .ok (.lstore 4, 2) := by decide +kernel
theorem dX7_put_5 : decode cX7_put 5 = .ok (.lload 4, 2) := by decide +kernel
theorem dX7_put_7 : decode cX7_put 7 = .ok (.ldc2_w 176, 3) := by decide +kernel
theorem dX7_put_10 : decode cX7_put 10 = .ok (.land, 1) := by decide +kernel
theorem dX7_put_11 : decode cX7_put 11 = .ok (.lconst 0, 1) := by decide +kernel
theorem dX7_put_12 : decode cX7_put 12 = .ok (.lcmp, 1) := by decide +kernel
theorem dX7_put_13 : decode cX7_put 13 = .ok (.ifCond .eq 36, 3) := by decide +kernel
theorem dX7_put_16 : decode cX7_put 16 = .ok (.lload 4, 2) := by decide +kernel
theorem dX7_put_18 : decode cX7_put 18 = .ok (.ldc2_w 176, 3) := by decide +kernel
theorem dX7_put_21 : decode cX7_put 21 = .ok (.land, 1) := by decide +kernel
theorem dX7_put_22 : decode cX7_put 22 = .ok (.l2i, 1) := by decide +kernel
theorem dX7_put_23 : decode cX7_put 23 = .ok (.bipush 33, 2) := by decide +kernel
theorem dX7_put_25 : decode cX7_put 25 = .ok (.bipush 126, 2) := by decide +kernel
theorem dX7_put_27 : decode cX7_put 27 = .ok (.invokestatic 54, 3) := by decide +kernel
theorem dX7_put_30 : decode cX7_put 30 = .ok (.ifCond .ne 6, 3) := by decide +kernel
theorem dX7_put_33 : decode cX7_put 33 = .ok (.bipush (-2), 2) := by decide +kernel
theorem dX7_put_35 : decode cX7_put 35 = .ok (.ireturn, 1) := by decide +kernel
theorem dX7_put_36 : decode cX7_put 36 = .ok (.iinc 3 1, 3) := by decide +kernel
theorem dX7_put_39 : decode cX7_put 39 = .ok (.lload 4, 2) := by decide +kernel
theorem dX7_put_41 : decode cX7_put 41 = .ok (.bipush 8, 2) := by decide +kernel
theorem dX7_put_43 : decode cX7_put 43 = .ok (.lushr, 1) := by decide +kernel
theorem dX7_put_44 : decode cX7_put 44 = .ok (.lstore 4, 2) := by decide +kernel
theorem dX7_put_46 : decode cX7_put 46 = .ok (.goto (-41), 3) := by decide +kernel
theorem dX7_put_49 : decode cX7_put 49 = .ok (.lload 4, 2) := by decide +kernel
theorem dX7_put_51 : decode cX7_put 51 = .ok (.lconst 0, 1) := by decide +kernel
theorem dX7_put_52 : decode cX7_put 52 = .ok (.lcmp, 1) := by decide +kernel
theorem dX7_put_53 : decode cX7_put 53 = .ok (.ifCond .ne 7, 3) := by decide +kernel
theorem dX7_put_56 : decode cX7_put 56 = .ok (.iload_n 3, 1) := by decide +kernel
theorem dX7_put_57 : decode cX7_put 57 = .ok (.ifCond .ne 6, 3) := by decide +kernel
theorem dX7_put_60 : decode cX7_put 60 = .ok (.bipush (-2), 2) := by decide +kernel
theorem dX7_put_62 : decode cX7_put 62 = .ok (.ireturn, 1) := by decide +kernel
theorem dX7_put_63 : decode cX7_put 63 = .ok (.aload_n 0, 1) := by decide +kernel
theorem dX7_put_64 : decode cX7_put 64 = .ok (.getfield 139, 3) := by decide +kernel
theorem dX7_put_67 : decode cX7_put 67 = .ok (.iload_n 3, 1) := by decide +kernel
theorem dX7_put_68 : decode cX7_put 68 = .ok (.iadd, 1) := by decide +kernel
theorem dX7_put_69 : decode cX7_put 69 = .ok (.bipush 60, 2) := by decide +kernel
theorem dX7_put_71 : decode cX7_put 71 = .ok (.if_icmp .le 6, 3) := by decide +kernel
theorem dX7_put_74 : decode cX7_put 74 = .ok (.bipush (-4), 2) := by decide +kernel
theorem dX7_put_76 : decode cX7_put 76 = .ok (.ireturn, 1) := by decide +kernel
theorem dX7_put_77 : decode cX7_put 77 = .ok (.lload_n 1, 1) := by decide +kernel
theorem dX7_put_78 : decode cX7_put 78 = .ok (.lstore 4, 2) := by decide +kernel
theorem dX7_put_80 : decode cX7_put 80 = .ok (.iload_n 3, 1) := by decide +kernel
theorem dX7_put_81 : decode cX7_put 81 = .ok (.iconst 1, 1) := by decide +kernel
theorem dX7_put_82 : decode cX7_put 82 = .ok (.isub, 1) := by decide +kernel
theorem dX7_put_83 : decode cX7_put 83 = .ok (.istore 6, 2) := by decide +kernel
theorem dX7_put_85 : decode cX7_put 85 = .ok (.iload 6, 2) := by decide +kernel
theorem dX7_put_87 : decode cX7_put 87 = .ok (.ifCond .lt 35, 3) := by decide +kernel
theorem dX7_put_90 : decode cX7_put 90 = .ok (.aload_n 0, 1) := by decide +kernel
theorem dX7_put_91 : decode cX7_put 91 = .ok (.getfield 26, 3) := by decide +kernel
theorem dX7_put_94 : decode cX7_put 94 = .ok (.aload_n 0, 1) := by decide +kernel
theorem dX7_put_95 : decode cX7_put 95 = .ok (.getfield 139, 3) := by decide +kernel
theorem dX7_put_98 : decode cX7_put 98 = .ok (.iload 6, 2) := by decide +kernel
theorem dX7_put_100 : decode cX7_put 100 = .ok (.iadd, 1) := by decide +kernel
theorem dX7_put_101 : decode cX7_put 101 = .ok (.lload 4, 2) := by decide +kernel
theorem dX7_put_103 : decode cX7_put 103 = .ok (.ldc2_w 176, 3) := by decide +kernel
theorem dX7_put_106 : decode cX7_put 106 = .ok (.land, 1) := by decide +kernel
theorem dX7_put_107 : decode cX7_put 107 = .ok (.l2i, 1) := by decide +kernel
theorem dX7_put_108 : decode cX7_put 108 = .ok (.iastore, 1) := by decide +kernel
theorem dX7_put_109 : decode cX7_put 109 = .ok (.lload 4, 2) := by decide +kernel
theorem dX7_put_111 : decode cX7_put 111 = .ok (.bipush 8, 2) := by decide +kernel
theorem dX7_put_113 : decode cX7_put 113 = .ok (.lushr, 1) := by decide +kernel
theorem dX7_put_114 : decode cX7_put 114 = .ok (.lstore 4, 2) := by decide +kernel
theorem dX7_put_116 : decode cX7_put 116 = .ok (.iinc 6 (-1), 3) := by decide +kernel
theorem dX7_put_119 : decode cX7_put 119 = .ok (.goto (-34), 3) := by decide +kernel
theorem dX7_put_122 : decode cX7_put 122 = .ok (.aload_n 0, 1) := by decide +kernel
theorem dX7_put_123 : decode cX7_put 123 = .ok (.dup, 1) := by decide +kernel
theorem dX7_put_124 : decode cX7_put 124 = .ok (.getfield 139, 3) := by decide +kernel
theorem dX7_put_127 : decode cX7_put 127 = .ok (.iload_n 3, 1) := by decide +kernel
theorem dX7_put_128 : decode cX7_put 128 = .ok (.iadd, 1) := by decide +kernel
theorem dX7_put_129 : decode cX7_put 129 = .ok (.putfield 139, 3) := by decide +kernel
theorem dX7_put_132 : decode cX7_put 132 = .ok (.aload_n 0, 1) := by decide +kernel
theorem dX7_put_133 : decode cX7_put 133 = .ok (.getfield 139, 3) := by decide +kernel
theorem dX7_put_136 : decode cX7_put 136 = .ok (.ireturn, 1) := by decide +kernel
theorem dX7_wipe_0 : decode cX7_wipe 0 = .ok (.aload_n 0, 1) := by decide +kernel
theorem dX7_wipe_1 : decode cX7_wipe 1 = .ok (.getfield 139, 3) := by decide +kernel
theorem dX7_wipe_4 : decode cX7_wipe 4 = .ok (.istore_n 1, 1) := by decide +kernel
theorem dX7_wipe_5 : decode cX7_wipe 5 = .ok (.aload_n 0, 1) := by decide +kernel
theorem dX7_wipe_6 : decode cX7_wipe 6 = .ok (.iconst 0, 1) := by decide +kernel
theorem dX7_wipe_7 : decode cX7_wipe 7 = .ok (.putfield 139, 3) := by decide +kernel
theorem dX7_wipe_10 : decode cX7_wipe 10 = .ok (.iload_n 1, 1) := by decide +kernel
theorem dX7_wipe_11 : decode cX7_wipe 11 = .ok (.ireturn, 1) := by decide +kernel
theorem dX7_fault_0 : decode cX7_fault 0 = .ok (.aload_n 0, 1) := by decide +kernel
theorem dX7_fault_1 : decode cX7_fault 1 = .ok (.invokevirtual 178, 3) := by decide +kernel
theorem dX7_fault_4 : decode cX7_fault 4 = .ok (.ireturn, 1) := by decide +kernel
theorem dX7_carry_0 : decode cX7_carry 0 = .ok (.aload_n 0, 1) := by decide +kernel
theorem dX7_carry_1 : decode cX7_carry 1 = .ok (.getfield 35, 3) := by decide +kernel
theorem dX7_carry_4 : decode cX7_carry 4 = .ok (.iload_n 1, 1) := by decide +kernel
theorem dX7_carry_5 : decode cX7_carry 5 = .ok (.iconst 1, 1) := by decide +kernel
theorem dX7_carry_6 : decode cX7_carry 6 = .ok (.iadd, 1) := by decide +kernel
theorem dX7_carry_7 : decode cX7_carry 7 = .ok (.iaload, 1) := by decide +kernel
theorem dX7_carry_8 : decode cX7_carry 8 = .ok (.istore_n 2, 1) := by decide +kernel
theorem dX7_carry_9 : decode cX7_carry 9 = .ok (.aload_n 0, 1) := by decide +kernel
theorem dX7_carry_10 : decode cX7_carry 10 = .ok (.getfield 35, 3) := by decide +kernel
theorem dX7_carry_13 : decode cX7_carry 13 = .ok (.iload_n 1, 1) := by decide +kernel
theorem dX7_carry_14 : decode cX7_carry 14 = .ok (.iaload, 1) := by decide +kernel
theorem dX7_carry_15 : decode cX7_carry 15 = .ok (.lookupswitch 61 #[(99, 25), (119, 55)], 25) := by decide +kernel
theorem dX7_carry_40 : decode cX7_carry 40 = .ok (.aload_n 0, 1) := by decide +kernel
theorem dX7_carry_41 : decode cX7_carry 41 = .ok (.iload_n 2, 1) := by decide +kernel
theorem dX7_carry_42 : decode cX7_carry 42 = .ok (.aload_n 0, 1) := by decide +kernel
theorem dX7_carry_43 : decode cX7_carry 43 = .ok (.getfield 35, 3) := by decide +kernel
theorem dX7_carry_46 : decode cX7_carry 46 = .ok (.iload_n 1, 1) := by decide +kernel
theorem dX7_carry_47 : decode cX7_carry 47 = .ok (.iconst 2, 1) := by decide +kernel
theorem dX7_carry_48 : decode cX7_carry 48 = .ok (.iadd, 1) := by decide +kernel
theorem dX7_carry_49 : decode cX7_carry 49 = .ok (.iaload, 1) := by decide +kernel
theorem dX7_carry_50 : decode cX7_carry 50 = .ok (.aload_n 0, 1) := by decide +kernel
theorem dX7_carry_51 : decode cX7_carry 51 = .ok (.getfield 35, 3) := by decide +kernel
theorem dX7_carry_54 : decode cX7_carry 54 = .ok (.iload_n 1, 1) := by decide +kernel
theorem dX7_carry_55 : decode cX7_carry 55 = .ok (.iconst 3, 1) := by decide +kernel
theorem dX7_carry_56 : decode cX7_carry 56 = .ok (.iadd, 1) := by decide +kernel
theorem dX7_carry_57 : decode cX7_carry 57 = .ok (.iaload, 1) := by decide +kernel
theorem dX7_carry_58 : decode cX7_carry 58 = .ok (.aload_n 0, 1) := by decide +kernel
theorem dX7_carry_59 : decode cX7_carry 59 = .ok (.getfield 35, 3) := by decide +kernel
theorem dX7_carry_62 : decode cX7_carry 62 = .ok (.iload_n 1, 1) := by decide +kernel
theorem dX7_carry_63 : decode cX7_carry 63 = .ok (.iconst 4, 1) := by decide +kernel
theorem dX7_carry_64 : decode cX7_carry 64 = .ok (.iadd, 1) := by decide +kernel
theorem dX7_carry_65 : decode cX7_carry 65 = .ok (.iaload, 1) := by decide +kernel
theorem dX7_carry_66 : decode cX7_carry 66 = .ok (.invokevirtual 181, 3) := by decide +kernel
theorem dX7_carry_69 : decode cX7_carry 69 = .ok (.ireturn, 1) := by decide +kernel
theorem dX7_carry_70 : decode cX7_carry 70 = .ok (.aload_n 0, 1) := by decide +kernel
theorem dX7_carry_71 : decode cX7_carry 71 = .ok (.iload_n 2, 1) := by decide +kernel
theorem dX7_carry_72 : decode cX7_carry 72 = .ok (.invokevirtual 185, 3) := by decide +kernel
theorem dX7_carry_75 : decode cX7_carry 75 = .ok (.ireturn, 1) := by decide +kernel
theorem dX7_carry_76 : decode cX7_carry 76 = .ok (.aload_n 0, 1) := by decide +kernel
theorem dX7_carry_77 : decode cX7_carry 77 = .ok (.iload_n 2, 1) := by decide +kernel
theorem dX7_carry_78 : decode cX7_carry 78 = .ok (.invokevirtual 188, 3) := by decide +kernel
theorem dX7_carry_81 : decode cX7_carry 81 = .ok (.ireturn, 1) := by decide +kernel
theorem dX7_carryOut_0 : decode cX7_carryOut 0 = .ok (.aload_n 0, 1) := by decide +kernel
theorem dX7_carryOut_1 : decode cX7_carryOut 1 = .ok (.invokevirtual 178, 3) := by decide +kernel
theorem dX7_carryOut_4 : decode cX7_carryOut 4 = .ok (.bipush (-6), 2) := by decide +kernel
theorem dX7_carryOut_6 : decode cX7_carryOut 6 = .ok (.if_icmp .eq 6, 3) := by decide +kernel
theorem dX7_carryOut_9 : decode cX7_carryOut 9 = .ok (.bipush (-3), 2) := by decide +kernel
theorem dX7_carryOut_11 : decode cX7_carryOut 11 = .ok (.ireturn, 1) := by decide +kernel
theorem dX7_carryOut_12 : decode cX7_carryOut 12 = .ok (.aload_n 0, 1) := by decide +kernel
theorem dX7_carryOut_13 : decode cX7_carryOut 13 = .ok (.invokevirtual 115, 3) := by decide +kernel
theorem dX7_carryOut_16 : decode cX7_carryOut 16 = .ok (.aload_n 0, 1) := by decide +kernel
theorem dX7_carryOut_17 : decode cX7_carryOut 17 = .ok (.iconst 1, 1) := by decide +kernel
theorem dX7_carryOut_18 : decode cX7_carryOut 18 = .ok (.putfield 38, 3) := by decide +kernel
theorem dX7_carryOut_21 : decode cX7_carryOut 21 = .ok (.iconst 0, 1) := by decide +kernel
theorem dX7_carryOut_22 : decode cX7_carryOut 22 = .ok (.istore_n 1, 1) := by decide +kernel
theorem dX7_carryOut_23 : decode cX7_carryOut 23 = .ok (.iload_n 1, 1) := by decide +kernel
theorem dX7_carryOut_24 : decode cX7_carryOut 24 = .ok (.aload_n 0, 1) := by decide +kernel
theorem dX7_carryOut_25 : decode cX7_carryOut 25 = .ok (.getfield 167, 3) := by decide +kernel
theorem dX7_carryOut_28 : decode cX7_carryOut 28 = .ok (.if_icmp .ge 19, 3) := by decide +kernel
theorem dX7_carryOut_31 : decode cX7_carryOut 31 = .ok (.aload_n 0, 1) := by decide +kernel
theorem dX7_carryOut_32 : decode cX7_carryOut 32 = .ok (.iconst 5, 1) := by decide +kernel
theorem dX7_carryOut_33 : decode cX7_carryOut 33 = .ok (.iload_n 1, 1) := by decide +kernel
theorem dX7_carryOut_34 : decode cX7_carryOut 34 = .ok (.imul, 1) := by decide +kernel
theorem dX7_carryOut_35 : decode cX7_carryOut 35 = .ok (.invokevirtual 191, 3) := by decide +kernel
theorem dX7_carryOut_38 : decode cX7_carryOut 38 = .ok (.ifCond .lt 9, 3) := by decide +kernel
theorem dX7_carryOut_41 : decode cX7_carryOut 41 = .ok (.iinc 1 1, 3) := by decide +kernel
theorem dX7_carryOut_44 : decode cX7_carryOut 44 = .ok (.goto (-21), 3) := by decide +kernel
theorem dX7_carryOut_47 : decode cX7_carryOut 47 = .ok (.aload_n 0, 1) := by decide +kernel
theorem dX7_carryOut_48 : decode cX7_carryOut 48 = .ok (.iconst 0, 1) := by decide +kernel
theorem dX7_carryOut_49 : decode cX7_carryOut 49 = .ok (.putfield 38, 3) := by decide +kernel
theorem dX7_carryOut_52 : decode cX7_carryOut 52 = .ok (.aload_n 0, 1) := by decide +kernel
theorem dX7_carryOut_53 : decode cX7_carryOut 53 = .ok (.iconst 0, 1) := by decide +kernel
theorem dX7_carryOut_54 : decode cX7_carryOut 54 = .ok (.putfield 139, 3) := by decide +kernel
theorem dX7_carryOut_57 : decode cX7_carryOut 57 = .ok (.iload_n 1, 1) := by decide +kernel
theorem dX7_carryOut_58 : decode cX7_carryOut 58 = .ok (.ireturn, 1) := by decide +kernel
theorem dX7_undo_0 : decode cX7_undo 0 = .ok (.aload_n 0, 1) := by decide +kernel
theorem dX7_undo_1 : decode cX7_undo 1 = .ok (.getfield 42, 3) := by decide +kernel
theorem dX7_undo_4 : decode cX7_undo 4 = .ok (.ifCond .ne 6, 3) := by decide +kernel
theorem dX7_undo_7 : decode cX7_undo 7 = .ok (.bipush (-5), 2) := by decide +kernel
theorem dX7_undo_9 : decode cX7_undo 9 = .ok (.ireturn, 1) := by decide +kernel
theorem dX7_undo_10 : decode cX7_undo 10 = .ok (.aload_n 0, 1) := by decide +kernel
theorem dX7_undo_11 : decode cX7_undo 11 = .ok (.dup, 1) := by decide +kernel
theorem dX7_undo_12 : decode cX7_undo 12 = .ok (.getfield 42, 3) := by decide +kernel
theorem dX7_undo_15 : decode cX7_undo 15 = .ok (.iconst 1, 1) := by decide +kernel
theorem dX7_undo_16 : decode cX7_undo 16 = .ok (.isub, 1) := by decide +kernel
theorem dX7_undo_17 : decode cX7_undo 17 = .ok (.putfield 42, 3) := by decide +kernel
theorem dX7_undo_20 : decode cX7_undo 20 = .ok (.iconst 0, 1) := by decide +kernel
theorem dX7_undo_21 : decode cX7_undo 21 = .ok (.istore_n 1, 1) := by decide +kernel
theorem dX7_undo_22 : decode cX7_undo 22 = .ok (.iload_n 1, 1) := by decide +kernel
theorem dX7_undo_23 : decode cX7_undo 23 = .ok (.sipush 470, 3) := by decide +kernel
theorem dX7_undo_26 : decode cX7_undo 26 = .ok (.if_icmp .ge 30, 3) := by decide +kernel
theorem dX7_undo_29 : decode cX7_undo 29 = .ok (.aload_n 0, 1) := by decide +kernel
theorem dX7_undo_30 : decode cX7_undo 30 = .ok (.getfield 7, 3) := by decide +kernel
theorem dX7_undo_33 : decode cX7_undo 33 = .ok (.iload_n 1, 1) := by decide +kernel
theorem dX7_undo_34 : decode cX7_undo 34 = .ok (.aload_n 0, 1) := by decide +kernel
theorem dX7_undo_35 : decode cX7_undo 35 = .ok (.getfield 16, 3) := by decide +kernel
theorem dX7_undo_38 : decode cX7_undo 38 = .ok (.aload_n 0, 1) := by decide +kernel
theorem dX7_undo_39 : decode cX7_undo 39 = .ok (.getfield 42, 3) := by decide +kernel
theorem dX7_undo_42 : decode cX7_undo 42 = .ok (.sipush 470, 3) := by decide +kernel
theorem dX7_undo_45 : decode cX7_undo 45 = .ok (.imul, 1) := by decide +kernel
theorem dX7_undo_46 : decode cX7_undo 46 = .ok (.iload_n 1, 1) := by decide +kernel
theorem dX7_undo_47 : decode cX7_undo 47 = .ok (.iadd, 1) := by decide +kernel
theorem dX7_undo_48 : decode cX7_undo 48 = .ok (.iaload, 1) := by decide +kernel
theorem dX7_undo_49 : decode cX7_undo 49 = .ok (.iastore, 1) := by decide +kernel
theorem dX7_undo_50 : decode cX7_undo 50 = .ok (.iinc 1 1, 3) := by decide +kernel
theorem dX7_undo_53 : decode cX7_undo 53 = .ok (.goto (-31), 3) := by decide +kernel
theorem dX7_undo_56 : decode cX7_undo 56 = .ok (.aload_n 0, 1) := by decide +kernel
theorem dX7_undo_57 : decode cX7_undo 57 = .ok (.getfield 42, 3) := by decide +kernel
theorem dX7_undo_60 : decode cX7_undo 60 = .ok (.ireturn, 1) := by decide +kernel
theorem dX7_save_0 : decode cX7_save 0 = .ok (.iload_n 1, 1) := by decide +kernel
theorem dX7_save_1 : decode cX7_save 1 = .ok (.iconst 0, 1) := by decide +kernel
theorem dX7_save_2 : decode cX7_save 2 = .ok (.iconst 1, 1) := by decide +kernel
theorem dX7_save_3 : decode cX7_save 3 = .ok (.invokestatic 54, 3) := by decide +kernel
theorem dX7_save_6 : decode cX7_save 6 = .ok (.ifCond .ne 6, 3) := by decide +kernel
theorem dX7_save_9 : decode cX7_save 9 = .ok (.bipush (-2), 2) := by decide +kernel
theorem dX7_save_11 : decode cX7_save 11 = .ok (.ireturn, 1) := by decide +kernel
theorem dX7_save_12 : decode cX7_save 12 = .ok (.iconst 0, 1) := by decide +kernel
theorem dX7_save_13 : decode cX7_save 13 = .ok (.istore_n 2, 1) := by decide +kernel
theorem dX7_save_14 : decode cX7_save 14 = .ok (.iload_n 2, 1) := by decide +kernel
theorem dX7_save_15 : decode cX7_save 15 = .ok (.sipush 470, 3) := by decide +kernel
theorem dX7_save_18 : decode cX7_save 18 = .ok (.if_icmp .ge 27, 3) := by decide +kernel
theorem dX7_save_21 : decode cX7_save 21 = .ok (.aload_n 0, 1) := by decide +kernel
theorem dX7_save_22 : decode cX7_save 22 = .ok (.getfield 19, 3) := by decide +kernel
theorem dX7_save_25 : decode cX7_save 25 = .ok (.iload_n 1, 1) := by decide +kernel
theorem dX7_save_26 : decode cX7_save 26 = .ok (.sipush 470, 3) := by decide +kernel
theorem dX7_save_29 : decode cX7_save 29 = .ok (.imul, 1) := by decide +kernel
theorem dX7_save_30 : decode cX7_save 30 = .ok (.iload_n 2, 1) := by decide +kernel
theorem dX7_save_31 : decode cX7_save 31 = .ok (.iadd, 1) := by decide +kernel
theorem dX7_save_32 : decode cX7_save 32 = .ok (.aload_n 0, 1) := by decide +kernel
theorem dX7_save_33 : decode cX7_save 33 = .ok (.getfield 7, 3) := by decide +kernel
theorem dX7_save_36 : decode cX7_save 36 = .ok (.iload_n 2, 1) := by decide +kernel
theorem dX7_save_37 : decode cX7_save 37 = .ok (.iaload, 1) := by decide +kernel
theorem dX7_save_38 : decode cX7_save 38 = .ok (.iastore, 1) := by decide +kernel
theorem dX7_save_39 : decode cX7_save 39 = .ok (.iinc 2 1, 3) := by decide +kernel
theorem dX7_save_42 : decode cX7_save 42 = .ok (.goto (-28), 3) := by decide +kernel
theorem dX7_save_45 : decode cX7_save 45 = .ok (.aload_n 0, 1) := by decide +kernel
theorem dX7_save_46 : decode cX7_save 46 = .ok (.getfield 22, 3) := by decide +kernel
theorem dX7_save_49 : decode cX7_save 49 = .ok (.iload_n 1, 1) := by decide +kernel
theorem dX7_save_50 : decode cX7_save 50 = .ok (.iconst 1, 1) := by decide +kernel
theorem dX7_save_51 : decode cX7_save 51 = .ok (.bastore, 1) := by decide +kernel
theorem dX7_save_52 : decode cX7_save 52 = .ok (.aload_n 0, 1) := by decide +kernel
theorem dX7_save_53 : decode cX7_save 53 = .ok (.getfield 7, 3) := by decide +kernel
theorem dX7_save_56 : decode cX7_save 56 = .ok (.iconst 2, 1) := by decide +kernel
theorem dX7_save_57 : decode cX7_save 57 = .ok (.iaload, 1) := by decide +kernel
theorem dX7_save_58 : decode cX7_save 58 = .ok (.ireturn, 1) := by decide +kernel
theorem dX7_restore_0 : decode cX7_restore 0 = .ok (.iload_n 1, 1) := by decide +kernel
theorem dX7_restore_1 : decode cX7_restore 1 = .ok (.iconst 0, 1) := by decide +kernel
theorem dX7_restore_2 : decode cX7_restore 2 = .ok (.iconst 1, 1) := by decide +kernel
theorem dX7_restore_3 : decode cX7_restore 3 = .ok (.invokestatic 54, 3) := by decide +kernel
theorem dX7_restore_6 : decode cX7_restore 6 = .ok (.ifCond .ne 6, 3) := by decide +kernel
theorem dX7_restore_9 : decode cX7_restore 9 = .ok (.bipush (-2), 2) := by decide +kernel
theorem dX7_restore_11 : decode cX7_restore 11 = .ok (.ireturn, 1) := by decide +kernel
theorem dX7_restore_12 : decode cX7_restore 12 = .ok (.aload_n 0, 1) := by decide +kernel
theorem dX7_restore_13 : decode cX7_restore 13 = .ok (.getfield 22, 3) := by decide +kernel
theorem dX7_restore_16 : decode cX7_restore 16 = .ok (.iload_n 1, 1) := by decide +kernel
theorem dX7_restore_17 : decode cX7_restore 17 = .ok (.baload, 1) := by decide +kernel
theorem dX7_restore_18 : decode cX7_restore 18 = .ok (.ifCond .ne 6, 3) := by decide +kernel
theorem dX7_restore_21 : decode cX7_restore 21 = .ok (.bipush (-5), 2) := by decide +kernel
theorem dX7_restore_23 : decode cX7_restore 23 = .ok (.ireturn, 1) := by decide +kernel
theorem dX7_restore_24 : decode cX7_restore 24 = .ok (.aload_n 0, 1) := by decide +kernel
theorem dX7_restore_25 : decode cX7_restore 25 = .ok (.invokevirtual 115, 3) := by decide +kernel
theorem dX7_restore_28 : decode cX7_restore 28 = .ok (.iconst 0, 1) := by decide +kernel
theorem dX7_restore_29 : decode cX7_restore 29 = .ok (.istore_n 2, 1) := by decide +kernel
theorem dX7_restore_30 : decode cX7_restore 30 = .ok (.iload_n 2, 1) := by decide +kernel
theorem dX7_restore_31 : decode cX7_restore 31 = .ok (.sipush 470, 3) := by decide +kernel
theorem dX7_restore_34 : decode cX7_restore 34 = .ok (.if_icmp .ge 27, 3) := by decide +kernel
theorem dX7_restore_37 : decode cX7_restore 37 = .ok (.aload_n 0, 1) := by decide +kernel
theorem dX7_restore_38 : decode cX7_restore 38 = .ok (.getfield 7, 3) := by decide +kernel
theorem dX7_restore_41 : decode cX7_restore 41 = .ok (.iload_n 2, 1) := by decide +kernel
theorem dX7_restore_42 : decode cX7_restore 42 = .ok (.aload_n 0, 1) := by decide +kernel
theorem dX7_restore_43 : decode cX7_restore 43 = .ok (.getfield 19, 3) := by decide +kernel
theorem dX7_restore_46 : decode cX7_restore 46 = .ok (.iload_n 1, 1) := by decide +kernel
theorem dX7_restore_47 : decode cX7_restore 47 = .ok (.sipush 470, 3) := by decide +kernel
theorem dX7_restore_50 : decode cX7_restore 50 = .ok (.imul, 1) := by decide +kernel
theorem dX7_restore_51 : decode cX7_restore 51 = .ok (.iload_n 2, 1) := by decide +kernel
theorem dX7_restore_52 : decode cX7_restore 52 = .ok (.iadd, 1) := by decide +kernel
theorem dX7_restore_53 : decode cX7_restore 53 = .ok (.iaload, 1) := by decide +kernel
theorem dX7_restore_54 : decode cX7_restore 54 = .ok (.iastore, 1) := by decide +kernel
theorem dX7_restore_55 : decode cX7_restore 55 = .ok (.iinc 2 1, 3) := by decide +kernel
theorem dX7_restore_58 : decode cX7_restore 58 = .ok (.goto (-28), 3) := by decide +kernel
theorem dX7_restore_61 : decode cX7_restore 61 = .ok (.aload_n 0, 1) := by decide +kernel
theorem dX7_restore_62 : decode cX7_restore 62 = .ok (.getfield 7, 3) := by decide +kernel
theorem dX7_restore_65 : decode cX7_restore 65 = .ok (.iconst 2, 1) := by decide +kernel
theorem dX7_restore_66 : decode cX7_restore 66 = .ok (.iaload, 1) := by decide +kernel
theorem dX7_restore_67 : decode cX7_restore 67 = .ok (.ireturn, 1) := by decide +kernel
theorem dJ9_abs_0f7a4_0 : decode cJ9_abs_0f7a4 0 = .ok (.iload_n 0, 1) := by decide +kernel
theorem dJ9_abs_0f7a4_1 : decode cJ9_abs_0f7a4 1 = .ok (.ifCond .ge 8, 3) := by decide +kernel
theorem dJ9_abs_0f7a4_4 : decode cJ9_abs_0f7a4 4 = .ok (.iload_n 0, 1) := by decide +kernel
theorem dJ9_abs_0f7a4_5 : decode cJ9_abs_0f7a4 5 = .ok (.ineg, 1) := by decide +kernel
theorem dJ9_abs_0f7a4_6 : decode cJ9_abs_0f7a4 6 = .ok (.goto 4, 3) := by decide +kernel
theorem dJ9_abs_0f7a4_9 : decode cJ9_abs_0f7a4 9 = .ok (.iload_n 0, 1) := by decide +kernel
theorem dJ9_abs_0f7a4_10 : decode cJ9_abs_0f7a4 10 = .ok (.ireturn, 1) := by decide +kernel
theorem dJ9_min_7cf53_0 : decode cJ9_min_7cf53 0 = .ok (.iload_n 0, 1) := by decide +kernel
theorem dJ9_min_7cf53_1 : decode cJ9_min_7cf53 1 = .ok (.iload_n 1, 1) := by decide +kernel
theorem dJ9_min_7cf53_2 : decode cJ9_min_7cf53 2 = .ok (.if_icmp .gt 7, 3) := by decide +kernel
theorem dJ9_min_7cf53_5 : decode cJ9_min_7cf53 5 = .ok (.iload_n 0, 1) := by decide +kernel
theorem dJ9_min_7cf53_6 : decode cJ9_min_7cf53 6 = .ok (.goto 4, 3) := by decide +kernel
theorem dJ9_min_7cf53_9 : decode cJ9_min_7cf53 9 = .ok (.iload_n 1, 1) := by decide +kernel
theorem dJ9_min_7cf53_10 : decode cJ9_min_7cf53 10 = .ok (.ireturn, 1) := by decide +kernel
theorem dL_law_0 : decode cL_law 0 = .ok (.new 7, 3) := by decide +kernel
theorem dL_law_3 : decode cL_law 3 = .ok (.dup, 1) := by decide +kernel
theorem dL_law_4 : decode cL_law 4 = .ok (.invokespecial 9, 3) := by decide +kernel
theorem dL_law_7 : decode cL_law 7 = .ok (.astore_n 1, 1) := by decide +kernel
theorem dL_law_8 : decode cL_law 8 = .ok (.new 10, 3) := by decide +kernel
theorem dL_law_11 : decode cL_law 11 = .ok (.dup, 1) := by decide +kernel
theorem dL_law_12 : decode cL_law 12 = .ok (.invokespecial 12, 3) := by decide +kernel
theorem dL_law_15 : decode cL_law 15 = .ok (.astore_n 2, 1) := by decide +kernel
theorem dL_law_16 : decode cL_law 16 = .ok (.iconst 0, 1) := by decide +kernel
theorem dL_law_17 : decode cL_law 17 = .ok (.istore_n 3, 1) := by decide +kernel
theorem dL_law_18 : decode cL_law 18 = .ok (.iload_n 3, 1) := by decide +kernel
theorem dL_law_19 : decode cL_law 19 = .ok (.aload_n 0, 1) := by decide +kernel
theorem dL_law_20 : decode cL_law 20 = .ok (.arraylength, 1) := by decide +kernel
theorem dL_law_21 : decode cL_law 21 = .ok (.bipush 6, 2) := by decide +kernel
theorem dL_law_23 : decode cL_law 23 = .ok (.isub, 1) := by decide +kernel
theorem dL_law_24 : decode cL_law 24 = .ok (.if_icmp .gt 875, 3) := by decide +kernel
theorem dL_law_27 : decode cL_law 27 = .ok (.aload_n 0, 1) := by decide +kernel
theorem dL_law_28 : decode cL_law 28 = .ok (.iload_n 3, 1) := by decide +kernel
theorem dL_law_29 : decode cL_law 29 = .ok (.iaload, 1) := by decide +kernel
theorem dL_law_30 : decode cL_law 30 = .ok (.bipush 31, 2) := by decide +kernel
theorem dL_law_32 : decode cL_law 32 = .ok (.iand, 1) := by decide +kernel
theorem dL_law_33 : decode cL_law 33 = .ok (.tableswitch 860 0 24 #[115, 148, 211, 254, 307, 330, 363, 386, 419, 452, 475, 508, 531, 564, 597, 630, 663, 686, 709, 762, 775, 788, 801, 814, 837], 115) := by decide +kernel
theorem dL_law_148 : decode cL_law 148 = .ok (.aload_n 1, 1) := by decide +kernel
theorem dL_law_149 : decode cL_law 149 = .ok (.aload_n 0, 1) := by decide +kernel
theorem dL_law_150 : decode cL_law 150 = .ok (.iload_n 3, 1) := by decide +kernel
theorem dL_law_151 : decode cL_law 151 = .ok (.iconst 1, 1) := by decide +kernel
theorem dL_law_152 : decode cL_law 152 = .ok (.iadd, 1) := by decide +kernel
theorem dL_law_153 : decode cL_law 153 = .ok (.iaload, 1) := by decide +kernel
theorem dL_law_154 : decode cL_law 154 = .ok (.aload_n 0, 1) := by decide +kernel
theorem dL_law_155 : decode cL_law 155 = .ok (.iload_n 3, 1) := by decide +kernel
theorem dL_law_156 : decode cL_law 156 = .ok (.iconst 2, 1) := by decide +kernel
theorem dL_law_157 : decode cL_law 157 = .ok (.iadd, 1) := by decide +kernel
theorem dL_law_158 : decode cL_law 158 = .ok (.iaload, 1) := by decide +kernel
theorem dL_law_159 : decode cL_law 159 = .ok (.invokevirtual 13, 3) := by decide +kernel
theorem dL_law_162 : decode cL_law 162 = .ok (.aload_n 2, 1) := by decide +kernel
theorem dL_law_163 : decode cL_law 163 = .ok (.aload_n 0, 1) := by decide +kernel
theorem dL_law_164 : decode cL_law 164 = .ok (.iload_n 3, 1) := by decide +kernel
theorem dL_law_165 : decode cL_law 165 = .ok (.iconst 1, 1) := by decide +kernel
theorem dL_law_166 : decode cL_law 166 = .ok (.iadd, 1) := by decide +kernel
theorem dL_law_167 : decode cL_law 167 = .ok (.iaload, 1) := by decide +kernel
theorem dL_law_168 : decode cL_law 168 = .ok (.aload_n 0, 1) := by decide +kernel
theorem dL_law_169 : decode cL_law 169 = .ok (.iload_n 3, 1) := by decide +kernel
theorem dL_law_170 : decode cL_law 170 = .ok (.iconst 2, 1) := by decide +kernel
theorem dL_law_171 : decode cL_law 171 = .ok (.iadd, 1) := by decide +kernel
theorem dL_law_172 : decode cL_law 172 = .ok (.iaload, 1) := by decide +kernel
theorem dL_law_173 : decode cL_law 173 = .ok (.invokevirtual 17, 3) := by decide +kernel
theorem dL_law_176 : decode cL_law 176 = .ok (.if_icmp .eq 717, 3) := by decide +kernel
theorem dL_law_179 : decode cL_law 179 = .ok (.iconst 0, 1) := by decide +kernel
theorem dL_law_180 : decode cL_law 180 = .ok (.ireturn, 1) := by decide +kernel
theorem dL_law_181 : decode cL_law 181 = .ok (.aload_n 1, 1) := by decide +kernel
theorem dL_law_182 : decode cL_law 182 = .ok (.aload_n 0, 1) := by decide +kernel
theorem dL_law_183 : decode cL_law 183 = .ok (.iload_n 3, 1) := by decide +kernel
theorem dL_law_184 : decode cL_law 184 = .ok (.iconst 1, 1) := by decide +kernel
theorem dL_law_185 : decode cL_law 185 = .ok (.iadd, 1) := by decide +kernel
theorem dL_law_186 : decode cL_law 186 = .ok (.iaload, 1) := by decide +kernel
theorem dL_law_187 : decode cL_law 187 = .ok (.aload_n 0, 1) := by decide +kernel
theorem dL_law_188 : decode cL_law 188 = .ok (.iload_n 3, 1) := by decide +kernel
theorem dL_law_189 : decode cL_law 189 = .ok (.iconst 2, 1) := by decide +kernel
theorem dL_law_190 : decode cL_law 190 = .ok (.iadd, 1) := by decide +kernel
theorem dL_law_191 : decode cL_law 191 = .ok (.iaload, 1) := by decide +kernel
theorem dL_law_192 : decode cL_law 192 = .ok (.aload_n 0, 1) := by decide +kernel
theorem dL_law_193 : decode cL_law 193 = .ok (.iload_n 3, 1) := by decide +kernel
theorem dL_law_194 : decode cL_law 194 = .ok (.iconst 3, 1) := by decide +kernel
theorem dL_law_195 : decode cL_law 195 = .ok (.iadd, 1) := by decide +kernel
theorem dL_law_196 : decode cL_law 196 = .ok (.iaload, 1) := by decide +kernel
theorem dL_law_197 : decode cL_law 197 = .ok (.aload_n 0, 1) := by decide +kernel
theorem dL_law_198 : decode cL_law 198 = .ok (.iload_n 3, 1) := by decide +kernel
theorem dL_law_199 : decode cL_law 199 = .ok (.iconst 4, 1) := by decide +kernel
theorem dL_law_200 : decode cL_law 200 = .ok (.iadd, 1) := by decide +kernel
theorem dL_law_201 : decode cL_law 201 = .ok (.iaload, 1) := by decide +kernel
theorem dL_law_202 : decode cL_law 202 = .ok (.aload_n 0, 1) := by decide +kernel
theorem dL_law_203 : decode cL_law 203 = .ok (.iload_n 3, 1) := by decide +kernel
theorem dL_law_204 : decode cL_law 204 = .ok (.iconst 5, 1) := by decide +kernel
theorem dL_law_205 : decode cL_law 205 = .ok (.iadd, 1) := by decide +kernel
theorem dL_law_206 : decode cL_law 206 = .ok (.iaload, 1) := by decide +kernel
theorem dL_law_207 : decode cL_law 207 = .ok (.invokevirtual 18, 3) := by decide +kernel
theorem dL_law_210 : decode cL_law 210 = .ok (.aload_n 2, 1) := by decide +kernel
theorem dL_law_211 : decode cL_law 211 = .ok (.aload_n 0, 1) := by decide +kernel
theorem dL_law_212 : decode cL_law 212 = .ok (.iload_n 3, 1) := by decide +kernel
theorem dL_law_213 : decode cL_law 213 = .ok (.iconst 1, 1) := by decide +kernel
theorem dL_law_214 : decode cL_law 214 = .ok (.iadd, 1) := by decide +kernel
theorem dL_law_215 : decode cL_law 215 = .ok (.iaload, 1) := by decide +kernel
theorem dL_law_216 : decode cL_law 216 = .ok (.aload_n 0, 1) := by decide +kernel
theorem dL_law_217 : decode cL_law 217 = .ok (.iload_n 3, 1) := by decide +kernel
theorem dL_law_218 : decode cL_law 218 = .ok (.iconst 2, 1) := by decide +kernel
theorem dL_law_219 : decode cL_law 219 = .ok (.iadd, 1) := by decide +kernel
theorem dL_law_220 : decode cL_law 220 = .ok (.iaload, 1) := by decide +kernel
theorem dL_law_221 : decode cL_law 221 = .ok (.aload_n 0, 1) := by decide +kernel
theorem dL_law_222 : decode cL_law 222 = .ok (.iload_n 3, 1) := by decide +kernel
theorem dL_law_223 : decode cL_law 223 = .ok (.iconst 3, 1) := by decide +kernel
theorem dL_law_224 : decode cL_law 224 = .ok (.iadd, 1) := by decide +kernel
theorem dL_law_225 : decode cL_law 225 = .ok (.iaload, 1) := by decide +kernel
theorem dL_law_226 : decode cL_law 226 = .ok (.aload_n 0, 1) := by decide +kernel
theorem dL_law_227 : decode cL_law 227 = .ok (.iload_n 3, 1) := by decide +kernel
theorem dL_law_228 : decode cL_law 228 = .ok (.iconst 4, 1) := by decide +kernel
theorem dL_law_229 : decode cL_law 229 = .ok (.iadd, 1) := by decide +kernel
theorem dL_law_230 : decode cL_law 230 = .ok (.iaload, 1) := by decide +kernel
theorem dL_law_231 : decode cL_law 231 = .ok (.aload_n 0, 1) := by decide +kernel
theorem dL_law_232 : decode cL_law 232 = .ok (.iload_n 3, 1) := by decide +kernel
theorem dL_law_233 : decode cL_law 233 = .ok (.iconst 5, 1) := by decide +kernel
theorem dL_law_234 : decode cL_law 234 = .ok (.iadd, 1) := by decide +kernel
theorem dL_law_235 : decode cL_law 235 = .ok (.iaload, 1) := by decide +kernel
theorem dL_law_236 : decode cL_law 236 = .ok (.invokevirtual 22, 3) := by decide +kernel
theorem dL_law_239 : decode cL_law 239 = .ok (.if_icmp .eq 654, 3) := by decide +kernel
theorem dL_law_242 : decode cL_law 242 = .ok (.iconst 0, 1) := by decide +kernel
theorem dL_law_243 : decode cL_law 243 = .ok (.ireturn, 1) := by decide +kernel
theorem dL_law_244 : decode cL_law 244 = .ok (.aload_n 1, 1) := by decide +kernel
theorem dL_law_245 : decode cL_law 245 = .ok (.aload_n 0, 1) := by decide +kernel
theorem dL_law_246 : decode cL_law 246 = .ok (.iload_n 3, 1) := by decide +kernel
theorem dL_law_247 : decode cL_law 247 = .ok (.iconst 1, 1) := by decide +kernel
theorem dL_law_248 : decode cL_law 248 = .ok (.iadd, 1) := by decide +kernel
theorem dL_law_249 : decode cL_law 249 = .ok (.iaload, 1) := by decide +kernel
theorem dL_law_250 : decode cL_law 250 = .ok (.aload_n 0, 1) := by decide +kernel
theorem dL_law_251 : decode cL_law 251 = .ok (.iload_n 3, 1) := by decide +kernel
theorem dL_law_252 : decode cL_law 252 = .ok (.iconst 2, 1) := by decide +kernel
theorem dL_law_253 : decode cL_law 253 = .ok (.iadd, 1) := by decide +kernel
theorem dL_law_254 : decode cL_law 254 = .ok (.iaload, 1) := by decide +kernel
theorem dL_law_255 : decode cL_law 255 = .ok (.aload_n 0, 1) := by decide +kernel
theorem dL_law_256 : decode cL_law 256 = .ok (.iload_n 3, 1) := by decide +kernel
theorem dL_law_257 : decode cL_law 257 = .ok (.iconst 3, 1) := by decide +kernel
theorem dL_law_258 : decode cL_law 258 = .ok (.iadd, 1) := by decide +kernel
theorem dL_law_259 : decode cL_law 259 = .ok (.iaload, 1) := by decide +kernel
theorem dL_law_260 : decode cL_law 260 = .ok (.invokevirtual 23, 3) := by decide +kernel
theorem dL_law_263 : decode cL_law 263 = .ok (.aload_n 2, 1) := by decide +kernel
theorem dL_law_264 : decode cL_law 264 = .ok (.aload_n 0, 1) := by decide +kernel
theorem dL_law_265 : decode cL_law 265 = .ok (.iload_n 3, 1) := by decide +kernel
theorem dL_law_266 : decode cL_law 266 = .ok (.iconst 1, 1) := by decide +kernel
theorem dL_law_267 : decode cL_law 267 = .ok (.iadd, 1) := by decide +kernel
theorem dL_law_268 : decode cL_law 268 = .ok (.iaload, 1) := by decide +kernel
theorem dL_law_269 : decode cL_law 269 = .ok (.aload_n 0, 1) := by decide +kernel
theorem dL_law_270 : decode cL_law 270 = .ok (.iload_n 3, 1) := by decide +kernel
theorem dL_law_271 : decode cL_law 271 = .ok (.iconst 2, 1) := by decide +kernel
theorem dL_law_272 : decode cL_law 272 = .ok (.iadd, 1) := by decide +kernel
theorem dL_law_273 : decode cL_law 273 = .ok (.iaload, 1) := by decide +kernel
theorem dL_law_274 : decode cL_law 274 = .ok (.aload_n 0, 1) := by decide +kernel
theorem dL_law_275 : decode cL_law 275 = .ok (.iload_n 3, 1) := by decide +kernel
theorem dL_law_276 : decode cL_law 276 = .ok (.iconst 3, 1) := by decide +kernel
theorem dL_law_277 : decode cL_law 277 = .ok (.iadd, 1) := by decide +kernel
theorem dL_law_278 : decode cL_law 278 = .ok (.iaload, 1) := by decide +kernel
theorem dL_law_279 : decode cL_law 279 = .ok (.invokevirtual 27, 3) := by decide +kernel
theorem dL_law_282 : decode cL_law 282 = .ok (.if_icmp .eq 611, 3) := by decide +kernel
theorem dL_law_285 : decode cL_law 285 = .ok (.iconst 0, 1) := by decide +kernel
theorem dL_law_286 : decode cL_law 286 = .ok (.ireturn, 1) := by decide +kernel
theorem dL_law_287 : decode cL_law 287 = .ok (.aload_n 1, 1) := by decide +kernel
theorem dL_law_288 : decode cL_law 288 = .ok (.aload_n 0, 1) := by decide +kernel
theorem dL_law_289 : decode cL_law 289 = .ok (.iload_n 3, 1) := by decide +kernel
theorem dL_law_290 : decode cL_law 290 = .ok (.iconst 1, 1) := by decide +kernel
theorem dL_law_291 : decode cL_law 291 = .ok (.iadd, 1) := by decide +kernel
theorem dL_law_292 : decode cL_law 292 = .ok (.iaload, 1) := by decide +kernel
theorem dL_law_293 : decode cL_law 293 = .ok (.aload_n 0, 1) := by decide +kernel
theorem dL_law_294 : decode cL_law 294 = .ok (.iload_n 3, 1) := by decide +kernel
theorem dL_law_295 : decode cL_law 295 = .ok (.iconst 2, 1) := by decide +kernel
theorem dL_law_296 : decode cL_law 296 = .ok (.iadd, 1) := by decide +kernel
theorem dL_law_297 : decode cL_law 297 = .ok (.iaload, 1) := by decide +kernel
theorem dL_law_298 : decode cL_law 298 = .ok (.aload_n 0, 1) := by decide +kernel
theorem dL_law_299 : decode cL_law 299 = .ok (.iload_n 3, 1) := by decide +kernel
theorem dL_law_300 : decode cL_law 300 = .ok (.iconst 3, 1) := by decide +kernel
theorem dL_law_301 : decode cL_law 301 = .ok (.iadd, 1) := by decide +kernel
theorem dL_law_302 : decode cL_law 302 = .ok (.iaload, 1) := by decide +kernel
theorem dL_law_303 : decode cL_law 303 = .ok (.aload_n 0, 1) := by decide +kernel
theorem dL_law_304 : decode cL_law 304 = .ok (.iload_n 3, 1) := by decide +kernel
theorem dL_law_305 : decode cL_law 305 = .ok (.iconst 4, 1) := by decide +kernel
theorem dL_law_306 : decode cL_law 306 = .ok (.iadd, 1) := by decide +kernel
theorem dL_law_307 : decode cL_law 307 = .ok (.iaload, 1) := by decide +kernel
theorem dL_law_308 : decode cL_law 308 = .ok (.invokevirtual 28, 3) := by decide +kernel
theorem dL_law_311 : decode cL_law 311 = .ok (.aload_n 2, 1) := by decide +kernel
theorem dL_law_312 : decode cL_law 312 = .ok (.aload_n 0, 1) := by decide +kernel
theorem dL_law_313 : decode cL_law 313 = .ok (.iload_n 3, 1) := by decide +kernel
theorem dL_law_314 : decode cL_law 314 = .ok (.iconst 1, 1) := by decide +kernel
theorem dL_law_315 : decode cL_law 315 = .ok (.iadd, 1) := by decide +kernel
theorem dL_law_316 : decode cL_law 316 = .ok (.iaload, 1) := by decide +kernel
theorem dL_law_317 : decode cL_law 317 = .ok (.aload_n 0, 1) := by decide +kernel
theorem dL_law_318 : decode cL_law 318 = .ok (.iload_n 3, 1) := by decide +kernel
theorem dL_law_319 : decode cL_law 319 = .ok (.iconst 2, 1) := by decide +kernel
theorem dL_law_320 : decode cL_law 320 = .ok (.iadd, 1) := by decide +kernel
theorem dL_law_321 : decode cL_law 321 = .ok (.iaload, 1) := by decide +kernel
theorem dL_law_322 : decode cL_law 322 = .ok (.aload_n 0, 1) := by decide +kernel
theorem dL_law_323 : decode cL_law 323 = .ok (.iload_n 3, 1) := by decide +kernel
theorem dL_law_324 : decode cL_law 324 = .ok (.iconst 3, 1) := by decide +kernel
theorem dL_law_325 : decode cL_law 325 = .ok (.iadd, 1) := by decide +kernel
theorem dL_law_326 : decode cL_law 326 = .ok (.iaload, 1) := by decide +kernel
theorem dL_law_327 : decode cL_law 327 = .ok (.aload_n 0, 1) := by decide +kernel
theorem dL_law_328 : decode cL_law 328 = .ok (.iload_n 3, 1) := by decide +kernel
theorem dL_law_329 : decode cL_law 329 = .ok (.iconst 4, 1) := by decide +kernel
theorem dL_law_330 : decode cL_law 330 = .ok (.iadd, 1) := by decide +kernel
theorem dL_law_331 : decode cL_law 331 = .ok (.iaload, 1) := by decide +kernel
theorem dL_law_332 : decode cL_law 332 = .ok (.invokevirtual 32, 3) := by decide +kernel
theorem dL_law_335 : decode cL_law 335 = .ok (.if_icmp .eq 558, 3) := by decide +kernel
theorem dL_law_338 : decode cL_law 338 = .ok (.iconst 0, 1) := by decide +kernel
theorem dL_law_339 : decode cL_law 339 = .ok (.ireturn, 1) := by decide +kernel
theorem dL_law_340 : decode cL_law 340 = .ok (.aload_n 1, 1) := by decide +kernel
theorem dL_law_341 : decode cL_law 341 = .ok (.aload_n 0, 1) := by decide +kernel
theorem dL_law_342 : decode cL_law 342 = .ok (.iload_n 3, 1) := by decide +kernel
theorem dL_law_343 : decode cL_law 343 = .ok (.iconst 1, 1) := by decide +kernel
theorem dL_law_344 : decode cL_law 344 = .ok (.iadd, 1) := by decide +kernel
theorem dL_law_345 : decode cL_law 345 = .ok (.iaload, 1) := by decide +kernel
theorem dL_law_346 : decode cL_law 346 = .ok (.invokevirtual 33, 3) := by decide +kernel
theorem dL_law_349 : decode cL_law 349 = .ok (.aload_n 2, 1) := by decide +kernel
theorem dL_law_350 : decode cL_law 350 = .ok (.aload_n 0, 1) := by decide +kernel
theorem dL_law_351 : decode cL_law 351 = .ok (.iload_n 3, 1) := by decide +kernel
theorem dL_law_352 : decode cL_law 352 = .ok (.iconst 1, 1) := by decide +kernel
theorem dL_law_353 : decode cL_law 353 = .ok (.iadd, 1) := by decide +kernel
theorem dL_law_354 : decode cL_law 354 = .ok (.iaload, 1) := by decide +kernel
theorem dL_law_355 : decode cL_law 355 = .ok (.invokevirtual 37, 3) := by decide +kernel
theorem dL_law_358 : decode cL_law 358 = .ok (.if_icmp .eq 535, 3) := by decide +kernel
theorem dL_law_361 : decode cL_law 361 = .ok (.iconst 0, 1) := by decide +kernel
theorem dL_law_362 : decode cL_law 362 = .ok (.ireturn, 1) := by decide +kernel
theorem dL_law_363 : decode cL_law 363 = .ok (.aload_n 1, 1) := by decide +kernel
theorem dL_law_364 : decode cL_law 364 = .ok (.aload_n 0, 1) := by decide +kernel
theorem dL_law_365 : decode cL_law 365 = .ok (.iload_n 3, 1) := by decide +kernel
theorem dL_law_366 : decode cL_law 366 = .ok (.iconst 1, 1) := by decide +kernel
theorem dL_law_367 : decode cL_law 367 = .ok (.iadd, 1) := by decide +kernel
theorem dL_law_368 : decode cL_law 368 = .ok (.iaload, 1) := by decide +kernel
theorem dL_law_369 : decode cL_law 369 = .ok (.aload_n 0, 1) := by decide +kernel
theorem dL_law_370 : decode cL_law 370 = .ok (.iload_n 3, 1) := by decide +kernel
theorem dL_law_371 : decode cL_law 371 = .ok (.iconst 2, 1) := by decide +kernel
theorem dL_law_372 : decode cL_law 372 = .ok (.iadd, 1) := by decide +kernel
theorem dL_law_373 : decode cL_law 373 = .ok (.iaload, 1) := by decide +kernel
theorem dL_law_374 : decode cL_law 374 = .ok (.invokevirtual 38, 3) := by decide +kernel
theorem dL_law_377 : decode cL_law 377 = .ok (.aload_n 2, 1) := by decide +kernel
theorem dL_law_378 : decode cL_law 378 = .ok (.aload_n 0, 1) := by decide +kernel
theorem dL_law_379 : decode cL_law 379 = .ok (.iload_n 3, 1) := by decide +kernel
theorem dL_law_380 : decode cL_law 380 = .ok (.iconst 1, 1) := by decide +kernel
theorem dL_law_381 : decode cL_law 381 = .ok (.iadd, 1) := by decide +kernel
theorem dL_law_382 : decode cL_law 382 = .ok (.iaload, 1) := by decide +kernel
theorem dL_law_383 : decode cL_law 383 = .ok (.aload_n 0, 1) := by decide +kernel
theorem dL_law_384 : decode cL_law 384 = .ok (.iload_n 3, 1) := by decide +kernel
theorem dL_law_385 : decode cL_law 385 = .ok (.iconst 2, 1) := by decide +kernel
theorem dL_law_386 : decode cL_law 386 = .ok (.iadd, 1) := by decide +kernel
theorem dL_law_387 : decode cL_law 387 = .ok (.iaload, 1) := by decide +kernel
theorem dL_law_388 : decode cL_law 388 = .ok (.invokevirtual 41, 3) := by decide +kernel
theorem dL_law_391 : decode cL_law 391 = .ok (.if_icmp .eq 502, 3) := by decide +kernel
theorem dL_law_394 : decode cL_law 394 = .ok (.iconst 0, 1) := by decide +kernel
theorem dL_law_395 : decode cL_law 395 = .ok (.ireturn, 1) := by decide +kernel
theorem dL_law_396 : decode cL_law 396 = .ok (.aload_n 1, 1) := by decide +kernel
theorem dL_law_397 : decode cL_law 397 = .ok (.aload_n 0, 1) := by decide +kernel
theorem dL_law_398 : decode cL_law 398 = .ok (.iload_n 3, 1) := by decide +kernel
theorem dL_law_399 : decode cL_law 399 = .ok (.iconst 1, 1) := by decide +kernel
theorem dL_law_400 : decode cL_law 400 = .ok (.iadd, 1) := by decide +kernel
theorem dL_law_401 : decode cL_law 401 = .ok (.iaload, 1) := by decide +kernel
theorem dL_law_402 : decode cL_law 402 = .ok (.invokevirtual 42, 3) := by decide +kernel
theorem dL_law_405 : decode cL_law 405 = .ok (.aload_n 2, 1) := by decide +kernel
theorem dL_law_406 : decode cL_law 406 = .ok (.aload_n 0, 1) := by decide +kernel
theorem dL_law_407 : decode cL_law 407 = .ok (.iload_n 3, 1) := by decide +kernel
theorem dL_law_408 : decode cL_law 408 = .ok (.iconst 1, 1) := by decide +kernel
theorem dL_law_409 : decode cL_law 409 = .ok (.iadd, 1) := by decide +kernel
theorem dL_law_410 : decode cL_law 410 = .ok (.iaload, 1) := by decide +kernel
theorem dL_law_411 : decode cL_law 411 = .ok (.invokevirtual 45, 3) := by decide +kernel
theorem dL_law_414 : decode cL_law 414 = .ok (.if_icmp .eq 479, 3) := by decide +kernel
theorem dL_law_417 : decode cL_law 417 = .ok (.iconst 0, 1) := by decide +kernel
theorem dL_law_418 : decode cL_law 418 = .ok (.ireturn, 1) := by decide +kernel
theorem dL_law_419 : decode cL_law 419 = .ok (.aload_n 1, 1) := by decide +kernel
theorem dL_law_420 : decode cL_law 420 = .ok (.aload_n 0, 1) := by decide +kernel
theorem dL_law_421 : decode cL_law 421 = .ok (.iload_n 3, 1) := by decide +kernel
theorem dL_law_422 : decode cL_law 422 = .ok (.iconst 1, 1) := by decide +kernel
theorem dL_law_423 : decode cL_law 423 = .ok (.iadd, 1) := by decide +kernel
theorem dL_law_424 : decode cL_law 424 = .ok (.iaload, 1) := by decide +kernel
theorem dL_law_425 : decode cL_law 425 = .ok (.aload_n 0, 1) := by decide +kernel
theorem dL_law_426 : decode cL_law 426 = .ok (.iload_n 3, 1) := by decide +kernel
theorem dL_law_427 : decode cL_law 427 = .ok (.iconst 2, 1) := by decide +kernel
theorem dL_law_428 : decode cL_law 428 = .ok (.iadd, 1) := by decide +kernel
theorem dL_law_429 : decode cL_law 429 = .ok (.iaload, 1) := by decide +kernel
theorem dL_law_430 : decode cL_law 430 = .ok (.invokevirtual 46, 3) := by decide +kernel
theorem dL_law_433 : decode cL_law 433 = .ok (.aload_n 2, 1) := by decide +kernel
theorem dL_law_434 : decode cL_law 434 = .ok (.aload_n 0, 1) := by decide +kernel
theorem dL_law_435 : decode cL_law 435 = .ok (.iload_n 3, 1) := by decide +kernel
theorem dL_law_436 : decode cL_law 436 = .ok (.iconst 1, 1) := by decide +kernel
theorem dL_law_437 : decode cL_law 437 = .ok (.iadd, 1) := by decide +kernel
theorem dL_law_438 : decode cL_law 438 = .ok (.iaload, 1) := by decide +kernel
theorem dL_law_439 : decode cL_law 439 = .ok (.aload_n 0, 1) := by decide +kernel
theorem dL_law_440 : decode cL_law 440 = .ok (.iload_n 3, 1) := by decide +kernel
theorem dL_law_441 : decode cL_law 441 = .ok (.iconst 2, 1) := by decide +kernel
theorem dL_law_442 : decode cL_law 442 = .ok (.iadd, 1) := by decide +kernel
theorem dL_law_443 : decode cL_law 443 = .ok (.iaload, 1) := by decide +kernel
theorem dL_law_444 : decode cL_law 444 = .ok (.invokevirtual 49, 3) := by decide +kernel
theorem dL_law_447 : decode cL_law 447 = .ok (.if_icmp .eq 446, 3) := by decide +kernel
theorem dL_law_450 : decode cL_law 450 = .ok (.iconst 0, 1) := by decide +kernel
theorem dL_law_451 : decode cL_law 451 = .ok (.ireturn, 1) := by decide +kernel
theorem dL_law_452 : decode cL_law 452 = .ok (.aload_n 1, 1) := by decide +kernel
theorem dL_law_453 : decode cL_law 453 = .ok (.aload_n 0, 1) := by decide +kernel
theorem dL_law_454 : decode cL_law 454 = .ok (.iload_n 3, 1) := by decide +kernel
theorem dL_law_455 : decode cL_law 455 = .ok (.iconst 1, 1) := by decide +kernel
theorem dL_law_456 : decode cL_law 456 = .ok (.iadd, 1) := by decide +kernel
theorem dL_law_457 : decode cL_law 457 = .ok (.iaload, 1) := by decide +kernel
theorem dL_law_458 : decode cL_law 458 = .ok (.aload_n 0, 1) := by decide +kernel
theorem dL_law_459 : decode cL_law 459 = .ok (.iload_n 3, 1) := by decide +kernel
theorem dL_law_460 : decode cL_law 460 = .ok (.iconst 2, 1) := by decide +kernel
theorem dL_law_461 : decode cL_law 461 = .ok (.iadd, 1) := by decide +kernel
theorem dL_law_462 : decode cL_law 462 = .ok (.iaload, 1) := by decide +kernel
theorem dL_law_463 : decode cL_law 463 = .ok (.invokevirtual 50, 3) := by decide +kernel
theorem dL_law_466 : decode cL_law 466 = .ok (.aload_n 2, 1) := by decide +kernel
theorem dL_law_467 : decode cL_law 467 = .ok (.aload_n 0, 1) := by decide +kernel
theorem dL_law_468 : decode cL_law 468 = .ok (.iload_n 3, 1) := by decide +kernel
theorem dL_law_469 : decode cL_law 469 = .ok (.iconst 1, 1) := by decide +kernel
theorem dL_law_470 : decode cL_law 470 = .ok (.iadd, 1) := by decide +kernel
theorem dL_law_471 : decode cL_law 471 = .ok (.iaload, 1) := by decide +kernel
theorem dL_law_472 : decode cL_law 472 = .ok (.aload_n 0, 1) := by decide +kernel
theorem dL_law_473 : decode cL_law 473 = .ok (.iload_n 3, 1) := by decide +kernel
theorem dL_law_474 : decode cL_law 474 = .ok (.iconst 2, 1) := by decide +kernel
theorem dL_law_475 : decode cL_law 475 = .ok (.iadd, 1) := by decide +kernel
theorem dL_law_476 : decode cL_law 476 = .ok (.iaload, 1) := by decide +kernel
theorem dL_law_477 : decode cL_law 477 = .ok (.invokevirtual 53, 3) := by decide +kernel
theorem dL_law_480 : decode cL_law 480 = .ok (.if_icmp .eq 413, 3) := by decide +kernel
theorem dL_law_483 : decode cL_law 483 = .ok (.iconst 0, 1) := by decide +kernel
theorem dL_law_484 : decode cL_law 484 = .ok (.ireturn, 1) := by decide +kernel
theorem dL_law_485 : decode cL_law 485 = .ok (.aload_n 1, 1) := by decide +kernel
theorem dL_law_486 : decode cL_law 486 = .ok (.aload_n 0, 1) := by decide +kernel
theorem dL_law_487 : decode cL_law 487 = .ok (.iload_n 3, 1) := by decide +kernel
theorem dL_law_488 : decode cL_law 488 = .ok (.iconst 1, 1) := by decide +kernel
theorem dL_law_489 : decode cL_law 489 = .ok (.iadd, 1) := by decide +kernel
theorem dL_law_490 : decode cL_law 490 = .ok (.iaload, 1) := by decide +kernel
theorem dL_law_491 : decode cL_law 491 = .ok (.invokevirtual 54, 3) := by decide +kernel
theorem dL_law_494 : decode cL_law 494 = .ok (.aload_n 2, 1) := by decide +kernel
theorem dL_law_495 : decode cL_law 495 = .ok (.aload_n 0, 1) := by decide +kernel
theorem dL_law_496 : decode cL_law 496 = .ok (.iload_n 3, 1) := by decide +kernel
theorem dL_law_497 : decode cL_law 497 = .ok (.iconst 1, 1) := by decide +kernel
theorem dL_law_498 : decode cL_law 498 = .ok (.iadd, 1) := by decide +kernel
theorem dL_law_499 : decode cL_law 499 = .ok (.iaload, 1) := by decide +kernel
theorem dL_law_500 : decode cL_law 500 = .ok (.invokevirtual 57, 3) := by decide +kernel
theorem dL_law_503 : decode cL_law 503 = .ok (.if_icmp .eq 390, 3) := by decide +kernel
theorem dL_law_506 : decode cL_law 506 = .ok (.iconst 0, 1) := by decide +kernel
theorem dL_law_507 : decode cL_law 507 = .ok (.ireturn, 1) := by decide +kernel
theorem dL_law_508 : decode cL_law 508 = .ok (.aload_n 1, 1) := by decide +kernel
theorem dL_law_509 : decode cL_law 509 = .ok (.aload_n 0, 1) := by decide +kernel
theorem dL_law_510 : decode cL_law 510 = .ok (.iload_n 3, 1) := by decide +kernel
theorem dL_law_511 : decode cL_law 511 = .ok (.iconst 1, 1) := by decide +kernel
theorem dL_law_512 : decode cL_law 512 = .ok (.iadd, 1) := by decide +kernel
theorem dL_law_513 : decode cL_law 513 = .ok (.iaload, 1) := by decide +kernel
theorem dL_law_514 : decode cL_law 514 = .ok (.aload_n 0, 1) := by decide +kernel
theorem dL_law_515 : decode cL_law 515 = .ok (.iload_n 3, 1) := by decide +kernel
theorem dL_law_516 : decode cL_law 516 = .ok (.iconst 2, 1) := by decide +kernel
theorem dL_law_517 : decode cL_law 517 = .ok (.iadd, 1) := by decide +kernel
theorem dL_law_518 : decode cL_law 518 = .ok (.iaload, 1) := by decide +kernel
theorem dL_law_519 : decode cL_law 519 = .ok (.invokevirtual 58, 3) := by decide +kernel
theorem dL_law_522 : decode cL_law 522 = .ok (.aload_n 2, 1) := by decide +kernel
theorem dL_law_523 : decode cL_law 523 = .ok (.aload_n 0, 1) := by decide +kernel
theorem dL_law_524 : decode cL_law 524 = .ok (.iload_n 3, 1) := by decide +kernel
theorem dL_law_525 : decode cL_law 525 = .ok (.iconst 1, 1) := by decide +kernel
theorem dL_law_526 : decode cL_law 526 = .ok (.iadd, 1) := by decide +kernel
theorem dL_law_527 : decode cL_law 527 = .ok (.iaload, 1) := by decide +kernel
theorem dL_law_528 : decode cL_law 528 = .ok (.aload_n 0, 1) := by decide +kernel
theorem dL_law_529 : decode cL_law 529 = .ok (.iload_n 3, 1) := by decide +kernel
theorem dL_law_530 : decode cL_law 530 = .ok (.iconst 2, 1) := by decide +kernel
theorem dL_law_531 : decode cL_law 531 = .ok (.iadd, 1) := by decide +kernel
theorem dL_law_532 : decode cL_law 532 = .ok (.iaload, 1) := by decide +kernel
theorem dL_law_533 : decode cL_law 533 = .ok (.invokevirtual 61, 3) := by decide +kernel
theorem dL_law_536 : decode cL_law 536 = .ok (.if_icmp .eq 357, 3) := by decide +kernel
theorem dL_law_539 : decode cL_law 539 = .ok (.iconst 0, 1) := by decide +kernel
theorem dL_law_540 : decode cL_law 540 = .ok (.ireturn, 1) := by decide +kernel
theorem dL_law_541 : decode cL_law 541 = .ok (.aload_n 1, 1) := by decide +kernel
theorem dL_law_542 : decode cL_law 542 = .ok (.aload_n 0, 1) := by decide +kernel
theorem dL_law_543 : decode cL_law 543 = .ok (.iload_n 3, 1) := by decide +kernel
theorem dL_law_544 : decode cL_law 544 = .ok (.iconst 1, 1) := by decide +kernel
theorem dL_law_545 : decode cL_law 545 = .ok (.iadd, 1) := by decide +kernel
theorem dL_law_546 : decode cL_law 546 = .ok (.iaload, 1) := by decide +kernel
theorem dL_law_547 : decode cL_law 547 = .ok (.invokevirtual 62, 3) := by decide +kernel
theorem dL_law_550 : decode cL_law 550 = .ok (.aload_n 2, 1) := by decide +kernel
theorem dL_law_551 : decode cL_law 551 = .ok (.aload_n 0, 1) := by decide +kernel
theorem dL_law_552 : decode cL_law 552 = .ok (.iload_n 3, 1) := by decide +kernel
theorem dL_law_553 : decode cL_law 553 = .ok (.iconst 1, 1) := by decide +kernel
theorem dL_law_554 : decode cL_law 554 = .ok (.iadd, 1) := by decide +kernel
theorem dL_law_555 : decode cL_law 555 = .ok (.iaload, 1) := by decide +kernel
theorem dL_law_556 : decode cL_law 556 = .ok (.invokevirtual 65, 3) := by decide +kernel
theorem dL_law_559 : decode cL_law 559 = .ok (.if_icmp .eq 334, 3) := by decide +kernel
theorem dL_law_562 : decode cL_law 562 = .ok (.iconst 0, 1) := by decide +kernel
theorem dL_law_563 : decode cL_law 563 = .ok (.ireturn, 1) := by decide +kernel
theorem dL_law_564 : decode cL_law 564 = .ok (.aload_n 1, 1) := by decide +kernel
theorem dL_law_565 : decode cL_law 565 = .ok (.aload_n 0, 1) := by decide +kernel
theorem dL_law_566 : decode cL_law 566 = .ok (.iload_n 3, 1) := by decide +kernel
theorem dL_law_567 : decode cL_law 567 = .ok (.iconst 1, 1) := by decide +kernel
theorem dL_law_568 : decode cL_law 568 = .ok (.iadd, 1) := by decide +kernel
theorem dL_law_569 : decode cL_law 569 = .ok (.iaload, 1) := by decide +kernel
theorem dL_law_570 : decode cL_law 570 = .ok (.aload_n 0, 1) := by decide +kernel
theorem dL_law_571 : decode cL_law 571 = .ok (.iload_n 3, 1) := by decide +kernel
theorem dL_law_572 : decode cL_law 572 = .ok (.iconst 2, 1) := by decide +kernel
theorem dL_law_573 : decode cL_law 573 = .ok (.iadd, 1) := by decide +kernel
theorem dL_law_574 : decode cL_law 574 = .ok (.iaload, 1) := by decide +kernel
theorem dL_law_575 : decode cL_law 575 = .ok (.invokevirtual 66, 3) := by decide +kernel
theorem dL_law_578 : decode cL_law 578 = .ok (.aload_n 2, 1) := by decide +kernel
theorem dL_law_579 : decode cL_law 579 = .ok (.aload_n 0, 1) := by decide +kernel
theorem dL_law_580 : decode cL_law 580 = .ok (.iload_n 3, 1) := by decide +kernel
theorem dL_law_581 : decode cL_law 581 = .ok (.iconst 1, 1) := by decide +kernel
theorem dL_law_582 : decode cL_law 582 = .ok (.iadd, 1) := by decide +kernel
theorem dL_law_583 : decode cL_law 583 = .ok (.iaload, 1) := by decide +kernel
theorem dL_law_584 : decode cL_law 584 = .ok (.aload_n 0, 1) := by decide +kernel
theorem dL_law_585 : decode cL_law 585 = .ok (.iload_n 3, 1) := by decide +kernel
theorem dL_law_586 : decode cL_law 586 = .ok (.iconst 2, 1) := by decide +kernel
theorem dL_law_587 : decode cL_law 587 = .ok (.iadd, 1) := by decide +kernel
theorem dL_law_588 : decode cL_law 588 = .ok (.iaload, 1) := by decide +kernel
theorem dL_law_589 : decode cL_law 589 = .ok (.invokevirtual 69, 3) := by decide +kernel
theorem dL_law_592 : decode cL_law 592 = .ok (.if_icmp .eq 301, 3) := by decide +kernel
theorem dL_law_595 : decode cL_law 595 = .ok (.iconst 0, 1) := by decide +kernel
theorem dL_law_596 : decode cL_law 596 = .ok (.ireturn, 1) := by decide +kernel
theorem dL_law_597 : decode cL_law 597 = .ok (.aload_n 1, 1) := by decide +kernel
theorem dL_law_598 : decode cL_law 598 = .ok (.aload_n 0, 1) := by decide +kernel
theorem dL_law_599 : decode cL_law 599 = .ok (.iload_n 3, 1) := by decide +kernel
theorem dL_law_600 : decode cL_law 600 = .ok (.iconst 1, 1) := by decide +kernel
theorem dL_law_601 : decode cL_law 601 = .ok (.iadd, 1) := by decide +kernel
theorem dL_law_602 : decode cL_law 602 = .ok (.iaload, 1) := by decide +kernel
theorem dL_law_603 : decode cL_law 603 = .ok (.aload_n 0, 1) := by decide +kernel
theorem dL_law_604 : decode cL_law 604 = .ok (.iload_n 3, 1) := by decide +kernel
theorem dL_law_605 : decode cL_law 605 = .ok (.iconst 2, 1) := by decide +kernel
theorem dL_law_606 : decode cL_law 606 = .ok (.iadd, 1) := by decide +kernel
theorem dL_law_607 : decode cL_law 607 = .ok (.iaload, 1) := by decide +kernel
theorem dL_law_608 : decode cL_law 608 = .ok (.invokevirtual 70, 3) := by decide +kernel
theorem dL_law_611 : decode cL_law 611 = .ok (.aload_n 2, 1) := by decide +kernel
theorem dL_law_612 : decode cL_law 612 = .ok (.aload_n 0, 1) := by decide +kernel
theorem dL_law_613 : decode cL_law 613 = .ok (.iload_n 3, 1) := by decide +kernel
theorem dL_law_614 : decode cL_law 614 = .ok (.iconst 1, 1) := by decide +kernel
theorem dL_law_615 : decode cL_law 615 = .ok (.iadd, 1) := by decide +kernel
theorem dL_law_616 : decode cL_law 616 = .ok (.iaload, 1) := by decide +kernel
theorem dL_law_617 : decode cL_law 617 = .ok (.aload_n 0, 1) := by decide +kernel
theorem dL_law_618 : decode cL_law 618 = .ok (.iload_n 3, 1) := by decide +kernel
theorem dL_law_619 : decode cL_law 619 = .ok (.iconst 2, 1) := by decide +kernel
theorem dL_law_620 : decode cL_law 620 = .ok (.iadd, 1) := by decide +kernel
theorem dL_law_621 : decode cL_law 621 = .ok (.iaload, 1) := by decide +kernel
theorem dL_law_622 : decode cL_law 622 = .ok (.invokevirtual 73, 3) := by decide +kernel
theorem dL_law_625 : decode cL_law 625 = .ok (.if_icmp .eq 268, 3) := by decide +kernel
theorem dL_law_628 : decode cL_law 628 = .ok (.iconst 0, 1) := by decide +kernel
theorem dL_law_629 : decode cL_law 629 = .ok (.ireturn, 1) := by decide +kernel
theorem dL_law_630 : decode cL_law 630 = .ok (.aload_n 1, 1) := by decide +kernel
theorem dL_law_631 : decode cL_law 631 = .ok (.aload_n 0, 1) := by decide +kernel
theorem dL_law_632 : decode cL_law 632 = .ok (.iload_n 3, 1) := by decide +kernel
theorem dL_law_633 : decode cL_law 633 = .ok (.iconst 1, 1) := by decide +kernel
theorem dL_law_634 : decode cL_law 634 = .ok (.iadd, 1) := by decide +kernel
theorem dL_law_635 : decode cL_law 635 = .ok (.iaload, 1) := by decide +kernel
theorem dL_law_636 : decode cL_law 636 = .ok (.aload_n 0, 1) := by decide +kernel
theorem dL_law_637 : decode cL_law 637 = .ok (.iload_n 3, 1) := by decide +kernel
theorem dL_law_638 : decode cL_law 638 = .ok (.iconst 2, 1) := by decide +kernel
theorem dL_law_639 : decode cL_law 639 = .ok (.iadd, 1) := by decide +kernel
theorem dL_law_640 : decode cL_law 640 = .ok (.iaload, 1) := by decide +kernel
theorem dL_law_641 : decode cL_law 641 = .ok (.invokevirtual 74, 3) := by decide +kernel
theorem dL_law_644 : decode cL_law 644 = .ok (.aload_n 2, 1) := by decide +kernel
theorem dL_law_645 : decode cL_law 645 = .ok (.aload_n 0, 1) := by decide +kernel
theorem dL_law_646 : decode cL_law 646 = .ok (.iload_n 3, 1) := by decide +kernel
theorem dL_law_647 : decode cL_law 647 = .ok (.iconst 1, 1) := by decide +kernel
theorem dL_law_648 : decode cL_law 648 = .ok (.iadd, 1) := by decide +kernel
theorem dL_law_649 : decode cL_law 649 = .ok (.iaload, 1) := by decide +kernel
theorem dL_law_650 : decode cL_law 650 = .ok (.aload_n 0, 1) := by decide +kernel
theorem dL_law_651 : decode cL_law 651 = .ok (.iload_n 3, 1) := by decide +kernel
theorem dL_law_652 : decode cL_law 652 = .ok (.iconst 2, 1) := by decide +kernel
theorem dL_law_653 : decode cL_law 653 = .ok (.iadd, 1) := by decide +kernel
theorem dL_law_654 : decode cL_law 654 = .ok (.iaload, 1) := by decide +kernel
theorem dL_law_655 : decode cL_law 655 = .ok (.invokevirtual 77, 3) := by decide +kernel
theorem dL_law_658 : decode cL_law 658 = .ok (.if_icmp .eq 235, 3) := by decide +kernel
theorem dL_law_661 : decode cL_law 661 = .ok (.iconst 0, 1) := by decide +kernel
theorem dL_law_662 : decode cL_law 662 = .ok (.ireturn, 1) := by decide +kernel
theorem dL_law_663 : decode cL_law 663 = .ok (.aload_n 1, 1) := by decide +kernel
theorem dL_law_664 : decode cL_law 664 = .ok (.aload_n 0, 1) := by decide +kernel
theorem dL_law_665 : decode cL_law 665 = .ok (.iload_n 3, 1) := by decide +kernel
theorem dL_law_666 : decode cL_law 666 = .ok (.iconst 1, 1) := by decide +kernel
theorem dL_law_667 : decode cL_law 667 = .ok (.iadd, 1) := by decide +kernel
theorem dL_law_668 : decode cL_law 668 = .ok (.iaload, 1) := by decide +kernel
theorem dL_law_669 : decode cL_law 669 = .ok (.aload_n 0, 1) := by decide +kernel
theorem dL_law_670 : decode cL_law 670 = .ok (.iload_n 3, 1) := by decide +kernel
theorem dL_law_671 : decode cL_law 671 = .ok (.iconst 2, 1) := by decide +kernel
theorem dL_law_672 : decode cL_law 672 = .ok (.iadd, 1) := by decide +kernel
theorem dL_law_673 : decode cL_law 673 = .ok (.iaload, 1) := by decide +kernel
theorem dL_law_674 : decode cL_law 674 = .ok (.invokevirtual 78, 3) := by decide +kernel
theorem dL_law_677 : decode cL_law 677 = .ok (.aload_n 2, 1) := by decide +kernel
theorem dL_law_678 : decode cL_law 678 = .ok (.aload_n 0, 1) := by decide +kernel
theorem dL_law_679 : decode cL_law 679 = .ok (.iload_n 3, 1) := by decide +kernel
theorem dL_law_680 : decode cL_law 680 = .ok (.iconst 1, 1) := by decide +kernel
theorem dL_law_681 : decode cL_law 681 = .ok (.iadd, 1) := by decide +kernel
theorem dL_law_682 : decode cL_law 682 = .ok (.iaload, 1) := by decide +kernel
theorem dL_law_683 : decode cL_law 683 = .ok (.aload_n 0, 1) := by decide +kernel
theorem dL_law_684 : decode cL_law 684 = .ok (.iload_n 3, 1) := by decide +kernel
theorem dL_law_685 : decode cL_law 685 = .ok (.iconst 2, 1) := by decide +kernel
theorem dL_law_686 : decode cL_law 686 = .ok (.iadd, 1) := by decide +kernel
theorem dL_law_687 : decode cL_law 687 = .ok (.iaload, 1) := by decide +kernel
theorem dL_law_688 : decode cL_law 688 = .ok (.invokevirtual 81, 3) := by decide +kernel
theorem dL_law_691 : decode cL_law 691 = .ok (.if_icmp .eq 202, 3) := by decide +kernel
theorem dL_law_694 : decode cL_law 694 = .ok (.iconst 0, 1) := by decide +kernel
theorem dL_law_695 : decode cL_law 695 = .ok (.ireturn, 1) := by decide +kernel
theorem dL_law_696 : decode cL_law 696 = .ok (.aload_n 1, 1) := by decide +kernel
theorem dL_law_697 : decode cL_law 697 = .ok (.aload_n 0, 1) := by decide +kernel
theorem dL_law_698 : decode cL_law 698 = .ok (.iload_n 3, 1) := by decide +kernel
theorem dL_law_699 : decode cL_law 699 = .ok (.iconst 1, 1) := by decide +kernel
theorem dL_law_700 : decode cL_law 700 = .ok (.iadd, 1) := by decide +kernel
theorem dL_law_701 : decode cL_law 701 = .ok (.iaload, 1) := by decide +kernel
theorem dL_law_702 : decode cL_law 702 = .ok (.invokevirtual 82, 3) := by decide +kernel
theorem dL_law_705 : decode cL_law 705 = .ok (.aload_n 2, 1) := by decide +kernel
theorem dL_law_706 : decode cL_law 706 = .ok (.aload_n 0, 1) := by decide +kernel
theorem dL_law_707 : decode cL_law 707 = .ok (.iload_n 3, 1) := by decide +kernel
theorem dL_law_708 : decode cL_law 708 = .ok (.iconst 1, 1) := by decide +kernel
theorem dL_law_709 : decode cL_law 709 = .ok (.iadd, 1) := by decide +kernel
theorem dL_law_710 : decode cL_law 710 = .ok (.iaload, 1) := by decide +kernel
theorem dL_law_711 : decode cL_law 711 = .ok (.invokevirtual 85, 3) := by decide +kernel
theorem dL_law_714 : decode cL_law 714 = .ok (.if_icmp .eq 179, 3) := by decide +kernel
theorem dL_law_717 : decode cL_law 717 = .ok (.iconst 0, 1) := by decide +kernel
theorem dL_law_718 : decode cL_law 718 = .ok (.ireturn, 1) := by decide +kernel
theorem dL_law_719 : decode cL_law 719 = .ok (.aload_n 1, 1) := by decide +kernel
theorem dL_law_720 : decode cL_law 720 = .ok (.aload_n 0, 1) := by decide +kernel
theorem dL_law_721 : decode cL_law 721 = .ok (.iload_n 3, 1) := by decide +kernel
theorem dL_law_722 : decode cL_law 722 = .ok (.iconst 1, 1) := by decide +kernel
theorem dL_law_723 : decode cL_law 723 = .ok (.iadd, 1) := by decide +kernel
theorem dL_law_724 : decode cL_law 724 = .ok (.iaload, 1) := by decide +kernel
theorem dL_law_725 : decode cL_law 725 = .ok (.invokevirtual 86, 3) := by decide +kernel
theorem dL_law_728 : decode cL_law 728 = .ok (.aload_n 2, 1) := by decide +kernel
theorem dL_law_729 : decode cL_law 729 = .ok (.aload_n 0, 1) := by decide +kernel
theorem dL_law_730 : decode cL_law 730 = .ok (.iload_n 3, 1) := by decide +kernel
theorem dL_law_731 : decode cL_law 731 = .ok (.iconst 1, 1) := by decide +kernel
theorem dL_law_732 : decode cL_law 732 = .ok (.iadd, 1) := by decide +kernel
theorem dL_law_733 : decode cL_law 733 = .ok (.iaload, 1) := by decide +kernel
theorem dL_law_734 : decode cL_law 734 = .ok (.invokevirtual 89, 3) := by decide +kernel
theorem dL_law_737 : decode cL_law 737 = .ok (.if_icmp .eq 156, 3) := by decide +kernel
theorem dL_law_740 : decode cL_law 740 = .ok (.iconst 0, 1) := by decide +kernel
theorem dL_law_741 : decode cL_law 741 = .ok (.ireturn, 1) := by decide +kernel
theorem dL_law_742 : decode cL_law 742 = .ok (.aload_n 1, 1) := by decide +kernel
theorem dL_law_743 : decode cL_law 743 = .ok (.aload_n 0, 1) := by decide +kernel
theorem dL_law_744 : decode cL_law 744 = .ok (.iload_n 3, 1) := by decide +kernel
theorem dL_law_745 : decode cL_law 745 = .ok (.iconst 1, 1) := by decide +kernel
theorem dL_law_746 : decode cL_law 746 = .ok (.iadd, 1) := by decide +kernel
theorem dL_law_747 : decode cL_law 747 = .ok (.iaload, 1) := by decide +kernel
theorem dL_law_748 : decode cL_law 748 = .ok (.i2l, 1) := by decide +kernel
theorem dL_law_749 : decode cL_law 749 = .ok (.bipush 32, 2) := by decide +kernel
theorem dL_law_751 : decode cL_law 751 = .ok (.lshl, 1) := by decide +kernel
theorem dL_law_752 : decode cL_law 752 = .ok (.aload_n 0, 1) := by decide +kernel
theorem dL_law_753 : decode cL_law 753 = .ok (.iload_n 3, 1) := by decide +kernel
theorem dL_law_754 : decode cL_law 754 = .ok (.iconst 2, 1) := by decide +kernel
theorem dL_law_755 : decode cL_law 755 = .ok (.iadd, 1) := by decide +kernel
theorem dL_law_756 : decode cL_law 756 = .ok (.iaload, 1) := by decide +kernel
theorem dL_law_757 : decode cL_law 757 = .ok (.i2l, 1) := by decide +kernel
theorem dL_law_758 : decode cL_law 758 = .ok (.ldc2_w 90, 3) := by decide +kernel
theorem dL_law_761 : decode cL_law 761 = .ok (.land, 1) := by decide +kernel
theorem dL_law_762 : decode cL_law 762 = .ok (.lor, 1) := by decide +kernel
theorem dL_law_763 : decode cL_law 763 = .ok (.invokevirtual 92, 3) := by decide +kernel
theorem dL_law_766 : decode cL_law 766 = .ok (.aload_n 2, 1) := by decide +kernel
theorem dL_law_767 : decode cL_law 767 = .ok (.aload_n 0, 1) := by decide +kernel
theorem dL_law_768 : decode cL_law 768 = .ok (.iload_n 3, 1) := by decide +kernel
theorem dL_law_769 : decode cL_law 769 = .ok (.iconst 1, 1) := by decide +kernel
theorem dL_law_770 : decode cL_law 770 = .ok (.iadd, 1) := by decide +kernel
theorem dL_law_771 : decode cL_law 771 = .ok (.iaload, 1) := by decide +kernel
theorem dL_law_772 : decode cL_law 772 = .ok (.i2l, 1) := by decide +kernel
theorem dL_law_773 : decode cL_law 773 = .ok (.bipush 32, 2) := by decide +kernel
theorem dL_law_775 : decode cL_law 775 = .ok (.lshl, 1) := by decide +kernel
theorem dL_law_776 : decode cL_law 776 = .ok (.aload_n 0, 1) := by decide +kernel
theorem dL_law_777 : decode cL_law 777 = .ok (.iload_n 3, 1) := by decide +kernel
theorem dL_law_778 : decode cL_law 778 = .ok (.iconst 2, 1) := by decide +kernel
theorem dL_law_779 : decode cL_law 779 = .ok (.iadd, 1) := by decide +kernel
theorem dL_law_780 : decode cL_law 780 = .ok (.iaload, 1) := by decide +kernel
theorem dL_law_781 : decode cL_law 781 = .ok (.i2l, 1) := by decide +kernel
theorem dL_law_782 : decode cL_law 782 = .ok (.ldc2_w 90, 3) := by decide +kernel
theorem dL_law_785 : decode cL_law 785 = .ok (.land, 1) := by decide +kernel
theorem dL_law_786 : decode cL_law 786 = .ok (.lor, 1) := by decide +kernel
theorem dL_law_787 : decode cL_law 787 = .ok (.invokevirtual 96, 3) := by decide +kernel
theorem dL_law_790 : decode cL_law 790 = .ok (.if_icmp .eq 103, 3) := by decide +kernel
theorem dL_law_793 : decode cL_law 793 = .ok (.iconst 0, 1) := by decide +kernel
theorem dL_law_794 : decode cL_law 794 = .ok (.ireturn, 1) := by decide +kernel
theorem dL_law_795 : decode cL_law 795 = .ok (.aload_n 1, 1) := by decide +kernel
theorem dL_law_796 : decode cL_law 796 = .ok (.invokevirtual 97, 3) := by decide +kernel
theorem dL_law_799 : decode cL_law 799 = .ok (.aload_n 2, 1) := by decide +kernel
theorem dL_law_800 : decode cL_law 800 = .ok (.invokevirtual 101, 3) := by decide +kernel
theorem dL_law_803 : decode cL_law 803 = .ok (.if_icmp .eq 90, 3) := by decide +kernel
theorem dL_law_806 : decode cL_law 806 = .ok (.iconst 0, 1) := by decide +kernel
theorem dL_law_807 : decode cL_law 807 = .ok (.ireturn, 1) := by decide +kernel
theorem dL_law_808 : decode cL_law 808 = .ok (.aload_n 1, 1) := by decide +kernel
theorem dL_law_809 : decode cL_law 809 = .ok (.invokevirtual 102, 3) := by decide +kernel
theorem dL_law_812 : decode cL_law 812 = .ok (.aload_n 2, 1) := by decide +kernel
theorem dL_law_813 : decode cL_law 813 = .ok (.invokevirtual 105, 3) := by decide +kernel
theorem dL_law_816 : decode cL_law 816 = .ok (.if_icmp .eq 77, 3) := by decide +kernel
theorem dL_law_819 : decode cL_law 819 = .ok (.iconst 0, 1) := by decide +kernel
theorem dL_law_820 : decode cL_law 820 = .ok (.ireturn, 1) := by decide +kernel
theorem dL_law_821 : decode cL_law 821 = .ok (.aload_n 1, 1) := by decide +kernel
theorem dL_law_822 : decode cL_law 822 = .ok (.invokevirtual 106, 3) := by decide +kernel
theorem dL_law_825 : decode cL_law 825 = .ok (.aload_n 2, 1) := by decide +kernel
theorem dL_law_826 : decode cL_law 826 = .ok (.invokevirtual 109, 3) := by decide +kernel
theorem dL_law_829 : decode cL_law 829 = .ok (.if_icmp .eq 64, 3) := by decide +kernel
theorem dL_law_832 : decode cL_law 832 = .ok (.iconst 0, 1) := by decide +kernel
theorem dL_law_833 : decode cL_law 833 = .ok (.ireturn, 1) := by decide +kernel
theorem dL_law_834 : decode cL_law 834 = .ok (.aload_n 1, 1) := by decide +kernel
theorem dL_law_835 : decode cL_law 835 = .ok (.invokevirtual 110, 3) := by decide +kernel
theorem dL_law_838 : decode cL_law 838 = .ok (.aload_n 2, 1) := by decide +kernel
theorem dL_law_839 : decode cL_law 839 = .ok (.invokevirtual 113, 3) := by decide +kernel
theorem dL_law_842 : decode cL_law 842 = .ok (.if_icmp .eq 51, 3) := by decide +kernel
theorem dL_law_845 : decode cL_law 845 = .ok (.iconst 0, 1) := by decide +kernel
theorem dL_law_846 : decode cL_law 846 = .ok (.ireturn, 1) := by decide +kernel
theorem dL_law_847 : decode cL_law 847 = .ok (.aload_n 1, 1) := by decide +kernel
theorem dL_law_848 : decode cL_law 848 = .ok (.aload_n 0, 1) := by decide +kernel
theorem dL_law_849 : decode cL_law 849 = .ok (.iload_n 3, 1) := by decide +kernel
theorem dL_law_850 : decode cL_law 850 = .ok (.iconst 1, 1) := by decide +kernel
theorem dL_law_851 : decode cL_law 851 = .ok (.iadd, 1) := by decide +kernel
theorem dL_law_852 : decode cL_law 852 = .ok (.iaload, 1) := by decide +kernel
theorem dL_law_853 : decode cL_law 853 = .ok (.invokevirtual 114, 3) := by decide +kernel
theorem dL_law_856 : decode cL_law 856 = .ok (.aload_n 2, 1) := by decide +kernel
theorem dL_law_857 : decode cL_law 857 = .ok (.aload_n 0, 1) := by decide +kernel
theorem dL_law_858 : decode cL_law 858 = .ok (.iload_n 3, 1) := by decide +kernel
theorem dL_law_859 : decode cL_law 859 = .ok (.iconst 1, 1) := by decide +kernel
theorem dL_law_860 : decode cL_law 860 = .ok (.iadd, 1) := by decide +kernel
theorem dL_law_861 : decode cL_law 861 = .ok (.iaload, 1) := by decide +kernel
theorem dL_law_862 : decode cL_law 862 = .ok (.invokevirtual 117, 3) := by decide +kernel
theorem dL_law_865 : decode cL_law 865 = .ok (.if_icmp .eq 28, 3) := by decide +kernel
theorem dL_law_868 : decode cL_law 868 = .ok (.iconst 0, 1) := by decide +kernel
theorem dL_law_869 : decode cL_law 869 = .ok (.ireturn, 1) := by decide +kernel
theorem dL_law_870 : decode cL_law 870 = .ok (.aload_n 1, 1) := by decide +kernel
theorem dL_law_871 : decode cL_law 871 = .ok (.aload_n 0, 1) := by decide +kernel
theorem dL_law_872 : decode cL_law 872 = .ok (.iload_n 3, 1) := by decide +kernel
theorem dL_law_873 : decode cL_law 873 = .ok (.iconst 1, 1) := by decide +kernel
theorem dL_law_874 : decode cL_law 874 = .ok (.iadd, 1) := by decide +kernel
theorem dL_law_875 : decode cL_law 875 = .ok (.iaload, 1) := by decide +kernel
theorem dL_law_876 : decode cL_law 876 = .ok (.invokevirtual 118, 3) := by decide +kernel
theorem dL_law_879 : decode cL_law 879 = .ok (.aload_n 2, 1) := by decide +kernel
theorem dL_law_880 : decode cL_law 880 = .ok (.aload_n 0, 1) := by decide +kernel
theorem dL_law_881 : decode cL_law 881 = .ok (.iload_n 3, 1) := by decide +kernel
theorem dL_law_882 : decode cL_law 882 = .ok (.iconst 1, 1) := by decide +kernel
theorem dL_law_883 : decode cL_law 883 = .ok (.iadd, 1) := by decide +kernel
theorem dL_law_884 : decode cL_law 884 = .ok (.iaload, 1) := by decide +kernel
theorem dL_law_885 : decode cL_law 885 = .ok (.invokevirtual 121, 3) := by decide +kernel
theorem dL_law_888 : decode cL_law 888 = .ok (.if_icmp .eq 5, 3) := by decide +kernel
theorem dL_law_891 : decode cL_law 891 = .ok (.iconst 0, 1) := by decide +kernel
theorem dL_law_892 : decode cL_law 892 = .ok (.ireturn, 1) := by decide +kernel
theorem dL_law_893 : decode cL_law 893 = .ok (.iinc 3 6, 3) := by decide +kernel
theorem dL_law_896 : decode cL_law 896 = .ok (.goto (-878), 3) := by decide +kernel
theorem dL_law_899 : decode cL_law 899 = .ok (.iconst 1, 1) := by decide +kernel
theorem dL_law_900 : decode cL_law 900 = .ok (.ireturn, 1) := by decide +kernel
end
section
/-! THE SMALL MACHINE: logical cells (kind, road, number) instead of addresses; one judgement mE over the kit's W; a row an instruction -/
def TB : List Jvm.Cond := lw_tbl.filter goodWord
theorem tb_of {w : Jvm.Cond} (i : Nat) (h : lw_tbl[i]? = some w) (g : goodWord w = true) : w ∈ TB := List.mem_filter.mpr ⟨List.mem_of_getElem? h, g⟩
theorem tb_good {ws : List Jvm.Cond} (h : ∀ w ∈ ws, w ∈ TB) : GoodIn TB ws := fun w hw => ⟨h w hw, good_of_word (List.mem_filter.mp (h w hw)).2⟩
theorem tb_tbl {w : Jvm.Cond} (h : w ∈ TB) : w ∈ lw_tbl := (List.mem_filter.mp h).1
abbrev mW : Type := Int32 ⊕ (Int64 ⊕ Option (Nat × Nat × Nat))
abbrev mV : Type := Option mW
abbrev vU : mV := none
abbrev vI (x : Int32) : mV := some (.inl x)
abbrev vL (x : Int64) : mV := some (.inr (.inl x))
abbrev vN : mV := some (.inr (.inr none))
abbrev vR (k r i : Nat) : mV := some (.inr (.inr (some (k, r, i))))
abbrev mAd : Type := Nat → Nat → Nat → Nat
def cw (ad : mAd) : mW → Value
  | .inl x => .int x
  | .inr (.inl x) => .long x
  | .inr (.inr none) => .null
  | .inr (.inr (some (k, r, i))) => .ref (ad k r i)
def cv (ad : mAd) : mV → Value
  | none => .null
  | some w => cw ad w
abbrev mH : Type := (Nat → Nat → Nat → Nat → Int32) × (Nat → Nat → Option (Nat × Nat))
/-- what a place of a logical cell holds -/
def sv (h : mH) (k r i s : Nat) : mV := match k with
  | 0 => match s with
    | 0 => vR 1 r 0
    | 1 => vR 2 r 0
    | 2 => vR 3 r 0
    | 3 => vR 4 r 0
    | _ => vI (h.1 0 r i s)
  | 1 => vR 5 r s
  | 2 => vR 6 r s
  | 4 => match h.2 r s with
    | none => vN
    | some (r2, c) => vR 5 r2 c
  | 5 => match s with
    | 0 => vI (nI i)
    | _ => vI (h.1 5 r i s)
  | 7 => match s with
    | 0 => vR 0 0 0
    | 1 => vR 0 1 0
    | 2 => vR 6 11 0
    | 3 => vR 8 0 0
    | 4 => vR 9 0 0
    | 5 => vR 11 0 0
    | _ => vR 13 0 0
  | 9 => match s with
    | 0 => vR 10 0 0
    | _ => vI (h.1 9 r i s)
  | 11 => match s with
    | 0 => vR 12 0 0
    | _ => vI (h.1 11 r i s)
  | 12 => vR 0 (2 + s) 0
  | 13 => match s with
    | 0 => vR 14 0 0
    | _ => vR 15 0 0
  | 14 => vR 0 (9 + s) 0
  | 20 => match s with
    | 0 => vR 21 0 0
    | 1 => vR 22 0 0
    | 2 => vR 23 0 0
    | 4 => vR 24 0 0
    | 5 => vR 25 0 0
    | 6 => vR 26 0 0
    | 9 => vR 27 0 0
    | 10 => vR 28 0 0
    | 11 => vR 29 0 0
    | _ => vI (h.1 20 r i s)
  | k => vI (h.1 k r i s)
/-- the kinds of objects, by their place in vwCl; none: an array -/
def kc : Nat → Option Nat
  | 0 => some 4
  | 5 => some 0
  | 6 => some 2
  | 7 => some 6
  | 9 => some 3
  | 11 => some 1
  | 13 => some 5
  | 20 => some 7
  | _ => none
/-- how many places -/
def kz : Nat → Nat
  | 0 => 9
  | 1 => 40
  | 2 => 6
  | 3 => 80
  | 4 => 40
  | 5 => 11
  | 6 => 9
  | 7 => 7
  | 8 => 100
  | 9 => 2
  | 10 => 60
  | 11 => 3
  | 12 => 7
  | 13 => 2
  | 14 => 2
  | 15 => 2
  | 20 => 15
  | 21 => 470
  | 22 => 470
  | 23 => 2820
  | 24 => 940
  | 25 => 2
  | 26 => 60
  | 27 => 80
  | 28 => 40
  | 29 => 150
  | _ => 0
/-- an array's elements -/
def kt : Nat → FieldType
  | 1 => .object RX0
  | 2 => .object RX2
  | 4 => .object RX0
  | 10 => .char
  | 12 => .object RX4
  | 14 => .object RX4
  | 15 => .boolean
  | 25 => .boolean
  | _ => .int
def okId (k r i : Nat) : Prop := match k with
  | 0 => r < 11 ∧ i = 0
  | 1 => r < 11 ∧ i = 0
  | 2 => r < 11 ∧ i = 0
  | 3 => r < 11 ∧ i = 0
  | 4 => r < 11 ∧ i = 0
  | 5 => r < 11 ∧ i < 40
  | 6 => (r < 11 ∧ i < 6) ∨ (r = 11 ∧ i = 0)
  | 16 => False
  | 17 => False
  | 18 => False
  | 19 => False
  | k => k < 30 ∧ r = 0 ∧ i = 0
def okW : mW → Prop
  | .inr (.inr (some (k, r, i))) => okId k r i
  | _ => True
def okV : mV → Prop
  | some w => okW w
  | none => True
abbrev mG : Type := mAd × (Nat → ClassId) × (Nat → Nat → Nat) × (Nat → ClassId)
def atK (G : mG) (h : mH) (H : Heap) (k r i : Nat) : Prop := match kc k with
  | some ci => t_OB (G.1 k r i) (G.2.1 ci) (kz k) (G.2.2.1 ci) H (fun s => cv G.1 (sv h k r i s))
  | none => H[G.1 k r i]? = some (arrV (G.2.2.2 k) (kz k) (fun s => cv G.1 (sv h k r i s)))
def Rep (G : mG) (h : mH) (H : Heap) : Prop := ∀ k r i, okId k r i → atK G h H k r i
def InjG (G : mG) : Prop := ∀ k r i k2 r2 i2, okId k r i → okId k2 r2 i2 → G.1 k r i = G.1 k2 r2 i2 → k = k2 ∧ r = r2 ∧ i = i2
def GA (G : mG) : Nat → Prop := fun q => ∃ k r i, okId k r i ∧ q = G.1 k r i
def NW : List Jvm.Cond := [.methodLinkNest RX3 25 yX6_isWithin RX6, .methodLinkNest RX4 65 yX6_isWithin RX6, .methodLinkNest RX4 69 yX6_areBounds RX6, .methodLinkNest RX4 116 yX6_isTicks RX6]
def Kn (G : mG) (s : State) : Prop := (∀ (ci : Nat) (q : vw_C), vwCl[ci]? = some q → u_Kn s q.1 q.2.1 q.2.2 (G.2.1 ci) (G.2.2.1 ci)) ∧ (∀ k, kc k = none → 1 ≤ k → k < 30 → ArrOfT s (G.2.2.2 k) (kt k)) ∧ va_RA s (G.2.2.2 4) (.object RX0) ∧ ∀ w ∈ NW, va_Nw w s
def VH (h : mH) : Prop := ∀ r j p, h.2 r j = some p → p.1 < 11 ∧ p.2 < 40
/-- the locals that are set, by their places -/
def prs (ad : mAd) : Nat → List mV → List (Nat × Value)
  | _, [] => []
  | k, none :: t => prs ad (k + 1) t
  | k, some v :: t => (k, cw ad v) :: prs ad (k + 1) t
abbrev mM : Type := MethodName × ByteArray × Nat × Option FieldType × Nat × Nat
def Cx (M : mM) (G : mG) (p : Program) (R : Room) (s : State) (m : MethodId) (args : Array Value) (meth : Method) (c : Code) : Prop :=
  p.tables.exec = Jvm.exec ∧ c.code = M.2.1 ∧ meth.sig.returnType = M.2.2.2.1 ∧ c.maxLocals = M.2.2.1 ∧ s.vm.findClass M.1.cls = some m.cls ∧ (∀ w ∈ TB, w.before args s = true) ∧ meth.locks = false ∧ (M.2.2.2.2.1 ≤ R.frames ∧ M.2.2.2.2.2 ≤ R.locals) ∧ Kn G s ∧ InjG G
def Dx (M : mM) (G : mG) (s : State) (l st : List mV) (h : mH) (H : Heap) (locs : List Loc) (ls : Array Slot) : Prop :=
  Rep G h H ∧ VH h ∧ (∀ v ∈ l, okV v) ∧ (∀ v ∈ st, okV v) ∧ (lv_has ls M.2.2.1 (prs G.1 0 l) ∧ l.length = M.2.2.1) ∧ va_S (GA G) s.heap H locs
def Qm (G : mG) (Q : mV → mH → Prop) : Array Value → State → Outcome → State → Prop := fun _ st o t => (∃ (v : mV) (h : mH), o = .returned (v.map (cw G.1)) ∧ Q v h ∧ Rep G h t.heap ∧ VH h ∧ okV v) ∧ va_F (GA G) st t
/-- from here the method comes to its end, with an answer and a heap of Q -/
def mE (M : mM) (pc : Nat) (l st : List mV) (h : mH) (Q : mV → mH → Prop) : Prop :=
  ∀ (G : mG) (p : Program) (l0 : Launch) (e : Env) (R : Room) (s : State) (m : MethodId) (args : Array Value) (below : List Frame) (meth : Method) (c : Code) (H : Heap) (locs : List Loc) (ls : Array Slot),
    Cx M G p R s m args meth c → Dx M G s l st h H locs ls → W p l0 e R s m args below meth c H locs 0 0 (MQ below (Qm G Q) args s 0 0 (GA G)) (F0 m pc ls (st.map (cv G.1)))
/-! locals -/
theorem prs_mem {ad : mAd} : ∀ {l : List mV} {k i : Nat} {w : Value}, (i, w) ∈ prs ad k l ↔ ∃ (j : Nat) (v : mW), i = k + j ∧ l[j]? = some (some v) ∧ w = cw ad v := by
  intro l
  induction l with
  | nil => intro k i w; simp [prs]
  | cons a t ih =>
    intro k i w
    cases a with
    | none =>
      simp only [prs]
      rw [ih]
      constructor
      · rintro ⟨j, v, h1, h2, h3⟩
        exact ⟨j + 1, v, by omega, by simpa using h2, h3⟩
      · rintro ⟨j, v, h1, h2, h3⟩
        cases j with
        | zero => simp at h2
        | succ j => exact ⟨j, v, by omega, by simpa using h2, h3⟩
    | some u =>
      simp only [prs, List.mem_cons]
      rw [ih]
      constructor
      · rintro (h | ⟨j, v, h1, h2, h3⟩)
        · cases h
          exact ⟨0, u, by omega, by simp, rfl⟩
        · exact ⟨j + 1, v, by omega, by simpa using h2, h3⟩
      · rintro ⟨j, v, h1, h2, h3⟩
        cases j with
        | zero =>
          simp at h2
          left
          rw [h1, h3, h2]; rfl
        | succ j => exact Or.inr ⟨j, v, by omega, by simpa using h2, h3⟩
theorem prs_at {ad : mAd} {ls : Array Slot} {nL : Nat} {l : List mV} (h : lv_has ls nL (prs ad 0 l)) {i : Nat} {v : mW} (hi : l[i]? = some (some v)) : ls[i]? = some (.val (cw ad v)) := by
  have := h.2.2 (i, cw ad v) (prs_mem.mpr ⟨i, v, by omega, hi, rfl⟩)
  exact this
theorem lv_less {ls : Array Slot} {nL : Nat} {l l2 : List (Nat × Value)} (h : lv_has ls nL l) (hs : ∀ q ∈ l2, q ∈ l) : lv_has ls nL l2 := ⟨h.1, h.2.1, fun q hq => h.2.2 q (hs q hq)⟩
def isL : mV → Bool
  | some (.inr (.inl _)) => true
  | _ => false
theorem cw_cat2 {ad : mAd} {v : mW} (h : (cw ad v).category = 2) : isL (some v) = true := by
  rcases v with x | x | x
  · simp [cw, Value.category] at h
  · rfl
  · rcases x with _ | ⟨k, r, i⟩ <;> simp [cw, Value.category] at h
/-- a value of one place is stored -/
def mset (l : List mV) (i : Nat) (v : mV) : List mV := match i with
  | 0 => l.set 0 v
  | j + 1 => match l[j]? with
    | some (some (.inr (.inl _))) => (l.set j none).set (j + 1) v
    | _ => l.set (j + 1) v
theorem mset_len {l : List mV} {i : Nat} {v : mV} : (mset l i v).length = l.length := by
  cases i with
  | zero => simp [mset]
  | succ j =>
    simp only [mset]
    split <;> simp
theorem mset_get {l : List mV} {i : Nat} {v : mV} {j : Nat} {u : mW} (h : (mset l i v)[j]? = some (some u)) : (j = i ∧ v = some u) ∨ (j ≠ i ∧ l[j]? = some (some u) ∧ ¬ (j + 1 = i ∧ isL (some u) = true)) := by
  cases i with
  | zero =>
    simp only [mset] at h
    by_cases hj : j = 0
    · subst hj
      rw [List.getElem?_set] at h
      simp at h
      exact Or.inl ⟨rfl, h.2⟩
    · rw [List.getElem?_set_ne (fun e => hj e.symm)] at h
      exact Or.inr ⟨hj, h, by omega⟩
  | succ a =>
    simp only [mset] at h
    split at h
    next x hx =>
      by_cases hj : j = a + 1
      · subst hj
        rw [List.getElem?_set] at h
        simp at h
        exact Or.inl ⟨rfl, h.2⟩
      · rw [List.getElem?_set_ne (fun e => hj e.symm)] at h
        by_cases ha : j = a
        · subst ha
          rw [List.getElem?_set] at h
          simp at h
        · rw [List.getElem?_set_ne (fun e => ha e.symm)] at h
          exact Or.inr ⟨hj, h, by omega⟩
    next hx =>
      by_cases hj : j = a + 1
      · subst hj
        rw [List.getElem?_set] at h
        simp at h
        exact Or.inl ⟨rfl, h.2⟩
      · rw [List.getElem?_set_ne (fun e => hj e.symm)] at h
        refine Or.inr ⟨hj, h, ?_⟩
        rintro ⟨e, hL⟩
        have e2 : j = a := by omega
        subst e2
        rcases u with x | x | x
        · simp [isL] at hL
        · exact hx x h
        · rcases x with _ | _ <;> simp [isL] at hL
theorem mset_ok {l : List mV} {i : Nat} {v : mV} (h : ∀ u ∈ l, okV u) (hv : okV v) : ∀ u ∈ mset l i v, okV u := by
  intro u hu
  cases u with
  | none => trivial
  | some w =>
    obtain ⟨j, hj⟩ := List.getElem?_of_mem hu
    rcases mset_get hj with ⟨-, e⟩ | ⟨-, e, -⟩
    · rw [← e]; exact hv
    · exact h _ (List.mem_of_getElem? e)
theorem mset_prs {ad : mAd} {l : List mV} {i : Nat} {w : mW} {ls : Array Slot} {nL : Nat} (h : lv_has ls nL ((i, cw ad w) :: (prs ad 0 l).filter (fun q => !(q.1 == i) && !(q.1 + 1 == i && q.2.category == 2)))) : lv_has ls nL (prs ad 0 (mset l i (some w))) := by
  refine lv_less h ?_
  rintro ⟨j, x⟩ hq
  obtain ⟨j2, v, e1, e2, e3⟩ := prs_mem.mp hq
  have e1 : j = j2 := by omega
  subst e1
  subst e3
  rcases mset_get e2 with ⟨a, b⟩ | ⟨a, b, d⟩
  · subst a
    cases b
    exact List.mem_cons_self
  · refine List.mem_cons_of_mem _ (List.mem_filter.mpr ⟨prs_mem.mpr ⟨j, v, by omega, b, rfl⟩, ?_⟩)
    have a2 : (j == i) = false := by simpa using a
    simp only [a2, Bool.not_false, Bool.true_and, Bool.not_eq_true', Bool.and_eq_false_iff, beq_eq_false_iff_ne, ne_eq]
    by_cases q : j + 1 = i
    · exact Or.inr (fun z => d ⟨q, cw_cat2 z⟩)
    · exact Or.inl q
/-- a long is stored -/
def mset2 (l : List mV) (i : Nat) (v : mV) : List mV := (mset l i v).set (i + 1) none
theorem mset2_prs {ad : mAd} {l : List mV} {i : Nat} {w : mW} {ls : Array Slot} {nL : Nat} (h : lv_has ls nL ((i, cw ad w) :: (prs ad 0 l).filter (fun q => !(q.1 == i) && (!(q.1 == i + 1) && !(q.1 + 1 == i && q.2.category == 2))))) : lv_has ls nL (prs ad 0 (mset2 l i (some w))) := by
  refine lv_less h ?_
  rintro ⟨j, x⟩ hq
  obtain ⟨j2, v, e1, e2, e3⟩ := prs_mem.mp hq
  have e1 : j = j2 := by omega
  subst e1
  subst e3
  have hj : j ≠ i + 1 := by
    intro e
    subst e
    simp only [mset2] at e2
    rw [List.getElem?_set] at e2
    simp at e2
  simp only [mset2] at e2
  rw [List.getElem?_set_ne (fun e => hj e.symm)] at e2
  rcases mset_get e2 with ⟨a, b⟩ | ⟨a, b, d⟩
  · subst a
    cases b
    exact List.mem_cons_self
  · refine List.mem_cons_of_mem _ (List.mem_filter.mpr ⟨prs_mem.mpr ⟨j, v, by omega, b, rfl⟩, ?_⟩)
    have a2 : (j == i) = false := by simpa using a
    have a3 : (j == i + 1) = false := by simpa using hj
    simp only [a2, a3, Bool.not_false, Bool.true_and, Bool.not_eq_true', Bool.and_eq_false_iff, beq_eq_false_iff_ne, ne_eq]
    by_cases q : j + 1 = i
    · exact Or.inr (fun z => d ⟨q, cw_cat2 z⟩)
    · exact Or.inl q
theorem mset2_ok {l : List mV} {i : Nat} {v : mV} (h : ∀ u ∈ l, okV u) (hv : okV v) : ∀ u ∈ mset2 l i v, okV u := by
  intro u hu
  cases u with
  | none => trivial
  | some w =>
    rcases List.mem_or_eq_of_mem_set hu with h1 | h1
    · exact mset_ok h hv _ h1
    · cases h1
/-! forgetting locals -/
def mless : List mV → List mV → Prop
  | [], [] => True
  | a :: s, b :: t => (a = none ∨ a = b) ∧ mless s t
  | _, _ => False
theorem mless_len : ∀ {a b : List mV}, mless a b → a.length = b.length
  | [], [], _ => rfl
  | _ :: s, _ :: t, h => by simp [mless_len (a := s) (b := t) h.2]
theorem mless_get : ∀ {a b : List mV}, mless a b → ∀ {j : Nat} {u : mW}, a[j]? = some (some u) → b[j]? = some (some u)
  | [], [], _, j, u, h => h
  | x :: s, y :: t, h, 0, u, e => by
    simp at e
    rcases h.1 with q | q
    · rw [q] at e; cases e
    · rw [q] at e; simpa using e
  | x :: s, y :: t, h, j + 1, u, e => by
    simp at e ⊢
    exact mless_get h.2 e
end
section
theorem mless_ok {a b : List mV} (h : mless a b) (hb : ∀ v ∈ b, okV v) : ∀ v ∈ a, okV v := by
  intro v hv
  cases v with
  | none => trivial
  | some w =>
    obtain ⟨j, hj⟩ := List.getElem?_of_mem hv
    exact hb _ (List.mem_of_getElem? (mless_get h hj))
theorem mless_prs {ad : mAd} {a b : List mV} (h : mless a b) {ls : Array Slot} {nL : Nat} (hb : lv_has ls nL (prs ad 0 b)) : lv_has ls nL (prs ad 0 a) := by
  refine lv_less hb ?_
  rintro ⟨j, x⟩ hq
  obtain ⟨j2, v, e1, e2, e3⟩ := prs_mem.mp hq
  exact prs_mem.mpr ⟨j2, v, e1, mless_get h e2, e3⟩
theorem ok_c {a : mV} {st : List mV} (ha : okV a) (h : ∀ v ∈ st, okV v) : ∀ v ∈ a :: st, okV v := fun v hv => (List.mem_cons.mp hv).elim (fun e => e ▸ ha) (h v)
theorem ok_t {a : mV} {st : List mV} (h : ∀ v ∈ a :: st, okV v) : ∀ v ∈ st, okV v := fun v hv => h v (List.mem_cons_of_mem _ hv)
theorem ok_h {a : mV} {st : List mV} (h : ∀ v ∈ a :: st, okV v) : okV a := h a List.mem_cons_self
section DX
variable {M : mM} {G : mG} {s : State} {l l2 st st2 : List mV} {h h2 : mH} {H H2 : Heap} {locs locs2 : List Loc} {ls ls2 : Array Slot}
theorem Dx.stk (D : Dx M G s l st h H locs ls) (k : ∀ v ∈ st2, okV v) : Dx M G s l st2 h H locs ls := ⟨D.1, D.2.1, D.2.2.1, k, D.2.2.2.2.1, D.2.2.2.2.2⟩
theorem Dx.loc (D : Dx M G s l st h H locs ls) (k : ∀ v ∈ l2, okV v) (hl : lv_has ls2 M.2.2.1 (prs G.1 0 l2) ∧ l2.length = M.2.2.1) : Dx M G s l2 st h H locs ls2 := ⟨D.1, D.2.1, k, D.2.2.2.1, hl, D.2.2.2.2.2⟩
theorem Dx.hp (D : Dx M G s l st h H locs ls) (hR : Rep G h2 H2) (hV : VH h2) (hS : va_S (GA G) s.heap H2 locs2) : Dx M G s l st h2 H2 locs2 ls := ⟨hR, hV, D.2.2.1, D.2.2.2.1, D.2.2.2.2.1, hS⟩
theorem Dx.sk (D : Dx M G s l st h H locs ls) : ∀ v ∈ st, okV v := D.2.2.2.1
theorem Dx.lk (D : Dx M G s l st h H locs ls) : ∀ v ∈ l, okV v := D.2.2.1
theorem Dx.at (D : Dx M G s l st h H locs ls) {i : Nat} {v : mW} (hi : l[i]? = some (some v)) : ls[i]? = some (.val (cw G.1 v)) := prs_at D.2.2.2.2.1.1 hi
theorem Dx.len (D : Dx M G s l st h H locs ls) : l.length = M.2.2.1 := D.2.2.2.2.1.2
theorem Dx.lh (D : Dx M G s l st h H locs ls) : lv_has ls M.2.2.1 (prs G.1 0 l) := D.2.2.2.2.1.1
theorem Dx.fr (D : Dx M G s l st h H locs ls) : va_S (GA G) s.heap H locs := D.2.2.2.2.2
end DX
theorem ok_rng {k r i : Nat} (h : okId k r i) : k < 30 := by
  unfold okId at h
  split at h <;> omega
theorem ok_arr {k r i : Nat} (h : okId k r i) (hc : kc k = none) : 1 ≤ k ∧ k < 30 := by
  refine ⟨?_, ok_rng h⟩
  cases k with
  | zero => cases hc
  | succ k => omega
theorem sv_cong {h h2 : mH} {k r i s : Nat} (h1 : h.1 k r i s = h2.1 k r i s) (hm : k = 4 → h.2 r s = h2.2 r s) : sv h k r i s = sv h2 k r i s := by
  unfold sv
  split
  all_goals first
    | rfl
    | (split <;> first | rfl | exact congrArg (fun x => vI x) h1)
    | (rw [hm rfl])
    | exact congrArg (fun x => vI x) h1
theorem okV_R {k r i : Nat} (h : okId k r i) : okV (vR k r i) := h
theorem sv_ok {h : mH} (hV : VH h) {k r i s : Nat} (ho : okId k r i) (hs : s < kz k) : okV (sv h k r i s) := by
  unfold sv
  split
  all_goals first
    | trivial
    | (split <;> first
        | trivial
        | (rename_i hh
           exact hV _ _ _ hh)
        | (refine okV_R ?_
           simp [okId] at ho ⊢ <;> omega)
        | (refine okV_R ?_
           simp [okId] at ho ⊢
           done))
    | (refine okV_R ?_
       simp [okId, kz] at ho hs ⊢ <;> omega)
def isI (k s : Nat) : Prop := ∀ (h : mH) (r i : Nat), sv h k r i s = vI (h.1 k r i s)
def pI (h : mH) (k r i s : Nat) (x : Int32) : mH := (fun k2 r2 i2 s2 => if k2 = k ∧ r2 = r ∧ i2 = i ∧ s2 = s then x else h.1 k2 r2 i2 s2, h.2)
def pM (h : mH) (r s : Nat) (v : Option (Nat × Nat)) : mH := (h.1, fun r2 s2 => if r2 = r ∧ s2 = s then v else h.2 r2 s2)
theorem pI_at {h : mH} {k r i s : Nat} {x : Int32} : (pI h k r i s x).1 k r i s = x := by simp [pI]
theorem pI_ne {h : mH} {k r i s k2 r2 i2 s2 : Nat} {x : Int32} (hn : ¬ (k2 = k ∧ r2 = r ∧ i2 = i ∧ s2 = s)) : (pI h k r i s x).1 k2 r2 i2 s2 = h.1 k2 r2 i2 s2 := by simp only [pI, if_neg hn]
theorem pI_VH {h : mH} (hV : VH h) {k r i s : Nat} {x : Int32} : VH (pI h k r i s x) := hV
theorem pM_VH {h : mH} (hV : VH h) {r s : Nat} {v : Option (Nat × Nat)} (hv : ∀ p, v = some p → p.1 < 11 ∧ p.2 < 40) : VH (pM h r s v) := by
  intro r2 j p hp
  simp only [pM] at hp
  split at hp
  · exact hv p hp
  · exact hV r2 j p hp
theorem atK_obj {G : mG} {h : mH} {H : Heap} {k r i ci : Nat} (hc : kc k = some ci) : atK G h H k r i = t_OB (G.1 k r i) (G.2.1 ci) (kz k) (G.2.2.1 ci) H (fun s => cv G.1 (sv h k r i s)) := by
  unfold atK; rw [hc]
theorem atK_arr {G : mG} {h : mH} {H : Heap} {k r i : Nat} (hc : kc k = none) : atK G h H k r i = (H[G.1 k r i]? = some (arrV (G.2.2.2 k) (kz k) (fun s => cv G.1 (sv h k r i s)))) := by
  unfold atK; rw [hc]
theorem arrV_cong {cA : ClassId} {N : Nat} {f g : Nat → Value} (h : ∀ j, j < N → f j = g j) : arrV cA N f = arrV cA N g := by
  unfold arrV
  have e : (Array.ofFn (n := N) fun j => f j.val) = (Array.ofFn (n := N) fun j => g j.val) := by
    apply Array.ext
    · simp
    · intro j h1 h2
      simp only [Array.getElem_ofFn]
      exact h j (by simpa using h1)
  rw [e]
theorem atK_cong {G : mG} {h h2 : mH} {H H2 : Heap} {k r i : Nat} (A : atK G h H k r i) (hH : H2[G.1 k r i]? = H[G.1 k r i]?) (hs : ∀ s, s < kz k → sv h2 k r i s = sv h k r i s) : atK G h2 H2 k r i := by
  cases hc : kc k with
  | none =>
    rw [atK_arr hc] at A ⊢
    rw [hH, A]
    exact congrArg some (arrV_cong (fun j hj => by rw [hs j hj]))
  | some ci =>
    rw [atK_obj hc] at A ⊢
    exact (A.kept hH).to (fun s hs2 => by rw [hs s hs2])
/-- one place of one cell is written anew -/
theorem Rep.put {G : mG} {h h2 : mH} {H H2 : Heap} {k r i : Nat} (hI : InjG G) (hR : Rep G h H) (ho : okId k r i) (hnew : atK G h2 H2 k r i) (hoth : ∀ q, q ≠ G.1 k r i → H2[q]? = H[q]?) (hs : ∀ k2 r2 i2 s2, okId k2 r2 i2 → ¬ (k2 = k ∧ r2 = r ∧ i2 = i) → sv h2 k2 r2 i2 s2 = sv h k2 r2 i2 s2) : Rep G h2 H2 := by
  intro k2 r2 i2 ho2
  by_cases e : k2 = k ∧ r2 = r ∧ i2 = i
  · obtain ⟨rfl, rfl, rfl⟩ := e
    exact hnew
  · exact atK_cong (hR k2 r2 i2 ho2) (hoth _ (fun q => e (hI _ _ _ _ _ _ ho2 ho q))) (fun s _ => hs k2 r2 i2 s ho2 e)
theorem sv_pI {h : mH} {k r i s : Nat} {x : Int32} (hi : isI k s) (k2 r2 i2 s2 : Nat) : sv (pI h k r i s x) k2 r2 i2 s2 = if k2 = k ∧ r2 = r ∧ i2 = i ∧ s2 = s then vI x else sv h k2 r2 i2 s2 := by
  by_cases e : k2 = k ∧ r2 = r ∧ i2 = i ∧ s2 = s
  · rw [if_pos e]
    obtain ⟨rfl, rfl, rfl, rfl⟩ := e
    rw [hi, pI_at]
  · rw [if_neg e]
    exact sv_cong (pI_ne e) (fun _ => rfl)
theorem sv_pM {h : mH} {r s : Nat} {v : Option (Nat × Nat)} (k2 r2 i2 s2 : Nat) (e : ¬ (k2 = 4 ∧ r2 = r ∧ s2 = s)) : sv (pM h r s v) k2 r2 i2 s2 = sv h k2 r2 i2 s2 := by
  refine sv_cong rfl (fun hk => ?_)
  simp only [pM]
  rw [if_neg (fun q => e ⟨hk, q⟩)]
/-! straight rows -/
section ROWS
variable {M : mM} {pc : Nat} {l st : List mV} {h : mH} {Q : mV → mH → Prop}
theorem mE.mono {Q2 : mV → mH → Prop} (hq : ∀ v h, Q v h → Q2 v h) (k : mE M pc l st h Q) : mE M pc l st h Q2 := by
  intro G p l0 e R s m args below meth c H locs ls hC hD T hT X
  obtain ⟨t, a, o, b1, b2, ⟨⟨v, h1, c1, c2, c3⟩, c4⟩, b4⟩ := k G p l0 e R s m args below meth c H locs ls hC hD T hT X
  exact ⟨t, a, o, b1, b2, ⟨⟨v, h1, c1, hq v h1 c2, c3⟩, c4⟩, b4⟩
theorem mE.less {l2 : List mV} (hl : mless l2 l) (k : mE M pc l2 st h Q) : mE M pc l st h Q := by
  intro G p l0 e R s m args below meth c H locs ls hC hD
  exact k G p l0 e R s m args below meth c H locs ls hC (hD.loc (mless_ok hl hD.lk) ⟨mless_prs hl hD.lh, (mless_len hl).trans hD.len⟩)
theorem mE.iconst {n : Int} {v : Int32} (hd : decode M.2.1 pc = .ok (.iconst n, 1)) (hv : Int32.ofInt n = v) (k : mE M (pc + 1) l (vI v :: st) h Q) : mE M pc l st h Q := by
  intro G p l0 e R s m args below meth c H locs ls hC hD
  exact lv_iconst hC.1 hC.2.1 hd hv (k G p l0 e R s m args below meth c H locs ls hC (hD.stk (ok_c trivial hD.sk)))
theorem mE.bipush {n : Int} {v : Int32} (hd : decode M.2.1 pc = .ok (.bipush n, 2)) (hv : (Int8.ofInt n).toInt32 = v) (k : mE M (pc + 2) l (vI v :: st) h Q) : mE M pc l st h Q := by
  intro G p l0 e R s m args below meth c H locs ls hC hD
  exact lv_bipush hC.1 hC.2.1 hd hv (k G p l0 e R s m args below meth c H locs ls hC (hD.stk (ok_c trivial hD.sk)))
theorem mE.sipush {n : Int} {v : Int32} (hd : decode M.2.1 pc = .ok (.sipush n, 3)) (hv : (Int16.ofInt n).toInt32 = v) (k : mE M (pc + 3) l (vI v :: st) h Q) : mE M pc l st h Q := by
  intro G p l0 e R s m args below meth c H locs ls hC hD
  exact lv_sipush hC.1 hC.2.1 hd hv (k G p l0 e R s m args below meth c H locs ls hC (hD.stk (ok_c trivial hD.sk)))
theorem mE.lconst {n : Fin 2} {v : Int64} (hd : decode M.2.1 pc = .ok (.lconst n, 1)) (hv : Int64.ofNat (n : Nat) = v) (k : mE M (pc + 1) l (vL v :: st) h Q) : mE M pc l st h Q := by
  intro G p l0 e R s m args below meth c H locs ls hC hD
  exact lv_lconst hC.1 hC.2.1 hd hv (k G p l0 e R s m args below meth c H locs ls hC (hD.stk (ok_c trivial hD.sk)))
theorem mE.ldc {idx : Nat} {v : Int32} (hd : decode M.2.1 pc = .ok (.ldc idx, 2)) (hw : Jvm.Cond.constant M.1.cls idx v ∈ TB) (k : mE M (pc + 2) l (vI v :: st) h Q) : mE M pc l st h Q := by
  intro G p l0 e R s m args below meth c H locs ls hC hD
  exact lv_ldc hC.1 hC.2.1 hC.2.2.2.2.1 (hC.2.2.2.2.2.1 _ hw) hd (k G p l0 e R s m args below meth c H locs ls hC (hD.stk (ok_c trivial hD.sk)))
theorem mE.ldc2 {idx : Nat} {v : Int64} (hd : decode M.2.1 pc = .ok (.ldc2_w idx, 3)) (hw : Jvm.Cond.constantLong M.1.cls idx v ∈ TB) (k : mE M (pc + 3) l (vL v :: st) h Q) : mE M pc l st h Q := by
  intro G p l0 e R s m args below meth c H locs ls hC hD
  exact lv_ldc2 hC.1 hC.2.1 hC.2.2.2.2.1 (hC.2.2.2.2.2.1 _ hw) hd (k G p l0 e R s m args below meth c H locs ls hC (hD.stk (ok_c trivial hD.sk)))
theorem mE.iload_n {n : Fin 4} {x : Int32} (hd : decode M.2.1 pc = .ok (.iload_n n, 1)) (hl : l[(n : Nat)]? = some (vI x)) (k : mE M (pc + 1) l (vI x :: st) h Q) : mE M pc l st h Q := by
  intro G p l0 e R s m args below meth c H locs ls hC hD
  exact lv_iload_n hC.1 hC.2.1 hd rfl (hD.at hl) (k G p l0 e R s m args below meth c H locs ls hC (hD.stk (ok_c trivial hD.sk)))
theorem mE.iload {n : Nat} {x : Int32} (hd : decode M.2.1 pc = .ok (.iload n, 2)) (hl : l[n]? = some (vI x)) (k : mE M (pc + 2) l (vI x :: st) h Q) : mE M pc l st h Q := by
  intro G p l0 e R s m args below meth c H locs ls hC hD
  exact lv_iload hC.1 hC.2.1 hd (hD.at hl) (k G p l0 e R s m args below meth c H locs ls hC (hD.stk (ok_c trivial hD.sk)))
theorem mE.lload_n {n : Fin 4} {x : Int64} (hd : decode M.2.1 pc = .ok (.lload_n n, 1)) (hl : l[(n : Nat)]? = some (vL x)) (k : mE M (pc + 1) l (vL x :: st) h Q) : mE M pc l st h Q := by
  intro G p l0 e R s m args below meth c H locs ls hC hD
  exact lv_lload_n hC.1 hC.2.1 hd rfl (hD.at hl) (k G p l0 e R s m args below meth c H locs ls hC (hD.stk (ok_c trivial hD.sk)))
theorem mE.aload_n {n : Fin 4} {a r i : Nat} (hd : decode M.2.1 pc = .ok (.aload_n n, 1)) (hl : l[(n : Nat)]? = some (vR a r i)) (k : mE M (pc + 1) l (vR a r i :: st) h Q) : mE M pc l st h Q := by
  intro G p l0 e R s m args below meth c H locs ls hC hD
  exact lv_aload_n hC.1 hC.2.1 hd rfl (hD.at hl) (k G p l0 e R s m args below meth c H locs ls hC (hD.stk (ok_c (hD.lk _ (List.mem_of_getElem? hl)) hD.sk)))
theorem mE.aload {n : Nat} {a r i : Nat} (hd : decode M.2.1 pc = .ok (.aload n, 2)) (hl : l[n]? = some (vR a r i)) (k : mE M (pc + 2) l (vR a r i :: st) h Q) : mE M pc l st h Q := by
  intro G p l0 e R s m args below meth c H locs ls hC hD
  exact lv_aload hC.1 hC.2.1 hd (hD.at hl) (k G p l0 e R s m args below meth c H locs ls hC (hD.stk (ok_c (hD.lk _ (List.mem_of_getElem? hl)) hD.sk)))
theorem mE.aload_nN {n : Fin 4} (hd : decode M.2.1 pc = .ok (.aload_n n, 1)) (hl : l[(n : Nat)]? = some vN) (k : mE M (pc + 1) l (vN :: st) h Q) : mE M pc l st h Q := by
  intro G p l0 e R s m args below meth c H locs ls hC hD
  exact lv_aload_nN hC.1 hC.2.1 hd rfl (hD.at hl) (k G p l0 e R s m args below meth c H locs ls hC (hD.stk (ok_c trivial hD.sk)))
theorem mE.aloadN {n : Nat} (hd : decode M.2.1 pc = .ok (.aload n, 2)) (hl : l[n]? = some vN) (k : mE M (pc + 2) l (vN :: st) h Q) : mE M pc l st h Q := by
  intro G p l0 e R s m args below meth c H locs ls hC hD
  exact lv_aloadN hC.1 hC.2.1 hd (hD.at hl) (k G p l0 e R s m args below meth c H locs ls hC (hD.stk (ok_c trivial hD.sk)))
theorem mE.istore_n {n : Fin 4} {x : Int32} {l2 : List mV} (hd : decode M.2.1 pc = .ok (.istore_n n, 1)) (hn : (n : Nat) < M.2.2.1) (hl : mset l n (vI x) = l2) (k : mE M (pc + 1) l2 st h Q) : mE M pc l (vI x :: st) h Q := by
  intro G p l0 e R s m args below meth c H locs ls hC hD
  subst hl
  exact lv_istore_n hC.1 hC.2.1 hd rfl hD.lh hn rfl (fun ls2 h2 => k G p l0 e R s m args below meth c H locs ls2 hC ((hD.stk (ok_t hD.sk)).loc (mset_ok hD.lk trivial) ⟨mset_prs (w := .inl x) h2, mset_len.trans hD.len⟩))
theorem mE.istore {n : Nat} {x : Int32} {l2 : List mV} (hd : decode M.2.1 pc = .ok (.istore n, 2)) (hn : n < M.2.2.1) (hl : mset l n (vI x) = l2) (k : mE M (pc + 2) l2 st h Q) : mE M pc l (vI x :: st) h Q := by
  intro G p l0 e R s m args below meth c H locs ls hC hD
  subst hl
  exact lv_istore hC.1 hC.2.1 hd hD.lh hn rfl (fun ls2 h2 => k G p l0 e R s m args below meth c H locs ls2 hC ((hD.stk (ok_t hD.sk)).loc (mset_ok hD.lk trivial) ⟨mset_prs (w := .inl x) h2, mset_len.trans hD.len⟩))
theorem mE.iinc {i : Nat} {n : Int} {x v : Int32} {l2 : List mV} (hd : decode M.2.1 pc = .ok (.iinc i n, 3)) (hx : l[i]? = some (vI x)) (hv : x + Int32.ofInt n = v) (hn : i < M.2.2.1) (hl : mset l i (vI v) = l2) (k : mE M (pc + 3) l2 st h Q) : mE M pc l st h Q := by
  intro G p l0 e R s m args below meth c H locs ls hC hD
  subst hl
  obtain ⟨j, hj⟩ := List.getElem?_of_mem (prs_mem.mpr ⟨i, .inl x, by omega, hx, rfl⟩ : (i, cw G.1 (.inl x)) ∈ prs G.1 0 l)
  exact lv_iinc hC.1 hC.2.1 hd hD.lh hj hv hn rfl (fun ls2 h2 => k G p l0 e R s m args below meth c H locs ls2 hC (hD.loc (mset_ok hD.lk trivial) ⟨mset_prs (w := .inl v) h2, mset_len.trans hD.len⟩))
theorem mE.lstore_n {n : Fin 4} {x : Int64} {l2 : List mV} (hd : decode M.2.1 pc = .ok (.lstore_n n, 1)) (hn : (n : Nat) + 1 < M.2.2.1) (hl : mset2 l n (vL x) = l2) (k : mE M (pc + 1) l2 st h Q) : mE M pc l (vL x :: st) h Q := by
  intro G p l0 e R s m args below meth c H locs ls hC hD
  subst hl
  exact lv_lstore_n hC.1 hC.2.1 hd rfl hD.lh hn rfl (fun ls2 h2 => k G p l0 e R s m args below meth c H locs ls2 hC ((hD.stk (ok_t hD.sk)).loc (mset2_ok hD.lk trivial) ⟨mset2_prs (w := .inr (.inl x)) h2, by simp only [mset2, List.length_set, mset_len]; exact hD.len⟩))
theorem mE.lstore {n : Nat} {x : Int64} {l2 : List mV} (hd : decode M.2.1 pc = .ok (.lstore n, 2)) (hn : n + 1 < M.2.2.1) (hl : mset2 l n (vL x) = l2) (k : mE M (pc + 2) l2 st h Q) : mE M pc l (vL x :: st) h Q := by
  intro G p l0 e R s m args below meth c H locs ls hC hD
  subst hl
  exact lv_lstore hC.1 hC.2.1 hd hD.lh hn rfl (fun ls2 h2 => k G p l0 e R s m args below meth c H locs ls2 hC ((hD.stk (ok_t hD.sk)).loc (mset2_ok hD.lk trivial) ⟨mset2_prs (w := .inr (.inl x)) h2, by simp only [mset2, List.length_set, mset_len]; exact hD.len⟩))
theorem mE.lload {n : Nat} {x : Int64} (hd : decode M.2.1 pc = .ok (.lload n, 2)) (hl : l[n]? = some (vL x)) (k : mE M (pc + 2) l (vL x :: st) h Q) : mE M pc l st h Q := by
  intro G p l0 e R s m args below meth c H locs ls hC hD
  exact lv_lload hC.1 hC.2.1 hd (hD.at hl) (k G p l0 e R s m args below meth c H locs ls hC (hD.stk (ok_c trivial hD.sk)))
theorem mE.astore_n {n : Fin 4} {a r i : Nat} {l2 : List mV} (hd : decode M.2.1 pc = .ok (.astore_n n, 1)) (hn : (n : Nat) < M.2.2.1) (hl : mset l n (vR a r i) = l2) (k : mE M (pc + 1) l2 st h Q) : mE M pc l (vR a r i :: st) h Q := by
  intro G p l0 e R s m args below meth c H locs ls hC hD
  subst hl
  exact lv_astore_n hC.1 hC.2.1 hd rfl hD.lh hn rfl (fun ls2 h2 => k G p l0 e R s m args below meth c H locs ls2 hC ((hD.stk (ok_t hD.sk)).loc (mset_ok hD.lk (ok_h hD.sk)) ⟨mset_prs (w := .inr (.inr (some (a, r, i)))) h2, mset_len.trans hD.len⟩))
theorem mE.astore {n : Nat} {a r i : Nat} {l2 : List mV} (hd : decode M.2.1 pc = .ok (.astore n, 2)) (hn : n < M.2.2.1) (hl : mset l n (vR a r i) = l2) (k : mE M (pc + 2) l2 st h Q) : mE M pc l (vR a r i :: st) h Q := by
  intro G p l0 e R s m args below meth c H locs ls hC hD
  subst hl
  exact lv_astore hC.1 hC.2.1 hd hD.lh hn rfl (fun ls2 h2 => k G p l0 e R s m args below meth c H locs ls2 hC ((hD.stk (ok_t hD.sk)).loc (mset_ok hD.lk (ok_h hD.sk)) ⟨mset_prs (w := .inr (.inr (some (a, r, i)))) h2, mset_len.trans hD.len⟩))
theorem mE.astore_nN {n : Fin 4} {l2 : List mV} (hd : decode M.2.1 pc = .ok (.astore_n n, 1)) (hn : (n : Nat) < M.2.2.1) (hl : mset l n vN = l2) (k : mE M (pc + 1) l2 st h Q) : mE M pc l (vN :: st) h Q := by
  intro G p l0 e R s m args below meth c H locs ls hC hD
  subst hl
  exact lv_astore_nN hC.1 hC.2.1 hd rfl hD.lh hn rfl (fun ls2 h2 => k G p l0 e R s m args below meth c H locs ls2 hC ((hD.stk (ok_t hD.sk)).loc (mset_ok hD.lk trivial) ⟨mset_prs (w := .inr (.inr none)) h2, mset_len.trans hD.len⟩))
theorem mE.astoreN {n : Nat} {l2 : List mV} (hd : decode M.2.1 pc = .ok (.astore n, 2)) (hn : n < M.2.2.1) (hl : mset l n vN = l2) (k : mE M (pc + 2) l2 st h Q) : mE M pc l (vN :: st) h Q := by
  intro G p l0 e R s m args below meth c H locs ls hC hD
  subst hl
  exact lv_astoreN hC.1 hC.2.1 hd hD.lh hn rfl (fun ls2 h2 => k G p l0 e R s m args below meth c H locs ls2 hC ((hD.stk (ok_t hD.sk)).loc (mset_ok hD.lk trivial) ⟨mset_prs (w := .inr (.inr none)) h2, mset_len.trans hD.len⟩))
theorem mE.null (hd : decode M.2.1 pc = .ok (.aconst_null, 1)) (k : mE M (pc + 1) l (vN :: st) h Q) : mE M pc l st h Q := by
  intro G p l0 e R s m args below meth c H locs ls hC hD
  exact lv_null hC.1 hC.2.1 hd (k G p l0 e R s m args below meth c H locs ls hC (hD.stk (ok_c trivial hD.sk)))
theorem mE.ifnullR {a r i : Nat} {off : Int} (hd : decode M.2.1 pc = .ok (.ifnull off, 3)) (k : mE M (pc + 3) l st h Q) : mE M pc l (vR a r i :: st) h Q := by
  intro G p l0 e R s m args below meth c H locs ls hC hD
  exact lv_ifnull hC.1 hC.2.1 hd (k G p l0 e R s m args below meth c H locs ls hC (hD.stk (ok_t hD.sk)))
theorem mE.ifnullN {off : Int} {tgt : Nat} (hd : decode M.2.1 pc = .ok (.ifnull off, 3)) (ht : (pc : Int) + off = (tgt : Int)) (k : mE M tgt l st h Q) : mE M pc l (vN :: st) h Q := by
  intro G p l0 e R s m args below meth c H locs ls hC hD
  exact lv_ifnullN hC.1 hC.2.1 hd ht (k G p l0 e R s m args below meth c H locs ls hC (hD.stk (ok_t hD.sk)))
theorem mE.ifnonnullR {a r i : Nat} {off : Int} {tgt : Nat} (hd : decode M.2.1 pc = .ok (.ifnonnull off, 3)) (ht : (pc : Int) + off = (tgt : Int)) (k : mE M tgt l st h Q) : mE M pc l (vR a r i :: st) h Q := by
  intro G p l0 e R s m args below meth c H locs ls hC hD
  exact lv_ifnonnull hC.1 hC.2.1 hd ht (k G p l0 e R s m args below meth c H locs ls hC (hD.stk (ok_t hD.sk)))
theorem mE.ifnonnullN {off : Int} (hd : decode M.2.1 pc = .ok (.ifnonnull off, 3)) (k : mE M (pc + 3) l st h Q) : mE M pc l (vN :: st) h Q := by
  intro G p l0 e R s m args below meth c H locs ls hC hD
  exact lv_ifnonnullN hC.1 hC.2.1 hd (k G p l0 e R s m args below meth c H locs ls hC (hD.stk (ok_t hD.sk)))
theorem mE.goto {off : Int} {tgt : Nat} (hd : decode M.2.1 pc = .ok (.goto off, 3)) (ht : (pc : Int) + off = (tgt : Int)) (k : mE M tgt l st h Q) : mE M pc l st h Q := by
  intro G p l0 e R s m args below meth c H locs ls hC hD
  exact lv_goto hC.1 hC.2.1 hd ht (k G p l0 e R s m args below meth c H locs ls hC hD)
theorem mE.popI {x : Int32} (hd : decode M.2.1 pc = .ok (.pop, 1)) (k : mE M (pc + 1) l st h Q) : mE M pc l (vI x :: st) h Q := by
  intro G p l0 e R s m args below meth c H locs ls hC hD
  exact lv_pop hC.1 hC.2.1 hd rfl (k G p l0 e R s m args below meth c H locs ls hC (hD.stk (ok_t hD.sk)))
theorem mE.popR {a r i : Nat} (hd : decode M.2.1 pc = .ok (.pop, 1)) (k : mE M (pc + 1) l st h Q) : mE M pc l (vR a r i :: st) h Q := by
  intro G p l0 e R s m args below meth c H locs ls hC hD
  exact lv_pop hC.1 hC.2.1 hd rfl (k G p l0 e R s m args below meth c H locs ls hC (hD.stk (ok_t hD.sk)))
theorem mE.dupR {a r i : Nat} (hd : decode M.2.1 pc = .ok (.dup, 1)) (k : mE M (pc + 1) l (vR a r i :: vR a r i :: st) h Q) : mE M pc l (vR a r i :: st) h Q := by
  intro G p l0 e R s m args below meth c H locs ls hC hD
  exact lv_dup hC.1 hC.2.1 hd rfl (k G p l0 e R s m args below meth c H locs ls hC (hD.stk (ok_c (ok_h hD.sk) hD.sk)))
theorem mE.dupI {x : Int32} (hd : decode M.2.1 pc = .ok (.dup, 1)) (k : mE M (pc + 1) l (vI x :: vI x :: st) h Q) : mE M pc l (vI x :: st) h Q := by
  intro G p l0 e R s m args below meth c H locs ls hC hD
  exact lv_dup hC.1 hC.2.1 hd rfl (k G p l0 e R s m args below meth c H locs ls hC (hD.stk (ok_c trivial hD.sk)))
theorem mE.dup2 {x : Int32} {a r i : Nat} (hd : decode M.2.1 pc = .ok (.dup2, 1)) (k : mE M (pc + 1) l (vI x :: vR a r i :: vI x :: vR a r i :: st) h Q) : mE M pc l (vI x :: vR a r i :: st) h Q := by
  intro G p l0 e R s m args below meth c H locs ls hC hD
  exact lv_dup2_11 hC.1 hC.2.1 hd rfl rfl (k G p l0 e R s m args below meth c H locs ls hC (hD.stk (ok_c trivial (ok_c (ok_h (ok_t hD.sk)) hD.sk))))
theorem mE.iadd {x y : Int32} (hd : decode M.2.1 pc = .ok (.iadd, 1)) (k : mE M (pc + 1) l (vI (x + y) :: st) h Q) : mE M pc l (vI y :: vI x :: st) h Q := by
  intro G p l0 e R s m args below meth c H locs ls hC hD
  exact lv_iadd hC.1 hC.2.1 hd (k G p l0 e R s m args below meth c H locs ls hC (hD.stk (ok_c trivial (ok_t (ok_t hD.sk)))))
theorem mE.isub {x y : Int32} (hd : decode M.2.1 pc = .ok (.isub, 1)) (k : mE M (pc + 1) l (vI (x - y) :: st) h Q) : mE M pc l (vI y :: vI x :: st) h Q := by
  intro G p l0 e R s m args below meth c H locs ls hC hD
  exact lv_isub hC.1 hC.2.1 hd (k G p l0 e R s m args below meth c H locs ls hC (hD.stk (ok_c trivial (ok_t (ok_t hD.sk)))))
theorem mE.imul {x y : Int32} (hd : decode M.2.1 pc = .ok (.imul, 1)) (k : mE M (pc + 1) l (vI (x * y) :: st) h Q) : mE M pc l (vI y :: vI x :: st) h Q := by
  intro G p l0 e R s m args below meth c H locs ls hC hD
  exact lv_imul hC.1 hC.2.1 hd (k G p l0 e R s m args below meth c H locs ls hC (hD.stk (ok_c trivial (ok_t (ok_t hD.sk)))))
theorem mE.iand {x y : Int32} (hd : decode M.2.1 pc = .ok (.iand, 1)) (k : mE M (pc + 1) l (vI (x &&& y) :: st) h Q) : mE M pc l (vI y :: vI x :: st) h Q := by
  intro G p l0 e R s m args below meth c H locs ls hC hD
  exact lv_iand hC.1 hC.2.1 hd (k G p l0 e R s m args below meth c H locs ls hC (hD.stk (ok_c trivial (ok_t (ok_t hD.sk)))))
theorem mE.ior {x y : Int32} (hd : decode M.2.1 pc = .ok (.ior, 1)) (k : mE M (pc + 1) l (vI (x ||| y) :: st) h Q) : mE M pc l (vI y :: vI x :: st) h Q := by
  intro G p l0 e R s m args below meth c H locs ls hC hD
  exact lv_ior hC.1 hC.2.1 hd (k G p l0 e R s m args below meth c H locs ls hC (hD.stk (ok_c trivial (ok_t (ok_t hD.sk)))))
theorem mE.ixor {x y : Int32} (hd : decode M.2.1 pc = .ok (.ixor, 1)) (k : mE M (pc + 1) l (vI (x ^^^ y) :: st) h Q) : mE M pc l (vI y :: vI x :: st) h Q := by
  intro G p l0 e R s m args below meth c H locs ls hC hD
  exact lv_ixor hC.1 hC.2.1 hd (k G p l0 e R s m args below meth c H locs ls hC (hD.stk (ok_c trivial (ok_t (ok_t hD.sk)))))
theorem mE.idiv {x y : Int32} (hd : decode M.2.1 pc = .ok (.idiv, 1)) (hne : ¬ y = 0) (k : mE M (pc + 1) l (vI (x / y) :: st) h Q) : mE M pc l (vI y :: vI x :: st) h Q := by
  intro G p l0 e R s m args below meth c H locs ls hC hD
  exact lv_idiv hC.1 hC.2.1 hd hne (k G p l0 e R s m args below meth c H locs ls hC (hD.stk (ok_c trivial (ok_t (ok_t hD.sk)))))
theorem mE.irem {x y : Int32} (hd : decode M.2.1 pc = .ok (.irem, 1)) (hne : ¬ y = 0) (k : mE M (pc + 1) l (vI (x - x / y * y) :: st) h Q) : mE M pc l (vI y :: vI x :: st) h Q := by
  intro G p l0 e R s m args below meth c H locs ls hC hD
  exact lv_irem hC.1 hC.2.1 hd hne (k G p l0 e R s m args below meth c H locs ls hC (hD.stk (ok_c trivial (ok_t (ok_t hD.sk)))))
theorem mE.ishl {x y : Int32} (hd : decode M.2.1 pc = .ok (.ishl, 1)) (k : mE M (pc + 1) l (vI (x <<< (y &&& 31)) :: st) h Q) : mE M pc l (vI y :: vI x :: st) h Q := by
  intro G p l0 e R s m args below meth c H locs ls hC hD
  exact lv_ishl hC.1 hC.2.1 hd (k G p l0 e R s m args below meth c H locs ls hC (hD.stk (ok_c trivial (ok_t (ok_t hD.sk)))))
theorem mE.ishr {x y : Int32} (hd : decode M.2.1 pc = .ok (.ishr, 1)) (k : mE M (pc + 1) l (vI (x >>> (y &&& 31)) :: st) h Q) : mE M pc l (vI y :: vI x :: st) h Q := by
  intro G p l0 e R s m args below meth c H locs ls hC hD
  exact lv_ishr hC.1 hC.2.1 hd (k G p l0 e R s m args below meth c H locs ls hC (hD.stk (ok_c trivial (ok_t (ok_t hD.sk)))))
theorem mE.ineg {x : Int32} (hd : decode M.2.1 pc = .ok (.ineg, 1)) (k : mE M (pc + 1) l (vI (-x) :: st) h Q) : mE M pc l (vI x :: st) h Q := by
  intro G p l0 e R s m args below meth c H locs ls hC hD
  exact lv_ineg hC.1 hC.2.1 hd (k G p l0 e R s m args below meth c H locs ls hC (hD.stk (ok_c trivial (ok_t hD.sk))))
theorem mE.land {x y : Int64} (hd : decode M.2.1 pc = .ok (.land, 1)) (k : mE M (pc + 1) l (vL (x &&& y) :: st) h Q) : mE M pc l (vL y :: vL x :: st) h Q := by
  intro G p l0 e R s m args below meth c H locs ls hC hD
  exact lv_land hC.1 hC.2.1 hd (k G p l0 e R s m args below meth c H locs ls hC (hD.stk (ok_c trivial (ok_t (ok_t hD.sk)))))
theorem mE.lcmp {x y : Int64} (hd : decode M.2.1 pc = .ok (.lcmp, 1)) (k : mE M (pc + 1) l (vI (lg_cmp x y) :: st) h Q) : mE M pc l (vL y :: vL x :: st) h Q := by
  intro G p l0 e R s m args below meth c H locs ls hC hD
  exact W.lcmp hC.1 hC.2.1 hd (k G p l0 e R s m args below meth c H locs ls hC (hD.stk (ok_c trivial (ok_t (ok_t hD.sk)))))
theorem mE.lushr {x : Int64} {y : Int32} (hd : decode M.2.1 pc = .ok (.lushr, 1)) (k : mE M (pc + 1) l (vL ((x.toUInt64 >>> (y.toInt64.toUInt64 &&& Int64.toUInt64 63)).toInt64) :: st) h Q) : mE M pc l (vI y :: vL x :: st) h Q := by
  intro G p l0 e R s m args below meth c H locs ls hC hD
  exact lv_lushr hC.1 hC.2.1 hd rfl (k G p l0 e R s m args below meth c H locs ls hC (hD.stk (ok_c trivial (ok_t (ok_t hD.sk)))))
theorem mE.l2i {x : Int64} (hd : decode M.2.1 pc = .ok (.l2i, 1)) (k : mE M (pc + 1) l (vI x.toInt32 :: st) h Q) : mE M pc l (vL x :: st) h Q := by
  intro G p l0 e R s m args below meth c H locs ls hC hD
  exact lv_l2i hC.1 hC.2.1 hd rfl (k G p l0 e R s m args below meth c H locs ls hC (hD.stk (ok_c trivial (ok_t hD.sk))))
theorem mE.i2l {x : Int32} (hd : decode M.2.1 pc = .ok (.i2l, 1)) (k : mE M (pc + 1) l (vL x.toInt64 :: st) h Q) : mE M pc l (vI x :: st) h Q := by
  intro G p l0 e R s m args below meth c H locs ls hC hD
  exact lv_i2l hC.1 hC.2.1 hd rfl (k G p l0 e R s m args below meth c H locs ls hC (hD.stk (ok_c trivial (ok_t hD.sk))))
theorem mE.i2c {x : Int32} (hd : decode M.2.1 pc = .ok (.i2c, 1)) (k : mE M (pc + 1) l (vI ((x.toUInt32 % 65536).toInt32) :: st) h Q) : mE M pc l (vI x :: st) h Q := by
  intro G p l0 e R s m args below meth c H locs ls hC hD
  exact lv_i2c hC.1 hC.2.1 hd rfl (k G p l0 e R s m args below meth c H locs ls hC (hD.stk (ok_c trivial (ok_t hD.sk))))
theorem mE.if_eq {x : Int32} {off : Int} {tgt : Nat} (hd : decode M.2.1 pc = .ok (.ifCond .eq off, 3)) (ht : (pc : Int) + off = (tgt : Int)) (kt : x = 0 → mE M tgt l st h Q) (kf : ¬ x = 0 → mE M (pc + 3) l st h Q) : mE M pc l (vI x :: st) h Q := by
  intro G p l0 e R s m args below meth c H locs ls hC hD
  exact lv_if_eq hC.1 hC.2.1 hd ht (fun z => kt z G p l0 e R s m args below meth c H locs ls hC (hD.stk (ok_t hD.sk))) (fun z => kf z G p l0 e R s m args below meth c H locs ls hC (hD.stk (ok_t hD.sk)))
theorem mE.icmp_eq {x y : Int32} {off : Int} {tgt : Nat} (hd : decode M.2.1 pc = .ok (.if_icmp .eq off, 3)) (ht : (pc : Int) + off = (tgt : Int)) (kt : x = y → mE M tgt l st h Q) (kf : ¬ x = y → mE M (pc + 3) l st h Q) : mE M pc l (vI y :: vI x :: st) h Q := by
  intro G p l0 e R s m args below meth c H locs ls hC hD
  exact lv_icmp_eq hC.1 hC.2.1 hd ht (fun z => kt z G p l0 e R s m args below meth c H locs ls hC (hD.stk (ok_t (ok_t hD.sk)))) (fun z => kf z G p l0 e R s m args below meth c H locs ls hC (hD.stk (ok_t (ok_t hD.sk))))
theorem mE.if_ne {x : Int32} {off : Int} {tgt : Nat} (hd : decode M.2.1 pc = .ok (.ifCond .ne off, 3)) (ht : (pc : Int) + off = (tgt : Int)) (kt : ¬ x = 0 → mE M tgt l st h Q) (kf : x = 0 → mE M (pc + 3) l st h Q) : mE M pc l (vI x :: st) h Q := by
  intro G p l0 e R s m args below meth c H locs ls hC hD
  exact lv_if_ne hC.1 hC.2.1 hd ht (fun z => kt z G p l0 e R s m args below meth c H locs ls hC (hD.stk (ok_t hD.sk))) (fun z => kf z G p l0 e R s m args below meth c H locs ls hC (hD.stk (ok_t hD.sk)))
theorem mE.icmp_ne {x y : Int32} {off : Int} {tgt : Nat} (hd : decode M.2.1 pc = .ok (.if_icmp .ne off, 3)) (ht : (pc : Int) + off = (tgt : Int)) (kt : ¬ x = y → mE M tgt l st h Q) (kf : x = y → mE M (pc + 3) l st h Q) : mE M pc l (vI y :: vI x :: st) h Q := by
  intro G p l0 e R s m args below meth c H locs ls hC hD
  exact lv_icmp_ne hC.1 hC.2.1 hd ht (fun z => kt z G p l0 e R s m args below meth c H locs ls hC (hD.stk (ok_t (ok_t hD.sk)))) (fun z => kf z G p l0 e R s m args below meth c H locs ls hC (hD.stk (ok_t (ok_t hD.sk))))
theorem mE.if_lt {x : Int32} {off : Int} {tgt : Nat} (hd : decode M.2.1 pc = .ok (.ifCond .lt off, 3)) (ht : (pc : Int) + off = (tgt : Int)) (kt : x < 0 → mE M tgt l st h Q) (kf : ¬ x < 0 → mE M (pc + 3) l st h Q) : mE M pc l (vI x :: st) h Q := by
  intro G p l0 e R s m args below meth c H locs ls hC hD
  exact lv_if_lt hC.1 hC.2.1 hd ht (fun z => kt z G p l0 e R s m args below meth c H locs ls hC (hD.stk (ok_t hD.sk))) (fun z => kf z G p l0 e R s m args below meth c H locs ls hC (hD.stk (ok_t hD.sk)))
theorem mE.icmp_lt {x y : Int32} {off : Int} {tgt : Nat} (hd : decode M.2.1 pc = .ok (.if_icmp .lt off, 3)) (ht : (pc : Int) + off = (tgt : Int)) (kt : x < y → mE M tgt l st h Q) (kf : ¬ x < y → mE M (pc + 3) l st h Q) : mE M pc l (vI y :: vI x :: st) h Q := by
  intro G p l0 e R s m args below meth c H locs ls hC hD
  exact lv_icmp_lt hC.1 hC.2.1 hd ht (fun z => kt z G p l0 e R s m args below meth c H locs ls hC (hD.stk (ok_t (ok_t hD.sk)))) (fun z => kf z G p l0 e R s m args below meth c H locs ls hC (hD.stk (ok_t (ok_t hD.sk))))
theorem mE.if_ge {x : Int32} {off : Int} {tgt : Nat} (hd : decode M.2.1 pc = .ok (.ifCond .ge off, 3)) (ht : (pc : Int) + off = (tgt : Int)) (kt : 0 ≤ x → mE M tgt l st h Q) (kf : ¬ 0 ≤ x → mE M (pc + 3) l st h Q) : mE M pc l (vI x :: st) h Q := by
  intro G p l0 e R s m args below meth c H locs ls hC hD
  exact lv_if_ge hC.1 hC.2.1 hd ht (fun z => kt z G p l0 e R s m args below meth c H locs ls hC (hD.stk (ok_t hD.sk))) (fun z => kf z G p l0 e R s m args below meth c H locs ls hC (hD.stk (ok_t hD.sk)))
theorem mE.icmp_ge {x y : Int32} {off : Int} {tgt : Nat} (hd : decode M.2.1 pc = .ok (.if_icmp .ge off, 3)) (ht : (pc : Int) + off = (tgt : Int)) (kt : y ≤ x → mE M tgt l st h Q) (kf : ¬ y ≤ x → mE M (pc + 3) l st h Q) : mE M pc l (vI y :: vI x :: st) h Q := by
  intro G p l0 e R s m args below meth c H locs ls hC hD
  exact lv_icmp_ge hC.1 hC.2.1 hd ht (fun z => kt z G p l0 e R s m args below meth c H locs ls hC (hD.stk (ok_t (ok_t hD.sk)))) (fun z => kf z G p l0 e R s m args below meth c H locs ls hC (hD.stk (ok_t (ok_t hD.sk))))
theorem mE.if_gt {x : Int32} {off : Int} {tgt : Nat} (hd : decode M.2.1 pc = .ok (.ifCond .gt off, 3)) (ht : (pc : Int) + off = (tgt : Int)) (kt : 0 < x → mE M tgt l st h Q) (kf : ¬ 0 < x → mE M (pc + 3) l st h Q) : mE M pc l (vI x :: st) h Q := by
  intro G p l0 e R s m args below meth c H locs ls hC hD
  exact lv_if_gt hC.1 hC.2.1 hd ht (fun z => kt z G p l0 e R s m args below meth c H locs ls hC (hD.stk (ok_t hD.sk))) (fun z => kf z G p l0 e R s m args below meth c H locs ls hC (hD.stk (ok_t hD.sk)))
theorem mE.icmp_gt {x y : Int32} {off : Int} {tgt : Nat} (hd : decode M.2.1 pc = .ok (.if_icmp .gt off, 3)) (ht : (pc : Int) + off = (tgt : Int)) (kt : y < x → mE M tgt l st h Q) (kf : ¬ y < x → mE M (pc + 3) l st h Q) : mE M pc l (vI y :: vI x :: st) h Q := by
  intro G p l0 e R s m args below meth c H locs ls hC hD
  exact lv_icmp_gt hC.1 hC.2.1 hd ht (fun z => kt z G p l0 e R s m args below meth c H locs ls hC (hD.stk (ok_t (ok_t hD.sk)))) (fun z => kf z G p l0 e R s m args below meth c H locs ls hC (hD.stk (ok_t (ok_t hD.sk))))
theorem mE.if_le {x : Int32} {off : Int} {tgt : Nat} (hd : decode M.2.1 pc = .ok (.ifCond .le off, 3)) (ht : (pc : Int) + off = (tgt : Int)) (kt : x ≤ 0 → mE M tgt l st h Q) (kf : ¬ x ≤ 0 → mE M (pc + 3) l st h Q) : mE M pc l (vI x :: st) h Q := by
  intro G p l0 e R s m args below meth c H locs ls hC hD
  exact lv_if_le hC.1 hC.2.1 hd ht (fun z => kt z G p l0 e R s m args below meth c H locs ls hC (hD.stk (ok_t hD.sk))) (fun z => kf z G p l0 e R s m args below meth c H locs ls hC (hD.stk (ok_t hD.sk)))
theorem mE.icmp_le {x y : Int32} {off : Int} {tgt : Nat} (hd : decode M.2.1 pc = .ok (.if_icmp .le off, 3)) (ht : (pc : Int) + off = (tgt : Int)) (kt : x ≤ y → mE M tgt l st h Q) (kf : ¬ x ≤ y → mE M (pc + 3) l st h Q) : mE M pc l (vI y :: vI x :: st) h Q := by
  intro G p l0 e R s m args below meth c H locs ls hC hD
  exact lv_icmp_le hC.1 hC.2.1 hd ht (fun z => kt z G p l0 e R s m args below meth c H locs ls hC (hD.stk (ok_t (ok_t hD.sk)))) (fun z => kf z G p l0 e R s m args below meth c H locs ls hC (hD.stk (ok_t (ok_t hD.sk))))
end ROWS
end
section
/-! fields -/
def ClsF (k ci : Nat) (C : String) (T : u_T) : Prop := kc k = some ci ∧ vwCl[ci]? = some (C, T, kz k) ∧ (∀ w ∈ u_ws C T (kz k), w ∈ TB) ∧ (∀ a, a < kz k → ∀ b, b < kz k → a ≠ b → (T a).2.1 ≠ (T b).2.1) ∧ ∃ ty0 : Nat → FieldType, ∀ a, a < kz k → parseFieldDescriptor (T a).2.2.1 = some (ty0 a)
def FldF (own : String) (idx k j : Nat) : Prop := ∃ (ci : Nat) (C : String) (T : u_T), ClsF k ci C T ∧ j < kz k ∧ Jvm.Cond.fieldLink own idx C (T j).2.1 (T j).2.2.1 ∈ TB ∧ (T j).1 = C
def PutF (own : String) (idx k j : Nat) (ty : FieldType) : Prop := ∃ (ci : Nat) (C : String) (T : u_T), ClsF k ci C T ∧ j < kz k ∧ Jvm.Cond.fieldLink own idx C (T j).2.1 (T j).2.2.1 ∈ TB ∧ (T j).1 = C ∧ (T j).2.2.2 = false ∧ parseFieldDescriptor (T j).2.2.1 = some ty
section HEAP
variable {M : mM} {pc : Nat} {l st : List mV} {h : mH} {Q : mV → mH → Prop}
theorem mE.getf {idx k r i j : Nat} {w : mW} (hd : decode M.2.1 pc = .ok (.getfield idx, 3)) (F : FldF M.1.cls idx k j) (hv : sv h k r i j = some w) (kk : mE M (pc + 3) l (some w :: st) h Q) : mE M pc l (vR k r i :: st) h Q := by
  intro G p l0 e R s m args below meth c H locs ls hC hD
  obtain ⟨ci, C, T, ⟨hc, hcl, hin, -⟩, hj, hw, ho⟩ := F
  have hok : okId k r i := ok_h hD.sk
  have hA := hD.1 k r i hok
  rw [atK_obj hc] at hA
  obtain ⟨cell, q1, q2, q3, q4⟩ := hA
  obtain ⟨hx, hb, hr, hml, hown, hts, hlk, hroom, hK, hI⟩ := id hC
  obtain ⟨hS, hfc, kC, hkC, hkind⟩ := hK.1 ci _ hcl
  obtain ⟨cf, kf, fi, f, hi, hsl⟩ := hS j hj
  have hwv : okV (some w) := hv ▸ sv_ok hD.2.1 hok hj
  refine W.getf (ref := C) hx hb hown (hts _ hw) (by rw [← ho]; exact hi) (u_facts hfc hkC (u_lays hts hin hj) hi).1 q1 (by rw [q3]; exact fun h => by cases h) (v := cw G.1 w) ?_ rfl rfl hd (kk G p l0 e R s m args below meth c H locs ls hC (hD.stk (ok_c hwv (ok_t hD.sk))))
  rw [hsl, q4 j hj]
  show some (cv G.1 (sv h k r i j)) = _
  rw [hv]
  rfl
theorem mE.putf {idx k r i j : Nat} {ty : FieldType} {x : Int32} (hd : decode M.2.1 pc = .ok (.putfield idx, 3)) (F : PutF M.1.cls idx k j ty) (hI : isI k j) (hn : narrow ty (.int x) = .int x) (hf : fits ty (.int x) = true) (kk : mE M (pc + 3) l st (pI h k r i j x) Q) : mE M pc l (vI x :: vR k r i :: st) h Q := by
  intro G p l0 e R s m args below meth c H locs ls hC hD
  obtain ⟨ci, C, T, ⟨hc, hcl, hin, hnm, ty0, hty⟩, hj, hw, ho, hfin, hpd⟩ := F
  have hok : okId k r i := ok_h (ok_t hD.sk)
  have hA := hD.1 k r i hok
  rw [atK_obj hc] at hA
  obtain ⟨cell, q1, q2, q3, q4⟩ := hA
  obtain ⟨hx, hb, hr, hml, hown, hts, hlk, hroom, hK, hIn⟩ := id hC
  obtain ⟨hS, hfc, kC, hkC, hkind⟩ := hK.1 ci _ hcl
  obtain ⟨cf, kf, fi, f, hi, hsl⟩ := hS j hj
  have hap := va_apart (own := C) (D := (G.2.1, G.2.2.1)) (cl := vwCl) (tys := []) (s := s) (ci := ci) hts hin ty0 hty hnm ⟨hK.1, fun k q h => by simp at h⟩ hcl
  have hlay := hts _ (hin _ (u_in_lay hj))
  unfold u_lay at hlay
  rw [if_neg (by rw [hfin]; decide)] at hlay
  have hst := (u_facts hfc hkC (u_lays hts hin hj) hi).1
  have h6 := u_store hfc hkC hkind hlay hi hpd hn hf
  refine W.putK hx hb (f := f) (v := .int x) ⟨hown, hts _ hw, ⟨cf, kf, fi, by rw [← ho]; exact hi⟩, hst⟩ (by rw [q2]; exact h6) q1 q3 (by rw [hsl]; exact k2_hasslot (q4 j hj)) rfl rfl hd fun H2 e1 e2 e3 => ?_
  rw [hsl] at e1 ⊢
  refine kk G p l0 e R s m args below meth c H2 _ ls hC ((hD.stk (ok_t (ok_t hD.sk))).hp (Rep.put hIn hD.1 hok ?_ e3 ?_) (pI_VH hD.2.1) (hD.fr.put e2 e3 ⟨k, r, i, hok, rfl⟩))
  · rw [atK_obj hc]
    refine t_OB.to (V := updV (fun a => cv G.1 (sv h k r i a)) j (.int x)) ⟨_, e1, q2, q3, t_set q4 hap hj _⟩ (fun a ha => ?_)
    rw [sv_pI hI]
    by_cases q : a = j
    · subst q
      simp [updV, cv, cw]
    · simp [updV, q]
  · intro k2 r2 i2 s2 _ q
    rw [sv_pI hI, if_neg (fun z => q ⟨z.1, z.2.1, z.2.2.1⟩)]
/-! arrays -/
theorem mE.alen {k r i : Nat} {v : Int32} (hd : decode M.2.1 pc = .ok (.arraylength, 1)) (hc : kc k = none) (hv : Int32.ofNat (kz k) = v) (kk : mE M (pc + 1) l (vI v :: st) h Q) : mE M pc l (vR k r i :: st) h Q := by
  intro G p l0 e R s m args below meth c H locs ls hC hD
  have hok : okId k r i := ok_h hD.sk
  have hA := hD.1 k r i hok
  rw [atK_arr hc] at hA
  obtain ⟨g1, g2⟩ := ok_arr hok hc
  exact W.alen hC.1 hC.2.1 hA (hC.2.2.2.2.2.2.2.2.1.2.1 k hc g1 g2 _ _) (by rw [arrV_size]; exact hv) rfl rfl hd (kk G p l0 e R s m args below meth c H locs ls hC (hD.stk (ok_c trivial (ok_t hD.sk))))
theorem vp_lt {i : Int32} {n : Nat} (h : vp_in i n) : i.toNatClampNeg < n := Nat.not_le.mp fun q => h (Or.inr q)
theorem mE.iald {k r i : Nat} {j x : Int32} (hd : decode M.2.1 pc = .ok (.iaload, 1)) (hc : kc k = none) (ht : kt k = .int) (hin : vp_in j (kz k)) (hv : sv h k r i j.toNatClampNeg = vI x) (kk : mE M (pc + 1) l (vI x :: st) h Q) : mE M pc l (vI j :: vR k r i :: st) h Q := by
  intro G p l0 e R s m args below meth c H locs ls hC hD
  have hok : okId k r i := ok_h (ok_t hD.sk)
  have hA := hD.1 k r i hok
  rw [atK_arr hc] at hA
  obtain ⟨g1, g2⟩ := ok_arr hok hc
  have hT := hC.2.2.2.2.2.2.2.2.1.2.1 k hc g1 g2
  rw [ht] at hT
  exact W.iald hC.1 hC.2.1 hA (hT _ _) (fun q => by cases q) (by rw [arrV_size]; exact hin) (by rw [arrV_read _ _ (vp_lt hin), hv]) rfl rfl hd (kk G p l0 e R s m args below meth c H locs ls hC (hD.stk (ok_c trivial (ok_t (ok_t hD.sk)))))
theorem mE.zald {k r i : Nat} {j x : Int32} (hd : decode M.2.1 pc = .ok (.baload, 1)) (hc : kc k = none) (ht : kt k = .boolean) (hin : vp_in j (kz k)) (hv : sv h k r i j.toNatClampNeg = vI x) (kk : mE M (pc + 1) l (vI x :: st) h Q) : mE M pc l (vI j :: vR k r i :: st) h Q := by
  intro G p l0 e R s m args below meth c H locs ls hC hD
  have hok : okId k r i := ok_h (ok_t hD.sk)
  have hA := hD.1 k r i hok
  rw [atK_arr hc] at hA
  obtain ⟨g1, g2⟩ := ok_arr hok hc
  have hT := hC.2.2.2.2.2.2.2.2.1.2.1 k hc g1 g2
  rw [ht] at hT
  exact W.zald hC.1 hC.2.1 hA (hT _ _) (fun q => by cases q) (by rw [arrV_size]; exact hin) (by rw [arrV_read _ _ (vp_lt hin), hv]) rfl rfl hd (kk G p l0 e R s m args below meth c H locs ls hC (hD.stk (ok_c trivial (ok_t (ok_t hD.sk)))))
theorem mE.cald {k r i : Nat} {j x : Int32} (hd : decode M.2.1 pc = .ok (.caload, 1)) (hc : kc k = none) (ht : kt k = .char) (hin : vp_in j (kz k)) (hv : sv h k r i j.toNatClampNeg = vI x) (kk : mE M (pc + 1) l (vI x :: st) h Q) : mE M pc l (vI j :: vR k r i :: st) h Q := by
  intro G p l0 e R s m args below meth c H locs ls hC hD
  have hok : okId k r i := ok_h (ok_t hD.sk)
  have hA := hD.1 k r i hok
  rw [atK_arr hc] at hA
  obtain ⟨g1, g2⟩ := ok_arr hok hc
  have hT := hC.2.2.2.2.2.2.2.2.1.2.1 k hc g1 g2
  rw [ht] at hT
  exact W.cald hC.1 hC.2.1 hA (hT _ _) (fun q => by cases q) (by rw [arrV_size]; exact hin) (by rw [arrV_read _ _ (vp_lt hin), hv]) rfl rfl hd (kk G p l0 e R s m args below meth c H locs ls hC (hD.stk (ok_c trivial (ok_t (ok_t hD.sk)))))
theorem mE.aald {k r i : Nat} {C : String} {j : Int32} {w : mW} (hd : decode M.2.1 pc = .ok (.aaload, 1)) (hc : kc k = none) (ht : kt k = .object C) (hin : vp_in j (kz k)) (hv : sv h k r i j.toNatClampNeg = some w) (kk : mE M (pc + 1) l (some w :: st) h Q) : mE M pc l (vI j :: vR k r i :: st) h Q := by
  intro G p l0 e R s m args below meth c H locs ls hC hD
  have hok : okId k r i := ok_h (ok_t hD.sk)
  have hA := hD.1 k r i hok
  rw [atK_arr hc] at hA
  obtain ⟨g1, g2⟩ := ok_arr hok hc
  have hT := hC.2.2.2.2.2.2.2.2.1.2.1 k hc g1 g2
  rw [ht] at hT
  have hwv : okV (some w) := hv ▸ sv_ok hD.2.1 hok (vp_lt hin)
  exact W.aald (ty := .object C) hC.1 hC.2.1 hA (hT _ _) rfl (fun q => by cases q) (by rw [arrV_size]; exact hin) (by rw [arrV_read _ _ (vp_lt hin), hv]) rfl rfl hd (kk G p l0 e R s m args below meth c H locs ls hC (hD.stk (ok_c hwv (ok_t (ok_t hD.sk)))))
/-- an element of an array of numbers, written -/
theorem arr_new {G : mG} {k r i : Nat} {H2 : Heap} {j : Int32} {x : Int32} (hc : kc k = none) (hI : ∀ a, isI k a) (e1 : H2[G.1 k r i]? = some ((arrV (G.2.2.2 k) (kz k) (fun s => cv G.1 (sv h k r i s))).setSlot j.toNatClampNeg (.int x))) : atK G (pI h k r i j.toNatClampNeg x) H2 k r i := by
  rw [atK_arr hc, e1, arrV_store]
  refine congrArg some (arrV_cong (fun a ha => ?_))
  rw [sv_pI (hI _)]
  by_cases q : a = j.toNatClampNeg
  · subst q
    simp [updV, cv, cw]
  · simp [updV, q]
theorem mE.iast {k r i : Nat} {j x : Int32} (hd : decode M.2.1 pc = .ok (.iastore, 1)) (hc : kc k = none) (ht : kt k = .int) (hI : ∀ a, isI k a) (hin : vp_in j (kz k)) (kk : mE M (pc + 1) l st (pI h k r i j.toNatClampNeg x) Q) : mE M pc l (vI x :: vI j :: vR k r i :: st) h Q := by
  intro G p l0 e R s m args below meth c H locs ls hC hD
  have hok : okId k r i := ok_h (ok_t (ok_t hD.sk))
  have hA := hD.1 k r i hok
  rw [atK_arr hc] at hA
  obtain ⟨g1, g2⟩ := ok_arr hok hc
  have hT := hC.2.2.2.2.2.2.2.2.1.2.1 k hc g1 g2
  rw [ht] at hT
  refine W.iast hC.1 hC.2.1 hA (hT _ _) (fun q => by cases q) (by rw [arrV_size]; exact hin) rfl rfl hd fun H2 e1 e2 e3 => ?_
  exact kk G p l0 e R s m args below meth c H2 _ ls hC ((hD.stk (ok_t (ok_t (ok_t hD.sk)))).hp (Rep.put hC.2.2.2.2.2.2.2.2.2 hD.1 hok (arr_new hc hI e1) e3 (fun k2 r2 i2 s2 _ q => by rw [sv_pI (hI _), if_neg (fun z => q ⟨z.1, z.2.1, z.2.2.1⟩)])) (pI_VH hD.2.1) (hD.fr.put e2 e3 ⟨k, r, i, hok, rfl⟩))
theorem mE.zast {k r i : Nat} {j x : Int32} (hd : decode M.2.1 pc = .ok (.bastore, 1)) (hc : kc k = none) (ht : kt k = .boolean) (hI : ∀ a, isI k a) (hin : vp_in j (kz k)) (hn : narrow .boolean (.int x) = .int x) (kk : mE M (pc + 1) l st (pI h k r i j.toNatClampNeg x) Q) : mE M pc l (vI x :: vI j :: vR k r i :: st) h Q := by
  intro G p l0 e R s m args below meth c H locs ls hC hD
  have hok : okId k r i := ok_h (ok_t (ok_t hD.sk))
  have hA := hD.1 k r i hok
  rw [atK_arr hc] at hA
  obtain ⟨g1, g2⟩ := ok_arr hok hc
  have hT := hC.2.2.2.2.2.2.2.2.1.2.1 k hc g1 g2
  rw [ht] at hT
  refine W.zast hC.1 hC.2.1 hA (hT _ _) (fun q => by cases q) (by rw [arrV_size]; exact hin) rfl rfl hd fun H2 e1 e2 e3 => ?_
  rw [hn] at e1
  exact kk G p l0 e R s m args below meth c H2 _ ls hC ((hD.stk (ok_t (ok_t (ok_t hD.sk)))).hp (Rep.put hC.2.2.2.2.2.2.2.2.2 hD.1 hok (arr_new hc hI e1) e3 (fun k2 r2 i2 s2 _ q => by rw [sv_pI (hI _), if_neg (fun z => q ⟨z.1, z.2.1, z.2.2.1⟩)])) (pI_VH hD.2.1) (hD.fr.put e2 e3 ⟨k, r, i, hok, rfl⟩))
theorem mE.cast {k r i : Nat} {j x : Int32} (hd : decode M.2.1 pc = .ok (.castore, 1)) (hc : kc k = none) (ht : kt k = .char) (hI : ∀ a, isI k a) (hin : vp_in j (kz k)) (hn : narrow .char (.int x) = .int x) (kk : mE M (pc + 1) l st (pI h k r i j.toNatClampNeg x) Q) : mE M pc l (vI x :: vI j :: vR k r i :: st) h Q := by
  intro G p l0 e R s m args below meth c H locs ls hC hD
  have hok : okId k r i := ok_h (ok_t (ok_t hD.sk))
  have hA := hD.1 k r i hok
  rw [atK_arr hc] at hA
  obtain ⟨g1, g2⟩ := ok_arr hok hc
  have hT := hC.2.2.2.2.2.2.2.2.1.2.1 k hc g1 g2
  rw [ht] at hT
  refine W.cast hC.1 hC.2.1 hA (hT _ _) (fun q => by cases q) (by rw [arrV_size]; exact hin) rfl rfl hd fun H2 e1 e2 e3 => ?_
  rw [hn] at e1
  exact kk G p l0 e R s m args below meth c H2 _ ls hC ((hD.stk (ok_t (ok_t (ok_t hD.sk)))).hp (Rep.put hC.2.2.2.2.2.2.2.2.2 hD.1 hok (arr_new hc hI e1) e3 (fun k2 r2 i2 s2 _ q => by rw [sv_pI (hI _), if_neg (fun z => q ⟨z.1, z.2.1, z.2.2.1⟩)])) (pI_VH hD.2.1) (hD.fr.put e2 e3 ⟨k, r, i, hok, rfl⟩))
/-- a car among the movers -/
theorem mE.aast {r r2 i2 : Nat} {j : Int32} (hd : decode M.2.1 pc = .ok (.aastore, 1)) (hin : vp_in j 40) (kk : mE M (pc + 1) l st (pM h r j.toNatClampNeg (some (r2, i2))) Q) : mE M pc l (vR 5 r2 i2 :: vI j :: vR 4 r 0 :: st) h Q := by
  intro G p l0 e R s m args below meth c H locs ls hC hD
  have hok : okId 4 r 0 := ok_h (ok_t (ok_t hD.sk))
  have hokc : okId 5 r2 i2 := ok_h hD.sk
  have hA := hD.1 4 r 0 hok
  rw [atK_arr rfl] at hA
  have hB := hD.1 5 r2 i2 hokc
  rw [atK_obj rfl] at hB
  obtain ⟨cellV, g1, g2, g3, -⟩ := hB
  have hK := hC.2.2.2.2.2.2.2.2.1
  have hcls := (hK.1 0 (RX0, TX0, 11) rfl).2
  obtain ⟨kA, comp, k1, k2, k3, -⟩ := hK.2.2.1
  have hcomp : comp = G.2.1 0 := Option.some.inj (k3.symm.trans hcls.1)
  subst hcomp
  obtain ⟨kC, hkC, -⟩ := hcls.2
  refine W.aast hC.1 hC.2.1 hA (fun q h => by cases h) (fun h => by cases h) k1 k2 rfl hkC ⟨fun q => hin (Or.inl q), by rw [arrV_size]; exact vp_lt hin⟩ g1 (fun q h => by rw [g3] at h; cases h) (by rw [g2]; exact hkC) (by rw [g2]; exact va_assign hcls) rfl rfl hd fun H2 e1 e2 e3 => ?_
  refine kk G p l0 e R s m args below meth c H2 _ ls hC ((hD.stk (ok_t (ok_t (ok_t hD.sk)))).hp (Rep.put hC.2.2.2.2.2.2.2.2.2 hD.1 hok ?_ e3 (fun k2 r2 i2 s2 ho q => sv_pM _ _ _ _ (fun z => ?_))) (pM_VH hD.2.1 (fun p hp => by cases hp; exact hokc)) (hD.fr.put e2 e3 ⟨4, r, 0, hok, rfl⟩))
  · rw [atK_arr rfl, e1, arrV_store]
    refine congrArg some (arrV_cong (fun a ha => ?_))
    by_cases q : a = j.toNatClampNeg
    · subst q
      simp [updV, cv, cw, sv, pM]
    · simp [updV, q, sv, pM]
  · obtain ⟨rfl, rfl, -⟩ := z
    exact q ⟨rfl, rfl, ho.2⟩
end HEAP
end
section
/-! answers -/
section RET
variable {M : mM} {pc : Nat} {l st : List mV} {h : mH} {Q : mV → mH → Prop}
theorem mE.iret {x : Int32} {ty : FieldType} (hd : decode M.2.1 pc = .ok (.ireturn, 1)) (hr : M.2.2.2.1 = some ty) (hn : narrow ty (.int x) = .int x) (hq : Q (vI x) h) : mE M pc l [vI x] h Q := by
  intro G p l0 e R s m args below meth c H locs ls hC hD
  exact W.zret hC.1 hC.2.1 (hC.2.2.1.trans hr) hn (fun t ht hW => ⟨⟨vI x, h, rfl, hq, by rw [ht]; exact hD.1, hD.2.1, trivial⟩, hD.fr.F ht⟩) hD.fr.2.2 hd hC.2.2.2.2.2.2.1
theorem mE.vret (hd : decode M.2.1 pc = .ok (.return_, 1)) (hr : M.2.2.2.1 = none) (hq : Q vU h) : mE M pc l [] h Q := by
  intro G p l0 e R s m args below meth c H locs ls hC hD
  exact W.vret hC.1 hC.2.1 (hC.2.2.1.trans hr) (fun t ht hW => ⟨⟨vU, h, rfl, hq, by rw [ht]; exact hD.1, hD.2.1, trivial⟩, hD.fr.F ht⟩) hD.fr.2.2 hd hC.2.2.2.2.2.2.1
theorem mE.aret {C : String} {o : Option (Nat × Nat × Nat)} (hd : decode M.2.1 pc = .ok (.areturn, 1)) (hr : M.2.2.2.1 = some (.object C)) (hq : Q (some (.inr (.inr o))) h) : mE M pc l [some (.inr (.inr o))] h Q := by
  intro G p l0 e R s m args below meth c H locs ls hC hD
  have hv : cw G.1 (.inr (.inr o)) = .null ∨ ∃ a, cw G.1 (.inr (.inr o)) = .ref a := by
    rcases o with _ | ⟨k, r, i⟩
    · exact Or.inl rfl
    · exact Or.inr ⟨_, rfl⟩
  exact W.aret (v := cw G.1 (.inr (.inr o))) hC.1 hC.2.1 (hC.2.2.1.trans hr) (Or.inl ⟨C, rfl⟩) hv (fun t ht hW => ⟨⟨some (.inr (.inr o)), h, rfl, hq, by rw [ht]; exact hD.1, hD.2.1, ok_h hD.sk⟩, hD.fr.F ht⟩) hD.fr.2.2 hd hC.2.2.2.2.2.2.1
end RET
/-! a method from its entry: the contract -/
def ent : List mW → List mV
  | [] => []
  | .inr (.inl x) :: t => some (.inr (.inl x)) :: none :: ent t
  | v :: t => some v :: ent t
def l0M (M : mM) (as : List mW) : List mV := ent as ++ List.replicate (M.2.2.1 - (ent as).length) none
def wsM (M : mM) : List Jvm.Cond := Jvm.Cond.code M.1 M.2.1 M.2.2.1 M.2.2.2.1 :: TB
def rmM (M : mM) : Room := { frames := M.2.2.2.2.1, cells := 0, slots := 0, locals := M.2.2.2.2.2 }
def CalM (M : mM) (n : Nat) : Prop := plainName M.1.cls = true ∧ Jvm.Cond.code M.1 M.2.1 M.2.2.1 M.2.2.2.1 ∈ TB ∧ Jvm.Cond.initialized M.1.cls ∈ TB ∧ (M.1.cls ≠ "java/lang/invoke/MethodHandle" ∧ M.1.cls ≠ "java/lang/invoke/VarHandle") ∧ (parseMethodDescriptor M.1.desc).map (fun d => d.parameters.length) = some n
theorem ent_some {x : Int32} {t : List mW} : ent (.inl x :: t) = some (.inl x) :: ent t := rfl
theorem cat_long {ad : mAd} (x : Int64) : (cw ad (.inr (.inl x))).category = 2 := rfl
theorem cat_int {ad : mAd} (x : Int32) : (cw ad (.inl x)).category = 1 := rfl
theorem cat_ref {ad : mAd} (o : Option (Nat × Nat × Nat)) : (cw ad (.inr (.inr o))).category = 1 := by
  rcases o with _ | ⟨k, r, i⟩ <;> rfl
theorem ent_len {ad : mAd} : ∀ as : List mW, (lg_sl (as.map (cw ad))).length = (ent as).length
  | [] => rfl
  | .inl x :: t => by
    have := ent_len (ad := ad) t
    simp only [lg_sl, List.map_cons, List.flatMap_cons, cat_int, ent, List.length_append, List.length_cons] at this ⊢
    simp [this]; omega
  | .inr (.inl x) :: t => by
    have := ent_len (ad := ad) t
    simp only [lg_sl, List.map_cons, List.flatMap_cons, cat_long, ent, List.length_append, List.length_cons] at this ⊢
    simp [this]; omega
  | .inr (.inr o) :: t => by
    have := ent_len (ad := ad) t
    simp only [lg_sl, List.map_cons, List.flatMap_cons, cat_ref, ent, List.length_append, List.length_cons] at this ⊢
    simp [this]; omega
theorem prs_rep {ad : mAd} : ∀ (n k : Nat), prs ad k (List.replicate n none) = []
  | 0, _ => rfl
  | n + 1, k => by
    rw [List.replicate_succ]
    exact prs_rep n (k + 1)
theorem ent_prs {ad : mAd} (n : Nat) : ∀ (as : List mW) (k : Nat), prs ad k (ent as ++ List.replicate n none) = lv_args k (as.map (cw ad))
  | [], k => prs_rep n k
  | .inl x :: t, k => by
    simp only [ent, List.cons_append, prs, List.map_cons, lv_args, cat_int]
    rw [ent_prs n t (k + 1)]; rfl
  | .inr (.inl x) :: t, k => by
    simp only [ent, List.cons_append, prs, List.map_cons, lv_args, cat_long]
    rw [ent_prs n t (k + 1 + 1)]; rfl
  | .inr (.inr o) :: t, k => by
    simp only [ent, List.cons_append, prs, List.map_cons, lv_args, cat_ref]
    rw [ent_prs n t (k + 1)]; rfl
theorem ent_ok {as : List mW} (h : ∀ v ∈ as, okW v) : ∀ v ∈ ent as, okV v := by
  induction as with
  | nil => intro v hv; cases hv
  | cons a t ih =>
    have h2 := ih (fun v hv => h v (List.mem_cons_of_mem _ hv))
    have h1 := h a List.mem_cons_self
    rcases a with x | x | x
    · exact ok_c (a := some (.inl x)) h1 h2
    · exact ok_c (a := some (.inr (.inl x))) trivial (ok_c (a := none) trivial h2)
    · exact ok_c (a := some (.inr (.inr x))) h1 h2
def mPc (G : mG) (as : List mW) (h : mH) : Array Value → State → Prop := va_Pc (as.map (cw G.1)) (fun U => Rep G h U.heap ∧ VH h ∧ (∀ v ∈ as, okW v) ∧ Kn G U)
theorem mE.met {M : mM} {n : Nat} {as : List mW} {h : mH} {Q : mV → mH → Prop} (C : CalM M n) (hlen : (ent as).length ≤ M.2.2.1) (E : mE M 0 (l0M M as) [] h Q) (l : Launch) {G : mG} (hG : InjG G) : Met l M.1 (wsM M) (rmM M) (mPc G as h) (Qm G Q) 0 0 (GA G) := by
  refine Met.ofW (cc := M.2.1) (maxL := M.2.2.1) (ret := M.2.2.2.1) C.1 rfl ?_
  intro p e s m args below meth c s₁ B hml hv
  obtain ⟨rfl, hR, hV, ha, hK⟩ := hv
  have hts := atoms_spec (ws := wsM M) B.pre
  have hown : s.vm.findClass M.1.cls = some m.cls := findClass_of_methodNamed B.named
  rw [lg_entry_eq]
  refine E G p l e _ s m _ below meth c s.heap [] _ ⟨B.exec, B.bytes, B.returns, hml, hown, fun w hw => hts w (List.mem_cons_of_mem _ hw), B.notSynchronized, ⟨Nat.le_refl _, Nat.le_refl _⟩, hK, hG⟩ ⟨hR, hV, ?_, (fun v hv => by cases hv), ⟨?_, ?_⟩, va_S.rf⟩
  · intro v hv
    rcases List.mem_append.mp hv with h1 | h1
    · exact ent_ok ha v h1
    · rw [List.eq_of_mem_replicate h1]; trivial
  · have := lv_entry (as.map (cw G.1)) (n := M.2.2.1) (by rw [ent_len]; exact hlen)
    rw [l0M, ent_prs]
    exact this
  · simp only [l0M, List.length_append, List.length_replicate]; omega
/-! calls -/
theorem good_ws {M : mM} (h : Jvm.Cond.code M.1 M.2.1 M.2.2.1 M.2.2.2.1 ∈ TB) : GoodIn TB (wsM M) := tb_good (fun w hw => (List.mem_cons.mp hw).elim (fun e => e ▸ h) id)
def VirM (M : mM) : Prop := Jvm.Cond.instanceMethod M.1 ∈ TB ∧ Jvm.Cond.selects M.1.cls M.1 M.1 ∈ TB
def RooM (M M2 : mM) : Prop := M2.2.2.2.2.1 + 1 ≤ M.2.2.2.2.1 ∧ 8 + (M2.2.2.1 + 11) + M2.2.2.2.2.2 ≤ M.2.2.2.2.2
/-- a virtual call at index idx of M's pool: M2, on a cell of kind k -/
def CfV (M M2 : mM) (idx n k : Nat) : Prop := CalM M2 n ∧ VirM M2 ∧ Jvm.Cond.methodLink M.1.cls idx M2.1 ∈ TB ∧ RooM M M2 ∧ ∃ (ci : Nat) (T : u_T), kc k = some ci ∧ vwCl[ci]? = some (M2.1.cls, T, kz k)
def CfS (M M2 : mM) (idx n : Nat) : Prop := CalM M2 n ∧ Jvm.Cond.static M2.1 ∈ TB ∧ Jvm.Cond.methodLink M.1.cls idx M2.1 ∈ TB ∧ RooM M M2
def CfN (M M2 : mM) (idx n : Nat) (host : String) : Prop := CalM M2 n ∧ Jvm.Cond.static M2.1 ∈ TB ∧ Jvm.Cond.methodLinkNest M.1.cls idx M2.1 host ∈ NW ∧ RooM M M2
def push (v : mV) (st : List mV) : List mV := match v with
  | none => st
  | some w => some w :: st
theorem push_map {ad : mAd} (v : mV) (st : List mV) : (push v st).map (cv ad) = (v.map (cw ad)).toList ++ st.map (cv ad) := by
  cases v <;> rfl
theorem push_ok {v : mV} {st : List mV} (hv : okV v) (h : ∀ u ∈ st, okV u) : ∀ u ∈ push v st, okV u := by
  cases v with
  | none => exact h
  | some w => exact ok_c hv h
theorem Kn.moved {G : mG} {s U : State} (hW : s.WarmedH U.vm) (h : Kn G s) : Kn G U := by
  refine ⟨fun ci q hq => u_Kn_moved hW.alike (h.1 ci q hq), fun k h1 h2 h3 => arrOfT_moved hW.alike (h.2.1 k h1 h2 h3), h.2.2.1.moved hW.alike, fun w hw => ?_⟩
  have h4 := h.2.2.2 w hw
  simp only [NW, List.mem_cons, List.not_mem_nil, or_false] at hw
  rcases hw with rfl | rfl | rfl | rfl <;> exact va_Nw.warmM hW h4
theorem Kn.same {G : mG} {s U : State} (hvm : s.vm = U.vm) (h : Kn G s) : Kn G U := by
  have hA : s.vm.Alike U.vm := hvm ▸ Vm.Alike.refl s.vm
  refine ⟨fun ci q hq => u_Kn_moved hA (h.1 ci q hq), fun k h1 h2 h3 => arrOfT_moved hA (h.2.1 k h1 h2 h3), h.2.2.1.moved hA, fun w hw => ?_⟩
  have h4 := h.2.2.2 w hw
  simp only [NW, List.mem_cons, List.not_mem_nil, or_false] at hw
  rcases hw with rfl | rfl | rfl | rfl <;> exact va_Nw.same rfl hvm h4
theorem mPc_blind {G : mG} {as : List mW} {h : mH} : FrameBlind (mPc G as h) := by
  intro a U g mk q
  obtain ⟨q0, q1, q2, q3, q4⟩ := q
  exact ⟨q0, q1, q2, q3, Kn.same (s := U) (U := U.calling g mk a) rfl q4⟩
section CALL
variable {M M2 : mM} {pc idx n : Nat} {l st st0 : List mV} {h : mH} {Q K : mV → mH → Prop}
theorem mE.back {G : mG} {p : Program} {l0 : Launch} {e : Env} {R : Room} {s : State} {m : MethodId} {args : Array Value} {below : List Frame} {meth : Method} {c : Code} {H : Heap} {locs : List Loc} {ls : Array Slot} {a : Array Value}
    (hC : Cx M G p R s m args meth c) (hD : Dx M G s l st h H locs ls) (kk : ∀ v h1, K v h1 → mE M (pc + 3) l (push v st) h1 Q)
    (hr : va_Run p l0 e R s m args below meth c H locs 0 0 0 0 (F0 m pc ls (st0.map (cv G.1))) (st.map (cv G.1)) (Qm G K a) (GA G)) :
    W p l0 e R s m args below meth c H locs 0 0 (MQ below (Qm G Q) args s 0 0 (GA G)) (F0 m pc ls (st0.map (cv G.1))) := by
  intro T hT X
  obtain ⟨v, st₀, t, T2, L, h0, X2, hL, e1, e2, ⟨⟨v2, h1, hv, hq, hR1, hV1, hok⟩, hz, hk⟩, stp⟩ := hr T hT X
  have hv := Outcome.returned.inj hv
  subst hv
  rw [h0] at hz hk
  have hS := hD.fr
  have hS1 : va_S (GA G) s.heap T2.heap (locs ++ L) := ⟨Nat.le_trans hS.1 (by rw [e1]; exact hz), fun q h1 h2 => by rw [e1, hk q (Nat.lt_of_lt_of_le h1 hS.1) h2]; exact hS.2.1 q h1 h2, fun q hq => by
      rcases List.mem_append.mp hq with h | h
      · exact hS.2.2 q h
      · exact hL q h⟩
  have key := kk v2 h1 hq G p l0 e R s m args below meth c T2.heap (locs ++ L) ls hC ((hD.stk (push_ok hok hD.sk)).hp (by rw [e1]; exact hR1) hV1 hS1) T2 rfl X2
  obtain ⟨t2, a1, b1⟩ := key
  refine ⟨t2, stp t2 ?_, b1⟩
  rw [push_map] at a1
  exact a1
theorem mE.callV {as : List mW} {k r i : Nat} (hd : decode M.2.1 pc = .ok (.invokevirtual idx, 3)) (F : CfV M M2 idx n k) (hn : as.length = n) (hst : (as.map some).reverse ++ vR k r i :: st = st0) (hlen : (ent (.inr (.inr (some (k, r, i))) :: as)).length ≤ M2.2.2.1) (hroom : ∀ ad, ((st.map (cv ad)).map fun v => v.category).sum ≤ 8)
    (ev : mE M2 0 (l0M M2 (.inr (.inr (some (k, r, i))) :: as)) [] h K) (kk : ∀ v h1, K v h1 → mE M (pc + 3) l (push v st) h1 Q) : mE M pc l st0 h Q := by
  intro G p l0 e R s m args below meth c H locs ls hC hD
  subst hst
  obtain ⟨F1, F2, F3, F4, ci, T, F5, F6⟩ := F
  obtain ⟨hx, hb, hr, hml, hown, hts, hlk, hro, hK, hI⟩ := id hC
  have hsk := hD.sk
  have hokr : okId k r i := hsk (vR k r i) (List.mem_append_right _ List.mem_cons_self)
  have hst2 : ∀ v ∈ st, okV v := fun v hv => hsk v (List.mem_append_right _ (List.mem_cons_of_mem _ hv))
  have has : ∀ v ∈ (.inr (.inr (some (k, r, i))) :: as : List mW), okW v := by
    intro v hv
    rcases List.mem_cons.mp hv with rfl | hv
    · exact hokr
    · exact hsk (some v) (List.mem_append_left _ (List.mem_reverse.mpr (List.mem_map_of_mem hv)))
  have hA := hD.1 k r i hokr
  rw [atK_obj F5] at hA
  obtain ⟨cell, q1, q2, q3, -⟩ := hA
  have hM := ev.met F1 hlen l0 hI
  refine mE.back hC (hD.stk hst2) kk (va_runV (As := as.map (cw G.1)) (b := G.1 k r i) (C := M2.1.cls) (Ts := TB) (bytes := M2.2.1) (maxL := M2.2.2.1) (ret := M2.2.2.2.1) ⟨hx, hb, hml, hown, hts⟩ hM ?_ ?_ rfl ((List.length_map _).trans hn) hD.lh.1 ?_ (lv_room (hroom _)) hd ⟨Nat.zero_le _, Nat.zero_le _⟩)
  · refine ⟨⟨rfl, rfl, Nat.le_trans F4.1 hro.1, Nat.le_trans F4.2 hro.2, pay_in hts (good_ws F1.2.1), List.mem_cons_self, hts _ F1.2.1, hts _ F1.2.2.1, F1.2.2.2.1, fun sig h => ?_, hts _ F3⟩, hts _ F2.1, hts _ F2.2⟩
    · have h2 := F1.2.2.2.2
      rw [h] at h2
      exact (Option.some.inj h2).symm
  · refine ⟨mPc_blind, ⟨cell, q1, by rw [q3]; rfl, by rw [q2]; exact (hK.1 ci _ F6).2.1⟩, fun U hU hW => ⟨rfl, by rw [hU]; exact hD.1, hD.2.1, has, hK.moved hW⟩⟩
  · show List.map _ _ = _
    rw [List.map_append, List.map_reverse, List.map_map]
    rfl
theorem mE.callS {as : List mW} (hd : decode M.2.1 pc = .ok (.invokestatic idx, 3)) (F : CfS M M2 idx n) (hn : as.length = n) (hst : (as.map some).reverse ++ st = st0) (hlen : (ent as).length ≤ M2.2.2.1) (hroom : ∀ ad, ((st.map (cv ad)).map fun v => v.category).sum ≤ 8)
    (ev : mE M2 0 (l0M M2 as) [] h K) (kk : ∀ v h1, K v h1 → mE M (pc + 3) l (push v st) h1 Q) : mE M pc l st0 h Q := by
  intro G p l0 e R s m args below meth c H locs ls hC hD
  subst hst
  obtain ⟨F1, F2, F3, F4⟩ := F
  obtain ⟨hx, hb, hr, hml, hown, hts, hlk, hro, hK, hI⟩ := id hC
  have hsk := hD.sk
  have hst2 : ∀ v ∈ st, okV v := fun v hv => hsk v (List.mem_append_right _ hv)
  have has : ∀ v ∈ as, okW v := fun v hv => hsk (some v) (List.mem_append_left _ (List.mem_reverse.mpr (List.mem_map_of_mem hv)))
  have hM := ev.met F1 hlen l0 hI
  refine mE.back hC (hD.stk hst2) kk (va_runS (As := as.map (cw G.1)) (Ts := TB) (bytes := M2.2.1) (maxL := M2.2.2.1) (ret := M2.2.2.2.1) ⟨hx, hb, hml, hown, hts⟩ hM ?_ ?_ rfl ((List.length_map _).trans hn) hD.lh.1 ?_ (lv_room (hroom _)) hd ⟨Nat.zero_le _, Nat.zero_le _⟩)
  · refine ⟨⟨rfl, rfl, Nat.le_trans F4.1 hro.1, Nat.le_trans F4.2 hro.2, pay_in hts (good_ws F1.2.1), List.mem_cons_self, hts _ F1.2.1, hts _ F1.2.2.1, F1.2.2.2.1, fun sig h => ?_, hts _ F3⟩, hts _ F2⟩
    · have h2 := F1.2.2.2.2
      rw [h] at h2
      exact (Option.some.inj h2).symm
  · exact ⟨mPc_blind, fun U hU hW => ⟨rfl, by rw [hU]; exact hD.1, hD.2.1, has, hK.moved hW⟩⟩
  · show List.map _ _ = _
    rw [List.map_append, List.map_reverse, List.map_map]
    rfl
theorem mE.callN {as : List mW} {host : String} (hd : decode M.2.1 pc = .ok (.invokestatic idx, 3)) (F : CfN M M2 idx n host) (hn : as.length = n) (hst : (as.map some).reverse ++ st = st0) (hlen : (ent as).length ≤ M2.2.2.1) (hroom : ∀ ad, ((st.map (cv ad)).map fun v => v.category).sum ≤ 8)
    (ev : mE M2 0 (l0M M2 as) [] h K) (kk : ∀ v h1, K v h1 → mE M (pc + 3) l (push v st) h1 Q) : mE M pc l st0 h Q := by
  intro G p l0 e R s m args below meth c H locs ls hC hD
  subst hst
  obtain ⟨F1, F2, F3, F4⟩ := F
  obtain ⟨hx, hb, hr, hml, hown, hts, hlk, hro, hK, hI⟩ := id hC
  have hsk := hD.sk
  have hst2 : ∀ v ∈ st, okV v := fun v hv => hsk v (List.mem_append_right _ hv)
  have has : ∀ v ∈ as, okW v := fun v hv => hsk (some v) (List.mem_append_left _ (List.mem_reverse.mpr (List.mem_map_of_mem hv)))
  have hM := ev.met F1 hlen l0 hI
  have hnl : (Jvm.Cond.methodLinkNest M.1.cls idx M2.1 host).before args s = true := va_Nw.use rfl (hK.2.2.2 _ F3)
  refine mE.back hC (hD.stk hst2) kk (va_runSN (As := as.map (cw G.1)) (Ts := TB) (bytes := M2.2.1) (maxL := M2.2.2.1) (ret := M2.2.2.2.1) (host := host) ⟨hx, hb, hml, hown, hts⟩ hM ?_ ?_ rfl ((List.length_map _).trans hn) hD.lh.1 ?_ (lv_room (hroom _)) hd ⟨Nat.zero_le _, Nat.zero_le _⟩)
  · refine ⟨⟨⟨rfl, rfl, Nat.le_trans F4.1 hro.1, Nat.le_trans F4.2 hro.2, pay_in hts (good_ws F1.2.1), List.mem_cons_self⟩, hts _ F1.2.1, hts _ F1.2.2.1, F1.2.2.2.1, fun sig h => ?_, hnl⟩, hts _ F2, trivial⟩
    · have h2 := F1.2.2.2.2
      rw [h] at h2
      exact (Option.some.inj h2).symm
  · exact ⟨mPc_blind, fun U hU hW => ⟨rfl, by rw [hU]; exact hD.1, hD.2.1, has, hK.moved hW⟩⟩
  · show List.map _ _ = _
    rw [List.map_append, List.map_reverse, List.map_map]
    rfl
end CALL
/-! what is asked of a call's answer -/
def kI (F : Int32 → mH → Prop) : mV → mH → Prop := fun v h => match v with
  | some (.inl x) => F x h
  | _ => False
def kV (F : mH → Prop) : mV → mH → Prop := fun v h => match v with
  | none => F h
  | _ => False
def kR5 (A : mH → Prop) (B : Nat → Nat → mH → Prop) : mV → mH → Prop := fun v h => match v with
  | some (.inr (.inr none)) => A h
  | some (.inr (.inr (some (5, r, i)))) => B r i h
  | _ => False
def kR6 (A : mH → Prop) (B : Nat → Nat → mH → Prop) : mV → mH → Prop := fun v h => match v with
  | some (.inr (.inr none)) => A h
  | some (.inr (.inr (some (6, r, i)))) => B r i h
  | _ => False
def kR0 (A : mH → Prop) (B : Nat → Nat → mH → Prop) : mV → mH → Prop := fun v h => match v with
  | some (.inr (.inr none)) => A h
  | some (.inr (.inr (some (0, r, i)))) => B r i h
  | _ => False
section KQ
variable {M : mM} {pc : Nat} {l st : List mV} {Q : mV → mH → Prop}
theorem kI_on {F : Int32 → mH → Prop} (kk : ∀ x h1, F x h1 → mE M pc l (vI x :: st) h1 Q) : ∀ v h1, kI F v h1 → mE M pc l (push v st) h1 Q := by
  intro v h1 hv
  unfold kI at hv
  split at hv
  · exact kk _ _ hv
  · exact hv.elim
theorem kV_on {F : mH → Prop} (kk : ∀ h1, F h1 → mE M pc l st h1 Q) : ∀ v h1, kV F v h1 → mE M pc l (push v st) h1 Q := by
  intro v h1 hv
  unfold kV at hv
  split at hv
  · exact kk _ hv
  · exact hv.elim
theorem kR5_on {A : mH → Prop} {B : Nat → Nat → mH → Prop} (ka : ∀ h1, A h1 → mE M pc l (vN :: st) h1 Q) (kb : ∀ r i h1, B r i h1 → mE M pc l (vR 5 r i :: st) h1 Q) : ∀ v h1, kR5 A B v h1 → mE M pc l (push v st) h1 Q := by
  intro v h1 hv
  unfold kR5 at hv
  split at hv
  · exact ka _ hv
  · exact kb _ _ _ hv
  · exact hv.elim
theorem kR6_on {A : mH → Prop} {B : Nat → Nat → mH → Prop} (ka : ∀ h1, A h1 → mE M pc l (vN :: st) h1 Q) (kb : ∀ r i h1, B r i h1 → mE M pc l (vR 6 r i :: st) h1 Q) : ∀ v h1, kR6 A B v h1 → mE M pc l (push v st) h1 Q := by
  intro v h1 hv
  unfold kR6 at hv
  split at hv
  · exact ka _ hv
  · exact kb _ _ _ hv
  · exact hv.elim
theorem kR0_on {A : mH → Prop} {B : Nat → Nat → mH → Prop} (ka : ∀ h1, A h1 → mE M pc l (vN :: st) h1 Q) (kb : ∀ r i h1, B r i h1 → mE M pc l (vR 0 r i :: st) h1 Q) : ∀ v h1, kR0 A B v h1 → mE M pc l (push v st) h1 Q := by
  intro v h1 hv
  unfold kR0 at hv
  split at hv
  · exact ka _ hv
  · exact kb _ _ _ hv
  · exact hv.elim
end KQ
/-! switches, Math -/
section SW
variable {M : mM} {pc : Nat} {l st : List mV} {h : mH} {Q : mV → mH → Prop}
/-- x is the a-th of the table -/
theorem mE.tabIn {dflt lo hi : Int} {offs : Array Int} {len tgt : Nat} {x : Int32} {v off : Int} (hd : decode M.2.1 pc = .ok (.tableswitch dflt lo hi offs, len)) (hx : x.toInt = v) (h1 : ¬ v < lo) (h2 : ¬ hi < v) (ho : offs[(v - lo).toNat]? = some off) (ht : (pc : Int) + off = (tgt : Int)) (k : mE M tgt l st h Q) : mE M pc l (vI x :: st) h Q := by
  intro G p l0 e R s m args below meth c H locs ls hC hD
  subst hx
  exact lv_tableIn hC.1 hC.2.1 hd h1 h2 ho ht (k G p l0 e R s m args below meth c H locs ls hC (hD.stk (ok_t hD.sk)))
theorem mE.tabOut {dflt lo hi : Int} {offs : Array Int} {len tgt : Nat} {x : Int32} (hd : decode M.2.1 pc = .ok (.tableswitch dflt lo hi offs, len)) (hx : x.toInt < lo ∨ hi < x.toInt) (ht : (pc : Int) + dflt = (tgt : Int)) (k : mE M tgt l st h Q) : mE M pc l (vI x :: st) h Q := by
  intro G p l0 e R s m args below meth c H locs ls hC hD
  exact lv_tableOut hC.1 hC.2.1 hd hx ht (k G p l0 e R s m args below meth c H locs ls hC (hD.stk (ok_t hD.sk)))
theorem mE.look {dflt : Int} {ps : Array (Int × Int)} {len tgt : Nat} {x : Int32} {off : Int} (hd : decode M.2.1 pc = .ok (.lookupswitch dflt ps, len)) (hp : (ps.toList.zip (ps.toList.drop 1)).all (fun (a, next) => a.1 < next.1) = true) (ho : Op.lookupswitch.offset ps.toList dflt x.toInt = off) (ht : (pc : Int) + off = (tgt : Int)) (k : mE M tgt l st h Q) : mE M pc l (vI x :: st) h Q := by
  intro G p l0 e R s m args below meth c H locs ls hC hD
  exact lv_lookup hC.1 hC.2.1 hd hp ho ht (k G p l0 e R s m args below meth c H locs ls hC (hD.stk (ok_t hD.sk)))
theorem mE.mmin {idx : Nat} {x y : Int32} (hd : decode M.2.1 pc = .ok (.invokestatic idx, 3)) (h1 : Jvm.Cond.methodLink M.1.cls idx Lib.Math.min.name ∈ TB) (h2 : Jvm.Cond.static Lib.Math.min.name ∈ TB) (h3 : Jvm.Cond.initialized "java/lang/Math" ∈ TB) (h4 : Jvm.Cond.code Lib.Math.min.name Lib.Math.min.code 2 (some .int) ∈ TB) (hro : 1 ≤ M.2.2.2.2.1 ∧ 21 ≤ M.2.2.2.2.2) (hroom : ∀ ad, ((st.map (cv ad)).map fun v => v.category).sum ≤ 8) (kk : mE M (pc + 3) l (vI (if y < x then y else x) :: st) h Q) : mE M pc l (vI y :: vI x :: st) h Q := by
  intro G p l0 e R s m args below meth c H locs ls hC hD
  have hts := hC.2.2.2.2.2.1
  have hr2 := hC.2.2.2.2.2.2.2.1
  have hq := hroom G.1
  exact va_mmin hC.1 hC.2.1 (hC.2.2.2.1.trans hD.lh.1.symm) hC.2.2.2.2.1 (hts _ h1) (hts _ h2) (hts _ h3) (hts _ h4) (Nat.le_trans hro.1 hr2.1) (by have := Nat.le_trans hro.2 hr2.2; omega) (Nat.zero_le _) (Nat.zero_le _) hd (kk G p l0 e R s m args below meth c H locs ls hC (hD.stk (ok_c trivial (ok_t (ok_t hD.sk)))))
theorem mE.mabs {idx : Nat} {x : Int32} (hd : decode M.2.1 pc = .ok (.invokestatic idx, 3)) (h1 : Jvm.Cond.methodLink M.1.cls idx Lib.Math.abs.name ∈ TB) (h2 : Jvm.Cond.static Lib.Math.abs.name ∈ TB) (h3 : Jvm.Cond.initialized "java/lang/Math" ∈ TB) (h4 : Jvm.Cond.code Lib.Math.abs.name Lib.Math.abs.code 1 (some .int) ∈ TB) (hro : 1 ≤ M.2.2.2.2.1 ∧ 21 ≤ M.2.2.2.2.2) (hroom : ∀ ad, ((st.map (cv ad)).map fun v => v.category).sum ≤ 8) (kk : mE M (pc + 3) l (vI (if 0 ≤ x then x else 0 - x) :: st) h Q) : mE M pc l (vI x :: st) h Q := by
  intro G p l0 e R s m args below meth c H locs ls hC hD
  have hts := hC.2.2.2.2.2.1
  have hr2 := hC.2.2.2.2.2.2.2.1
  have hq := hroom G.1
  exact va_mabs hC.1 hC.2.1 (hC.2.2.2.1.trans hD.lh.1.symm) hC.2.2.2.2.1 (hts _ h1) (hts _ h2) (hts _ h3) (hts _ h4) (Nat.le_trans hro.1 hr2.1) (by have := Nat.le_trans hro.2 hr2.2; omega) (Nat.zero_le _) (Nat.zero_le _) hd (kk G p l0 e R s m args below meth c H locs ls hC (hD.stk (ok_c trivial (ok_t hD.sk))))
end SW
end
section
/-! written by wip/gen/mmgen.py -/
def mC (M : mM) (as : List mW) (h : mH) (Q : mV → mH → Prop) : Prop := mE M 0 (l0M M as) [] h Q
theorem sv_mvN {h : mH} {r i s : Nat} (e : h.2 r s = none) : sv h 4 r i s = vN := by
  show (match h.2 r s with
    | none => vN
    | some (r2, c) => vR 5 r2 c) = _
  rw [e]
theorem sv_mvS {h : mH} {r i s r2 c : Nat} (e : h.2 r s = some (r2, c)) : sv h 4 r i s = vR 5 r2 c := by
  show (match h.2 r s with
    | none => vN
    | some (r2, c) => vR 5 r2 c) = _
  rw [e]
theorem nar_b {x : Int32} (h : x = 0 ∨ x = 1) : narrow .boolean (.int x) = .int x := by
  rcases h with rfl | rfl <;> rfl
theorem fit_b {x : Int32} (h : x = 0 ∨ x = 1) : fits .boolean (.int x) = true := by
  rcases h with rfl | rfl <;> rfl
theorem sw_2 {x k1 k2 : Int32} {a1 a2 o1 o2 d : Int} (h1 : ¬ x = k1) (h2 : ¬ x = k2) (e1 : k1.toInt = a1) (e2 : k2.toInt = a2) : Op.lookupswitch.offset [(a1, o1), (a2, o2)] d x.toInt = d := by
  rw [lv_osw h1 e1, lv_osw h2 e2]; rfl
theorem sw_3 {x k1 k2 k3 : Int32} {a1 a2 a3 o1 o2 o3 d : Int} (h1 : ¬ x = k1) (h2 : ¬ x = k2) (h3 : ¬ x = k3) (e1 : k1.toInt = a1) (e2 : k2.toInt = a2) (e3 : k3.toInt = a3) : Op.lookupswitch.offset [(a1, o1), (a2, o2), (a3, o3)] d x.toInt = d := by
  rw [lv_osw h1 e1, lv_osw h2 e2, lv_osw h3 e3]; rfl
def M0_arrive : mM := (yX0_arrive, cX0_arrive, 5, none, 0, 0)
theorem cal0_arrive : CalM M0_arrive 4 := ⟨by decide, tb_of 382 (by decide +kernel) rfl, tb_of 54 (by decide +kernel) rfl, ⟨by decide +kernel, by decide +kernel⟩, by decide +kernel⟩
theorem vir0_arrive : VirM M0_arrive := ⟨tb_of 380 (by decide +kernel) rfl, tb_of 381 (by decide +kernel) rfl⟩
def M0_become : mM := (yX0_become, cX0_become, 2, none, 0, 0)
theorem cal0_become : CalM M0_become 1 := ⟨by decide, tb_of 308 (by decide +kernel) rfl, tb_of 54 (by decide +kernel) rfl, ⟨by decide +kernel, by decide +kernel⟩, by decide +kernel⟩
theorem vir0_become : VirM M0_become := ⟨tb_of 306 (by decide +kernel) rfl, tb_of 307 (by decide +kernel) rfl⟩
def M0_last : mM := (yX0_last, cX0_last, 1, (some .int), 0, 0)
theorem cal0_last : CalM M0_last 0 := ⟨by decide, tb_of 441 (by decide +kernel) rfl, tb_of 54 (by decide +kernel) rfl, ⟨by decide +kernel, by decide +kernel⟩, by decide +kernel⟩
theorem vir0_last : VirM M0_last := ⟨tb_of 439 (by decide +kernel) rfl, tb_of 440 (by decide +kernel) rfl⟩
def M0_about : mM := (yX0_about, cX0_about, 2, (some .int), 0, 0)
theorem cal0_about : CalM M0_about 1 := ⟨by decide, tb_of 479 (by decide +kernel) rfl, tb_of 54 (by decide +kernel) rfl, ⟨by decide +kernel, by decide +kernel⟩, by decide +kernel⟩
theorem vir0_about : VirM M0_about := ⟨tb_of 477 (by decide +kernel) rfl, tb_of 478 (by decide +kernel) rfl⟩
def M1_note : mM := (yX1_note, cX1_note, 3, none, 2, 45)
theorem cal1_note : CalM M1_note 1 := ⟨by decide, tb_of 292 (by decide +kernel) rfl, tb_of 57 (by decide +kernel) rfl, ⟨by decide +kernel, by decide +kernel⟩, by decide +kernel⟩
theorem vir1_note : VirM M1_note := ⟨tb_of 290 (by decide +kernel) rfl, tb_of 291 (by decide +kernel) rfl⟩
def M1_keep : mM := (yX1_keep, cX1_keep, 1, none, 1, 21)
theorem cal1_keep : CalM M1_keep 0 := ⟨by decide, tb_of 331 (by decide +kernel) rfl, tb_of 57 (by decide +kernel) rfl, ⟨by decide +kernel, by decide +kernel⟩, by decide +kernel⟩
theorem vir1_keep : VirM M1_keep := ⟨tb_of 329 (by decide +kernel) rfl, tb_of 330 (by decide +kernel) rfl⟩
def M1_stepBack : mM := (yX1_stepBack, cX1_stepBack, 3, (some .int), 2, 45)
theorem cal1_stepBack : CalM M1_stepBack 1 := ⟨by decide, tb_of 629 (by decide +kernel) rfl, tb_of 57 (by decide +kernel) rfl, ⟨by decide +kernel, by decide +kernel⟩, by decide +kernel⟩
theorem vir1_stepBack : VirM M1_stepBack := ⟨tb_of 627 (by decide +kernel) rfl, tb_of 628 (by decide +kernel) rfl⟩
def M1_notedState : mM := (yX1_notedState, cX1_notedState, 1, (some (.object "LoopListeners$Road")), 0, 0)
theorem cal1_notedState : CalM M1_notedState 0 := ⟨by decide, tb_of 296 (by decide +kernel) rfl, tb_of 57 (by decide +kernel) rfl, ⟨by decide +kernel, by decide +kernel⟩, by decide +kernel⟩
theorem vir1_notedState : VirM M1_notedState := ⟨tb_of 295 (by decide +kernel) rfl, tb_of 0 (by decide +kernel) rfl⟩
def M2_lay : mM := (yX2_lay, cX2_lay, 6, none, 0, 0)
theorem cal2_lay : CalM M2_lay 5 := ⟨by decide, tb_of 350 (by decide +kernel) rfl, tb_of 55 (by decide +kernel) rfl, ⟨by decide +kernel, by decide +kernel⟩, by decide +kernel⟩
theorem vir2_lay : VirM M2_lay := ⟨tb_of 348 (by decide +kernel) rfl, tb_of 349 (by decide +kernel) rfl⟩
def M2_become : mM := (yX2_become, cX2_become, 2, none, 0, 0)
theorem cal2_become : CalM M2_become 1 := ⟨by decide, tb_of 316 (by decide +kernel) rfl, tb_of 55 (by decide +kernel) rfl, ⟨by decide +kernel, by decide +kernel⟩, by decide +kernel⟩
theorem vir2_become : VirM M2_become := ⟨tb_of 314 (by decide +kernel) rfl, tb_of 315 (by decide +kernel) rfl⟩
def M2_isUnder : mM := (yX2_isUnder, cX2_isUnder, 3, (some .boolean), 0, 0)
theorem cal2_isUnder : CalM M2_isUnder 1 := ⟨by decide, tb_of 358 (by decide +kernel) rfl, tb_of 55 (by decide +kernel) rfl, ⟨by decide +kernel, by decide +kernel⟩, by decide +kernel⟩
theorem vir2_isUnder : VirM M2_isUnder := ⟨tb_of 356 (by decide +kernel) rfl, tb_of 357 (by decide +kernel) rfl⟩
def M2_hear : mM := (yX2_hear, cX2_hear, 2, none, 0, 0)
theorem cal2_hear : CalM M2_hear 1 := ⟨by decide, tb_of 469 (by decide +kernel) rfl, tb_of 55 (by decide +kernel) rfl, ⟨by decide +kernel, by decide +kernel⟩, by decide +kernel⟩
theorem vir2_hear : VirM M2_hear := ⟨tb_of 467 (by decide +kernel) rfl, tb_of 468 (by decide +kernel) rfl⟩
def M2_falselyCounted : mM := (yX2_falselyCounted, cX2_falselyCounted, 1, (some .int), 0, 0)
theorem cal2_falselyCounted : CalM M2_falselyCounted 0 := ⟨by decide, tb_of 497 (by decide +kernel) rfl, tb_of 55 (by decide +kernel) rfl, ⟨by decide +kernel, by decide +kernel⟩, by decide +kernel⟩
theorem vir2_falselyCounted : VirM M2_falselyCounted := ⟨tb_of 495 (by decide +kernel) rfl, tb_of 496 (by decide +kernel) rfl⟩
def M2_about : mM := (yX2_about, cX2_about, 2, (some .int), 0, 0)
theorem cal2_about : CalM M2_about 1 := ⟨by decide, tb_of 489 (by decide +kernel) rfl, tb_of 55 (by decide +kernel) rfl, ⟨by decide +kernel, by decide +kernel⟩, by decide +kernel⟩
theorem vir2_about : VirM M2_about := ⟨tb_of 487 (by decide +kernel) rfl, tb_of 488 (by decide +kernel) rfl⟩
def M3_append : mM := (yX3_append, cX3_append, 5, (some .int), 2, 46)
theorem cal3_append : CalM M3_append 1 := ⟨by decide, tb_of 571 (by decide +kernel) rfl, tb_of 56 (by decide +kernel) rfl, ⟨by decide +kernel, by decide +kernel⟩, by decide +kernel⟩
theorem vir3_append : VirM M3_append := ⟨tb_of 569 (by decide +kernel) rfl, tb_of 570 (by decide +kernel) rfl⟩
def M3_signsIn : mM := (yX3_signsIn, cX3_signsIn, 5, (some .int), 1, 22)
theorem cal3_signsIn : CalM M3_signsIn 1 := ⟨by decide, tb_of 574 (by decide +kernel) rfl, tb_of 56 (by decide +kernel) rfl, ⟨by decide +kernel, by decide +kernel⟩, by decide +kernel⟩
theorem sta3_signsIn : Jvm.Cond.static M3_signsIn.1 ∈ TB := tb_of 573 (by decide +kernel) rfl
def M3_empty : mM := (yX3_empty, cX3_empty, 2, (some .int), 0, 0)
theorem cal3_empty : CalM M3_empty 0 := ⟨by decide, tb_of 584 (by decide +kernel) rfl, tb_of 56 (by decide +kernel) rfl, ⟨by decide +kernel, by decide +kernel⟩, by decide +kernel⟩
theorem vir3_empty : VirM M3_empty := ⟨tb_of 582 (by decide +kernel) rfl, tb_of 583 (by decide +kernel) rfl⟩
def M3_signAt : mM := (yX3_signAt, cX3_signAt, 2, (some .int), 0, 0)
theorem cal3_signAt : CalM M3_signAt 1 := ⟨by decide, tb_of 596 (by decide +kernel) rfl, tb_of 56 (by decide +kernel) rfl, ⟨by decide +kernel, by decide +kernel⟩, by decide +kernel⟩
theorem vir3_signAt : VirM M3_signAt := ⟨tb_of 594 (by decide +kernel) rfl, tb_of 595 (by decide +kernel) rfl⟩
def M3_digitAt : mM := (yX3_digitAt, cX3_digitAt, 2, (some .int), 1, 21)
theorem cal3_digitAt : CalM M3_digitAt 1 := ⟨by decide, tb_of 616 (by decide +kernel) rfl, tb_of 56 (by decide +kernel) rfl, ⟨by decide +kernel, by decide +kernel⟩, by decide +kernel⟩
theorem vir3_digitAt : VirM M3_digitAt := ⟨tb_of 614 (by decide +kernel) rfl, tb_of 615 (by decide +kernel) rfl⟩
def M3_numberAt : mM := (yX3_numberAt, cX3_numberAt, 3, (some .int), 2, 42)
theorem cal3_numberAt : CalM M3_numberAt 1 := ⟨by decide, tb_of 620 (by decide +kernel) rfl, tb_of 56 (by decide +kernel) rfl, ⟨by decide +kernel, by decide +kernel⟩, by decide +kernel⟩
theorem vir3_numberAt : VirM M3_numberAt := ⟨tb_of 618 (by decide +kernel) rfl, tb_of 619 (by decide +kernel) rfl⟩
def M3_beginsOrder : mM := (yX3_beginsOrder, cX3_beginsOrder, 2, (some .boolean), 1, 21)
theorem cal3_beginsOrder : CalM M3_beginsOrder 1 := ⟨by decide, tb_of 607 (by decide +kernel) rfl, tb_of 56 (by decide +kernel) rfl, ⟨by decide +kernel, by decide +kernel⟩, by decide +kernel⟩
theorem vir3_beginsOrder : VirM M3_beginsOrder := ⟨tb_of 605 (by decide +kernel) rfl, tb_of 606 (by decide +kernel) rfl⟩
def M3_firstFault : mM := (yX3_firstFault, cX3_firstFault, 3, (some .int), 2, 43)
theorem cal3_firstFault : CalM M3_firstFault 0 := ⟨by decide, tb_of 592 (by decide +kernel) rfl, tb_of 56 (by decide +kernel) rfl, ⟨by decide +kernel, by decide +kernel⟩, by decide +kernel⟩
theorem vir3_firstFault : VirM M3_firstFault := ⟨tb_of 590 (by decide +kernel) rfl, tb_of 591 (by decide +kernel) rfl⟩
def M3_dueAfter : mM := (yX3_dueAfter, cX3_dueAfter, 2, (some .int), 1, 22)
theorem cal3_dueAfter : CalM M3_dueAfter 2 := ⟨by decide, tb_of 599 (by decide +kernel) rfl, tb_of 56 (by decide +kernel) rfl, ⟨by decide +kernel, by decide +kernel⟩, by decide +kernel⟩
theorem sta3_dueAfter : Jvm.Cond.static M3_dueAfter.1 ∈ TB := tb_of 598 (by decide +kernel) rfl
def M4_become : mM := (yX4_become, cX4_become, 5, none, 1, 21)
theorem cal4_become : CalM M4_become 1 := ⟨by decide, tb_of 300 (by decide +kernel) rfl, tb_of 53 (by decide +kernel) rfl, ⟨by decide +kernel, by decide +kernel⟩, by decide +kernel⟩
theorem vir4_become : VirM M4_become := ⟨tb_of 298 (by decide +kernel) rfl, tb_of 299 (by decide +kernel) rfl⟩
def M4_carNumbered : mM := (yX4_carNumbered, cX4_carNumbered, 2, (some (.object "LoopListeners$Car")), 0, 0)
theorem cal4_carNumbered : CalM M4_carNumbered 1 := ⟨by decide, tb_of 304 (by decide +kernel) rfl, tb_of 53 (by decide +kernel) rfl, ⟨by decide +kernel, by decide +kernel⟩, by decide +kernel⟩
theorem vir4_carNumbered : VirM M4_carNumbered := ⟨tb_of 302 (by decide +kernel) rfl, tb_of 303 (by decide +kernel) rfl⟩
def M4_loopNumbered : mM := (yX4_loopNumbered, cX4_loopNumbered, 2, (some (.object "LoopListeners$Loop")), 0, 0)
theorem cal4_loopNumbered : CalM M4_loopNumbered 1 := ⟨by decide, tb_of 312 (by decide +kernel) rfl, tb_of 53 (by decide +kernel) rfl, ⟨by decide +kernel, by decide +kernel⟩, by decide +kernel⟩
theorem vir4_loopNumbered : VirM M4_loopNumbered := ⟨tb_of 310 (by decide +kernel) rfl, tb_of 311 (by decide +kernel) rfl⟩
def M4_changeSetting : mM := (yX4_changeSetting, cX4_changeSetting, 4, (some .int), 1, 22)
theorem cal4_changeSetting : CalM M4_changeSetting 2 := ⟨by decide, tb_of 320 (by decide +kernel) rfl, tb_of 53 (by decide +kernel) rfl, ⟨by decide +kernel, by decide +kernel⟩, by decide +kernel⟩
theorem vir4_changeSetting : VirM M4_changeSetting := ⟨tb_of 318 (by decide +kernel) rfl, tb_of 319 (by decide +kernel) rfl⟩
def M4_layLoop : mM := (yX4_layLoop, cX4_layLoop, 8, (some .int), 2, 46)
theorem cal4_layLoop : CalM M4_layLoop 5 := ⟨by decide, tb_of 342 (by decide +kernel) rfl, tb_of 53 (by decide +kernel) rfl, ⟨by decide +kernel, by decide +kernel⟩, by decide +kernel⟩
theorem vir4_layLoop : VirM M4_layLoop := ⟨tb_of 340 (by decide +kernel) rfl, tb_of 341 (by decide +kernel) rfl⟩
def M4_markCarsOver : mM := (yX4_markCarsOver, cX4_markCarsOver, 5, none, 1, 22)
theorem cal4_markCarsOver : CalM M4_markCarsOver 2 := ⟨by decide, tb_of 354 (by decide +kernel) rfl, tb_of 53 (by decide +kernel) rfl, ⟨by decide +kernel, by decide +kernel⟩, by decide +kernel⟩
theorem vir4_markCarsOver : VirM M4_markCarsOver := ⟨tb_of 353 (by decide +kernel) rfl, tb_of 2 (by decide +kernel) rfl⟩
def M4_changeBounds : mM := (yX4_changeBounds, cX4_changeBounds, 6, (some .int), 2, 43)
theorem cal4_changeBounds : CalM M4_changeBounds 3 := ⟨by decide, tb_of 366 (by decide +kernel) rfl, tb_of 53 (by decide +kernel) rfl, ⟨by decide +kernel, by decide +kernel⟩, by decide +kernel⟩
theorem vir4_changeBounds : VirM M4_changeBounds := ⟨tb_of 364 (by decide +kernel) rfl, tb_of 365 (by decide +kernel) rfl⟩
def M4_admitCar : mM := (yX4_admitCar, cX4_admitCar, 7, (some .int), 1, 24)
theorem cal4_admitCar : CalM M4_admitCar 4 := ⟨by decide, tb_of 374 (by decide +kernel) rfl, tb_of 53 (by decide +kernel) rfl, ⟨by decide +kernel, by decide +kernel⟩, by decide +kernel⟩
theorem vir4_admitCar : VirM M4_admitCar := ⟨tb_of 372 (by decide +kernel) rfl, tb_of 373 (by decide +kernel) rfl⟩
def M4_turnWish : mM := (yX4_turnWish, cX4_turnWish, 3, (some .int), 1, 21)
theorem cal4_turnWish : CalM M4_turnWish 1 := ⟨by decide, tb_of 394 (by decide +kernel) rfl, tb_of 53 (by decide +kernel) rfl, ⟨by decide +kernel, by decide +kernel⟩, by decide +kernel⟩
theorem vir4_turnWish : VirM M4_turnWish := ⟨tb_of 392 (by decide +kernel) rfl, tb_of 393 (by decide +kernel) rfl⟩
def M4_changeSpeed : mM := (yX4_changeSpeed, cX4_changeSpeed, 5, (some .int), 1, 22)
theorem cal4_changeSpeed : CalM M4_changeSpeed 2 := ⟨by decide, tb_of 402 (by decide +kernel) rfl, tb_of 53 (by decide +kernel) rfl, ⟨by decide +kernel, by decide +kernel⟩, by decide +kernel⟩
theorem vir4_changeSpeed : VirM M4_changeSpeed := ⟨tb_of 400 (by decide +kernel) rfl, tb_of 401 (by decide +kernel) rfl⟩
def M4_letPass : mM := (yX4_letPass, cX4_letPass, 3, (some .int), 4, 93)
theorem cal4_letPass : CalM M4_letPass 1 := ⟨by decide, tb_of 410 (by decide +kernel) rfl, tb_of 53 (by decide +kernel) rfl, ⟨by decide +kernel, by decide +kernel⟩, by decide +kernel⟩
theorem vir4_letPass : VirM M4_letPass := ⟨tb_of 408 (by decide +kernel) rfl, tb_of 409 (by decide +kernel) rfl⟩
def M4_listener : mM := (yX4_listener, cX4_listener, 1, (some .int), 0, 0)
theorem cal4_listener : CalM M4_listener 0 := ⟨by decide, tb_of 417 (by decide +kernel) rfl, tb_of 53 (by decide +kernel) rfl, ⟨by decide +kernel, by decide +kernel⟩, by decide +kernel⟩
theorem vir4_listener : VirM M4_listener := ⟨tb_of 415 (by decide +kernel) rfl, tb_of 416 (by decide +kernel) rfl⟩
def M4_passTick : mM := (yX4_passTick, cX4_passTick, 5, none, 3, 69)
theorem cal4_passTick : CalM M4_passTick 1 := ⟨by decide, tb_of 421 (by decide +kernel) rfl, tb_of 53 (by decide +kernel) rfl, ⟨by decide +kernel, by decide +kernel⟩, by decide +kernel⟩
theorem vir4_passTick : VirM M4_passTick := ⟨tb_of 419 (by decide +kernel) rfl, tb_of 420 (by decide +kernel) rfl⟩
def M4_orderMovers : mM := (yX4_orderMovers, cX4_orderMovers, 4, (some .int), 1, 25)
theorem cal4_orderMovers : CalM M4_orderMovers 0 := ⟨by decide, tb_of 425 (by decide +kernel) rfl, tb_of 53 (by decide +kernel) rfl, ⟨by decide +kernel, by decide +kernel⟩, by decide +kernel⟩
theorem vir4_orderMovers : VirM M4_orderMovers := ⟨tb_of 424 (by decide +kernel) rfl, tb_of 4 (by decide +kernel) rfl⟩
def M4_insertMover : mM := (yX4_insertMover, cX4_insertMover, 6, none, 0, 0)
theorem cal4_insertMover : CalM M4_insertMover 2 := ⟨by decide, tb_of 429 (by decide +kernel) rfl, tb_of 53 (by decide +kernel) rfl, ⟨by decide +kernel, by decide +kernel⟩, by decide +kernel⟩
theorem vir4_insertMover : VirM M4_insertMover := ⟨tb_of 428 (by decide +kernel) rfl, tb_of 5 (by decide +kernel) rfl⟩
def M4_moveCar : mM := (yX4_moveCar, cX4_moveCar, 3, none, 2, 46)
theorem cal4_moveCar : CalM M4_moveCar 1 := ⟨by decide, tb_of 433 (by decide +kernel) rfl, tb_of 53 (by decide +kernel) rfl, ⟨by decide +kernel, by decide +kernel⟩, by decide +kernel⟩
theorem vir4_moveCar : VirM M4_moveCar := ⟨tb_of 432 (by decide +kernel) rfl, tb_of 6 (by decide +kernel) rfl⟩
def M4_isFreeBeside : mM := (yX4_isFreeBeside, cX4_isFreeBeside, 3, (some .boolean), 1, 23)
theorem cal4_isFreeBeside : CalM M4_isFreeBeside 1 := ⟨by decide, tb_of 437 (by decide +kernel) rfl, tb_of 53 (by decide +kernel) rfl, ⟨by decide +kernel, by decide +kernel⟩, by decide +kernel⟩
theorem vir4_isFreeBeside : VirM M4_isFreeBeside := ⟨tb_of 436 (by decide +kernel) rfl, tb_of 7 (by decide +kernel) rfl⟩
def M4_changeLane : mM := (yX4_changeLane, cX4_changeLane, 3, none, 1, 24)
theorem cal4_changeLane : CalM M4_changeLane 1 := ⟨by decide, tb_of 445 (by decide +kernel) rfl, tb_of 53 (by decide +kernel) rfl, ⟨by decide +kernel, by decide +kernel⟩, by decide +kernel⟩
theorem vir4_changeLane : VirM M4_changeLane := ⟨tb_of 444 (by decide +kernel) rfl, tb_of 8 (by decide +kernel) rfl⟩
def M4_notePassings : mM := (yX4_notePassings, cX4_notePassings, 4, none, 2, 46)
theorem cal4_notePassings : CalM M4_notePassings 0 := ⟨by decide, tb_of 449 (by decide +kernel) rfl, tb_of 53 (by decide +kernel) rfl, ⟨by decide +kernel, by decide +kernel⟩, by decide +kernel⟩
theorem vir4_notePassings : VirM M4_notePassings := ⟨tb_of 448 (by decide +kernel) rfl, tb_of 9 (by decide +kernel) rfl⟩
def M4_countPassings : mM := (yX4_countPassings, cX4_countPassings, 4, none, 1, 21)
theorem cal4_countPassings : CalM M4_countPassings 1 := ⟨by decide, tb_of 457 (by decide +kernel) rfl, tb_of 53 (by decide +kernel) rfl, ⟨by decide +kernel, by decide +kernel⟩, by decide +kernel⟩
theorem vir4_countPassings : VirM M4_countPassings := ⟨tb_of 456 (by decide +kernel) rfl, tb_of 10 (by decide +kernel) rfl⟩
def M4_loopsUnder : mM := (yX4_loopsUnder, cX4_loopsUnder, 5, (some .int), 1, 22)
theorem cal4_loopsUnder : CalM M4_loopsUnder 1 := ⟨by decide, tb_of 453 (by decide +kernel) rfl, tb_of 53 (by decide +kernel) rfl, ⟨by decide +kernel, by decide +kernel⟩, by decide +kernel⟩
theorem vir4_loopsUnder : VirM M4_loopsUnder := ⟨tb_of 451 (by decide +kernel) rfl, tb_of 452 (by decide +kernel) rfl⟩
def M4_strengthOf : mM := (yX4_strengthOf, cX4_strengthOf, 2, (some .int), 2, 48)
theorem cal4_strengthOf : CalM M4_strengthOf 1 := ⟨by decide, tb_of 461 (by decide +kernel) rfl, tb_of 53 (by decide +kernel) rfl, ⟨by decide +kernel, by decide +kernel⟩, by decide +kernel⟩
theorem vir4_strengthOf : VirM M4_strengthOf := ⟨tb_of 459 (by decide +kernel) rfl, tb_of 460 (by decide +kernel) rfl⟩
def M4_metalIn : mM := (yX4_metalIn, cX4_metalIn, 6, (some .int), 1, 23)
theorem cal4_metalIn : CalM M4_metalIn 2 := ⟨by decide, tb_of 465 (by decide +kernel) rfl, tb_of 53 (by decide +kernel) rfl, ⟨by decide +kernel, by decide +kernel⟩, by decide +kernel⟩
theorem vir4_metalIn : VirM M4_metalIn := ⟨tb_of 464 (by decide +kernel) rfl, tb_of 11 (by decide +kernel) rfl⟩
def M4_takerOf : mM := (yX4_takerOf, cX4_takerOf, 4, (some .int), 0, 0)
theorem cal4_takerOf : CalM M4_takerOf 2 := ⟨by decide, tb_of 378 (by decide +kernel) rfl, tb_of 53 (by decide +kernel) rfl, ⟨by decide +kernel, by decide +kernel⟩, by decide +kernel⟩
theorem vir4_takerOf : VirM M4_takerOf := ⟨tb_of 376 (by decide +kernel) rfl, tb_of 377 (by decide +kernel) rfl⟩
def M4_take : mM := (yX4_take, cX4_take, 5, none, 0, 0)
theorem cal4_take : CalM M4_take 3 := ⟨by decide, tb_of 386 (by decide +kernel) rfl, tb_of 53 (by decide +kernel) rfl, ⟨by decide +kernel, by decide +kernel⟩, by decide +kernel⟩
theorem vir4_take : VirM M4_take := ⟨tb_of 385 (by decide +kernel) rfl, tb_of 3 (by decide +kernel) rfl⟩
def M4_carsGone : mM := (yX4_carsGone, cX4_carsGone, 4, (some .int), 1, 21)
theorem cal4_carsGone : CalM M4_carsGone 0 := ⟨by decide, tb_of 510 (by decide +kernel) rfl, tb_of 53 (by decide +kernel) rfl, ⟨by decide +kernel, by decide +kernel⟩, by decide +kernel⟩
theorem vir4_carsGone : VirM M4_carsGone := ⟨tb_of 508 (by decide +kernel) rfl, tb_of 509 (by decide +kernel) rfl⟩
def M4_sumOfLoops : mM := (yX4_sumOfLoops, cX4_sumOfLoops, 5, (some .int), 1, 21)
theorem cal4_sumOfLoops : CalM M4_sumOfLoops 1 := ⟨by decide, tb_of 515 (by decide +kernel) rfl, tb_of 53 (by decide +kernel) rfl, ⟨by decide +kernel, by decide +kernel⟩, by decide +kernel⟩
theorem vir4_sumOfLoops : VirM M4_sumOfLoops := ⟨tb_of 513 (by decide +kernel) rfl, tb_of 514 (by decide +kernel) rfl⟩
def M4_allAmounts : mM := (yX4_allAmounts, cX4_allAmounts, 4, (some .int), 1, 21)
theorem cal4_allAmounts : CalM M4_allAmounts 0 := ⟨by decide, tb_of 557 (by decide +kernel) rfl, tb_of 53 (by decide +kernel) rfl, ⟨by decide +kernel, by decide +kernel⟩, by decide +kernel⟩
theorem vir4_allAmounts : VirM M4_allAmounts := ⟨tb_of 555 (by decide +kernel) rfl, tb_of 556 (by decide +kernel) rfl⟩
def M5_keep : mM := (yX5_keep, cX5_keep, 4, (some .int), 2, 45)
theorem cal5_keep : CalM M5_keep 2 := ⟨by decide, tb_of 637 (by decide +kernel) rfl, tb_of 58 (by decide +kernel) rfl, ⟨by decide +kernel, by decide +kernel⟩, by decide +kernel⟩
theorem vir5_keep : VirM M5_keep := ⟨tb_of 635 (by decide +kernel) rfl, tb_of 636 (by decide +kernel) rfl⟩
def M5_giveBack : mM := (yX5_giveBack, cX5_giveBack, 4, (some .int), 2, 45)
theorem cal5_giveBack : CalM M5_giveBack 2 := ⟨by decide, tb_of 650 (by decide +kernel) rfl, tb_of 58 (by decide +kernel) rfl, ⟨by decide +kernel, by decide +kernel⟩, by decide +kernel⟩
theorem vir5_giveBack : VirM M5_giveBack := ⟨tb_of 648 (by decide +kernel) rfl, tb_of 649 (by decide +kernel) rfl⟩
def M5_isSlot : mM := (yX5_isSlot, cX5_isSlot, 2, (some .boolean), 0, 0)
theorem cal5_isSlot : CalM M5_isSlot 1 := ⟨by decide, tb_of 641 (by decide +kernel) rfl, tb_of 58 (by decide +kernel) rfl, ⟨by decide +kernel, by decide +kernel⟩, by decide +kernel⟩
theorem vir5_isSlot : VirM M5_isSlot := ⟨tb_of 640 (by decide +kernel) rfl, tb_of 15 (by decide +kernel) rfl⟩
def M6_set : mM := (yX6_set, cX6_set, 3, (some .int), 3, 67)
theorem cal6_set : CalM M6_set 2 := ⟨by decide, tb_of 288 (by decide +kernel) rfl, tb_of 52 (by decide +kernel) rfl, ⟨by decide +kernel, by decide +kernel⟩, by decide +kernel⟩
theorem vir6_set : VirM M6_set := ⟨tb_of 286 (by decide +kernel) rfl, tb_of 287 (by decide +kernel) rfl⟩
def M6_loop : mM := (yX6_loop, cX6_loop, 6, (some .int), 3, 73)
theorem cal6_loop : CalM M6_loop 5 := ⟨by decide, tb_of 338 (by decide +kernel) rfl, tb_of 52 (by decide +kernel) rfl, ⟨by decide +kernel, by decide +kernel⟩, by decide +kernel⟩
theorem vir6_loop : VirM M6_loop := ⟨tb_of 336 (by decide +kernel) rfl, tb_of 337 (by decide +kernel) rfl⟩
def M6_bounds : mM := (yX6_bounds, cX6_bounds, 4, (some .int), 3, 68)
theorem cal6_bounds : CalM M6_bounds 3 := ⟨by decide, tb_of 362 (by decide +kernel) rfl, tb_of 52 (by decide +kernel) rfl, ⟨by decide +kernel, by decide +kernel⟩, by decide +kernel⟩
theorem vir6_bounds : VirM M6_bounds := ⟨tb_of 360 (by decide +kernel) rfl, tb_of 361 (by decide +kernel) rfl⟩
def M6_come : mM := (yX6_come, cX6_come, 5, (some .int), 3, 67)
theorem cal6_come : CalM M6_come 4 := ⟨by decide, tb_of 370 (by decide +kernel) rfl, tb_of 52 (by decide +kernel) rfl, ⟨by decide +kernel, by decide +kernel⟩, by decide +kernel⟩
theorem vir6_come : VirM M6_come := ⟨tb_of 368 (by decide +kernel) rfl, tb_of 369 (by decide +kernel) rfl⟩
def M6_want : mM := (yX6_want, cX6_want, 2, (some .int), 3, 67)
theorem cal6_want : CalM M6_want 1 := ⟨by decide, tb_of 390 (by decide +kernel) rfl, tb_of 52 (by decide +kernel) rfl, ⟨by decide +kernel, by decide +kernel⟩, by decide +kernel⟩
theorem vir6_want : VirM M6_want := ⟨tb_of 388 (by decide +kernel) rfl, tb_of 389 (by decide +kernel) rfl⟩
def M6_speed : mM := (yX6_speed, cX6_speed, 3, (some .int), 3, 67)
theorem cal6_speed : CalM M6_speed 2 := ⟨by decide, tb_of 398 (by decide +kernel) rfl, tb_of 52 (by decide +kernel) rfl, ⟨by decide +kernel, by decide +kernel⟩, by decide +kernel⟩
theorem vir6_speed : VirM M6_speed := ⟨tb_of 396 (by decide +kernel) rfl, tb_of 397 (by decide +kernel) rfl⟩
def M6_ticks : mM := (yX6_ticks, cX6_ticks, 2, (some .int), 5, 115)
theorem cal6_ticks : CalM M6_ticks 1 := ⟨by decide, tb_of 406 (by decide +kernel) rfl, tb_of 52 (by decide +kernel) rfl, ⟨by decide +kernel, by decide +kernel⟩, by decide +kernel⟩
theorem vir6_ticks : VirM M6_ticks := ⟨tb_of 404 (by decide +kernel) rfl, tb_of 405 (by decide +kernel) rfl⟩
def M6_recorded : mM := (yX6_recorded, cX6_recorded, 2, (some .int), 2, 41)
theorem cal6_recorded : CalM M6_recorded 1 := ⟨by decide, tb_of 327 (by decide +kernel) rfl, tb_of 52 (by decide +kernel) rfl, ⟨by decide +kernel, by decide +kernel⟩, by decide +kernel⟩
theorem vir6_recorded : VirM M6_recorded := ⟨tb_of 326 (by decide +kernel) rfl, tb_of 1 (by decide +kernel) rfl⟩
def M6_ofCar : mM := (yX6_ofCar, cX6_ofCar, 4, (some .int), 2, 46)
theorem cal6_ofCar : CalM M6_ofCar 2 := ⟨by decide, tb_of 473 (by decide +kernel) rfl, tb_of 52 (by decide +kernel) rfl, ⟨by decide +kernel, by decide +kernel⟩, by decide +kernel⟩
theorem vir6_ofCar : VirM M6_ofCar := ⟨tb_of 471 (by decide +kernel) rfl, tb_of 472 (by decide +kernel) rfl⟩
def M6_ofLoop : mM := (yX6_ofLoop, cX6_ofLoop, 4, (some .int), 3, 69)
theorem cal6_ofLoop : CalM M6_ofLoop 2 := ⟨by decide, tb_of 483 (by decide +kernel) rfl, tb_of 52 (by decide +kernel) rfl, ⟨by decide +kernel, by decide +kernel⟩, by decide +kernel⟩
theorem vir6_ofLoop : VirM M6_ofLoop := ⟨tb_of 481 (by decide +kernel) rfl, tb_of 482 (by decide +kernel) rfl⟩
def M6_error : mM := (yX6_error, cX6_error, 3, (some .int), 1, 21)
theorem cal6_error : CalM M6_error 1 := ⟨by decide, tb_of 493 (by decide +kernel) rfl, tb_of 52 (by decide +kernel) rfl, ⟨by decide +kernel, by decide +kernel⟩, by decide +kernel⟩
theorem vir6_error : VirM M6_error := ⟨tb_of 491 (by decide +kernel) rfl, tb_of 492 (by decide +kernel) rfl⟩
def M6_carAt : mM := (yX6_carAt, cX6_carAt, 3, (some .int), 1, 23)
theorem cal6_carAt : CalM M6_carAt 2 := ⟨by decide, tb_of 501 (by decide +kernel) rfl, tb_of 52 (by decide +kernel) rfl, ⟨by decide +kernel, by decide +kernel⟩, by decide +kernel⟩
theorem vir6_carAt : VirM M6_carAt := ⟨tb_of 499 (by decide +kernel) rfl, tb_of 500 (by decide +kernel) rfl⟩
def M6_count : mM := (yX6_count, cX6_count, 2, (some .int), 2, 45)
theorem cal6_count : CalM M6_count 1 := ⟨by decide, tb_of 506 (by decide +kernel) rfl, tb_of 52 (by decide +kernel) rfl, ⟨by decide +kernel, by decide +kernel⟩, by decide +kernel⟩
theorem vir6_count : VirM M6_count := ⟨tb_of 504 (by decide +kernel) rfl, tb_of 505 (by decide +kernel) rfl⟩
def M6_inside : mM := (yX6_inside, cX6_inside, 5, (some .int), 1, 21)
theorem cal6_inside : CalM M6_inside 2 := ⟨by decide, tb_of 520 (by decide +kernel) rfl, tb_of 52 (by decide +kernel) rfl, ⟨by decide +kernel, by decide +kernel⟩, by decide +kernel⟩
theorem vir6_inside : VirM M6_inside := ⟨tb_of 518 (by decide +kernel) rfl, tb_of 519 (by decide +kernel) rfl⟩
def M6_countsIn : mM := (yX6_countsIn, cX6_countsIn, 4, (some .int), 5, 115)
theorem cal6_countsIn : CalM M6_countsIn 2 := ⟨by decide, tb_of 524 (by decide +kernel) rfl, tb_of 52 (by decide +kernel) rfl, ⟨by decide +kernel, by decide +kernel⟩, by decide +kernel⟩
theorem vir6_countsIn : VirM M6_countsIn := ⟨tb_of 522 (by decide +kernel) rfl, tb_of 523 (by decide +kernel) rfl⟩
def M6_countsAlone : mM := (yX6_countsAlone, cX6_countsAlone, 5, (some .int), 4, 93)
theorem cal6_countsAlone : CalM M6_countsAlone 2 := ⟨by decide, tb_of 530 (by decide +kernel) rfl, tb_of 52 (by decide +kernel) rfl, ⟨by decide +kernel, by decide +kernel⟩, by decide +kernel⟩
theorem vir6_countsAlone : VirM M6_countsAlone := ⟨tb_of 528 (by decide +kernel) rfl, tb_of 529 (by decide +kernel) rfl⟩
def M6_bestUpper : mM := (yX6_bestUpper, cX6_bestUpper, 10, (some .int), 5, 119)
theorem cal6_bestUpper : CalM M6_bestUpper 2 := ⟨by decide, tb_of 535 (by decide +kernel) rfl, tb_of 52 (by decide +kernel) rfl, ⟨by decide +kernel, by decide +kernel⟩, by decide +kernel⟩
theorem vir6_bestUpper : VirM M6_bestUpper := ⟨tb_of 533 (by decide +kernel) rfl, tb_of 534 (by decide +kernel) rfl⟩
def M6_hearTrial : mM := (yX6_hearTrial, cX6_hearTrial, 7, (some .int), 4, 93)
theorem cal6_hearTrial : CalM M6_hearTrial 3 := ⟨by decide, tb_of 539 (by decide +kernel) rfl, tb_of 52 (by decide +kernel) rfl, ⟨by decide +kernel, by decide +kernel⟩, by decide +kernel⟩
theorem vir6_hearTrial : VirM M6_hearTrial := ⟨tb_of 538 (by decide +kernel) rfl, tb_of 12 (by decide +kernel) rfl⟩
def M6_countedWith : mM := (yX6_countedWith, cX6_countedWith, 5, (some .int), 1, 21)
theorem cal6_countedWith : CalM M6_countedWith 3 := ⟨by decide, tb_of 544 (by decide +kernel) rfl, tb_of 52 (by decide +kernel) rfl, ⟨by decide +kernel, by decide +kernel⟩, by decide +kernel⟩
theorem vir6_countedWith : VirM M6_countedWith := ⟨tb_of 543 (by decide +kernel) rfl, tb_of 13 (by decide +kernel) rfl⟩
def M6_bestTurn : mM := (yX6_bestTurn, cX6_bestTurn, 6, (some .int), 5, 115)
theorem cal6_bestTurn : CalM M6_bestTurn 1 := ⟨by decide, tb_of 553 (by decide +kernel) rfl, tb_of 52 (by decide +kernel) rfl, ⟨by decide +kernel, by decide +kernel⟩, by decide +kernel⟩
theorem vir6_bestTurn : VirM M6_bestTurn := ⟨tb_of 551 (by decide +kernel) rfl, tb_of 552 (by decide +kernel) rfl⟩
def M6_goneIn : mM := (yX6_goneIn, cX6_goneIn, 4, (some .int), 4, 93)
theorem cal6_goneIn : CalM M6_goneIn 1 := ⟨by decide, tb_of 563 (by decide +kernel) rfl, tb_of 52 (by decide +kernel) rfl, ⟨by decide +kernel, by decide +kernel⟩, by decide +kernel⟩
theorem vir6_goneIn : VirM M6_goneIn := ⟨tb_of 561 (by decide +kernel) rfl, tb_of 562 (by decide +kernel) rfl⟩
def M6_put : mM := (yX6_put, cX6_put, 3, (some .int), 3, 70)
theorem cal6_put : CalM M6_put 1 := ⟨by decide, tb_of 567 (by decide +kernel) rfl, tb_of 52 (by decide +kernel) rfl, ⟨by decide +kernel, by decide +kernel⟩, by decide +kernel⟩
theorem vir6_put : VirM M6_put := ⟨tb_of 565 (by decide +kernel) rfl, tb_of 566 (by decide +kernel) rfl⟩
def M6_wipe : mM := (yX6_wipe, cX6_wipe, 1, (some .int), 1, 21)
theorem cal6_wipe : CalM M6_wipe 0 := ⟨by decide, tb_of 580 (by decide +kernel) rfl, tb_of 52 (by decide +kernel) rfl, ⟨by decide +kernel, by decide +kernel⟩, by decide +kernel⟩
theorem vir6_wipe : VirM M6_wipe := ⟨tb_of 578 (by decide +kernel) rfl, tb_of 579 (by decide +kernel) rfl⟩
def M6_fault : mM := (yX6_fault, cX6_fault, 1, (some .int), 3, 65)
theorem cal6_fault : CalM M6_fault 0 := ⟨by decide, tb_of 588 (by decide +kernel) rfl, tb_of 52 (by decide +kernel) rfl, ⟨by decide +kernel, by decide +kernel⟩, by decide +kernel⟩
theorem vir6_fault : VirM M6_fault := ⟨tb_of 586 (by decide +kernel) rfl, tb_of 587 (by decide +kernel) rfl⟩
def M6_carryOut : mM := (yX6_carryOut, cX6_carryOut, 3, (some .int), 6, 136)
theorem cal6_carryOut : CalM M6_carryOut 0 := ⟨by decide, tb_of 603 (by decide +kernel) rfl, tb_of 52 (by decide +kernel) rfl, ⟨by decide +kernel, by decide +kernel⟩, by decide +kernel⟩
theorem vir6_carryOut : VirM M6_carryOut := ⟨tb_of 601 (by decide +kernel) rfl, tb_of 602 (by decide +kernel) rfl⟩
def M6_obey : mM := (yX6_obey, cX6_obey, 2, (some .int), 5, 115)
theorem cal6_obey : CalM M6_obey 1 := ⟨by decide, tb_of 611 (by decide +kernel) rfl, tb_of 52 (by decide +kernel) rfl, ⟨by decide +kernel, by decide +kernel⟩, by decide +kernel⟩
theorem vir6_obey : VirM M6_obey := ⟨tb_of 610 (by decide +kernel) rfl, tb_of 14 (by decide +kernel) rfl⟩
def M6_undo : mM := (yX6_undo, cX6_undo, 1, (some .int), 3, 67)
theorem cal6_undo : CalM M6_undo 0 := ⟨by decide, tb_of 625 (by decide +kernel) rfl, tb_of 52 (by decide +kernel) rfl, ⟨by decide +kernel, by decide +kernel⟩, by decide +kernel⟩
theorem vir6_undo : VirM M6_undo := ⟨tb_of 623 (by decide +kernel) rfl, tb_of 624 (by decide +kernel) rfl⟩
def M6_save : mM := (yX6_save, cX6_save, 2, (some .int), 3, 68)
theorem cal6_save : CalM M6_save 1 := ⟨by decide, tb_of 633 (by decide +kernel) rfl, tb_of 52 (by decide +kernel) rfl, ⟨by decide +kernel, by decide +kernel⟩, by decide +kernel⟩
theorem vir6_save : VirM M6_save := ⟨tb_of 631 (by decide +kernel) rfl, tb_of 632 (by decide +kernel) rfl⟩
def M6_restore : mM := (yX6_restore, cX6_restore, 2, (some .int), 3, 68)
theorem cal6_restore : CalM M6_restore 1 := ⟨by decide, tb_of 646 (by decide +kernel) rfl, tb_of 52 (by decide +kernel) rfl, ⟨by decide +kernel, by decide +kernel⟩, by decide +kernel⟩
theorem vir6_restore : VirM M6_restore := ⟨tb_of 644 (by decide +kernel) rfl, tb_of 645 (by decide +kernel) rfl⟩
def M6_isWithin : mM := (yX6_isWithin, cX6_isWithin, 3, (some .boolean), 0, 0)
theorem cal6_isWithin : CalM M6_isWithin 3 := ⟨by decide, tb_of 323 (by decide +kernel) rfl, tb_of 52 (by decide +kernel) rfl, ⟨by decide +kernel, by decide +kernel⟩, by decide +kernel⟩
theorem sta6_isWithin : Jvm.Cond.static M6_isWithin.1 ∈ TB := tb_of 322 (by decide +kernel) rfl
def M6_isTicks : mM := (yX6_isTicks, cX6_isTicks, 1, (some .boolean), 1, 22)
theorem cal6_isTicks : CalM M6_isTicks 1 := ⟨by decide, tb_of 413 (by decide +kernel) rfl, tb_of 52 (by decide +kernel) rfl, ⟨by decide +kernel, by decide +kernel⟩, by decide +kernel⟩
theorem sta6_isTicks : Jvm.Cond.static M6_isTicks.1 ∈ TB := tb_of 412 (by decide +kernel) rfl
def M6_areBounds : mM := (yX6_areBounds, cX6_areBounds, 2, (some .boolean), 1, 22)
theorem cal6_areBounds : CalM M6_areBounds 2 := ⟨by decide, tb_of 345 (by decide +kernel) rfl, tb_of 52 (by decide +kernel) rfl, ⟨by decide +kernel, by decide +kernel⟩, by decide +kernel⟩
theorem sta6_areBounds : Jvm.Cond.static M6_areBounds.1 ∈ TB := tb_of 344 (by decide +kernel) rfl
def M7_in : mM := (yX7_in, cX7_in, 3, (some .boolean), 0, 0)
theorem cal7_in : CalM M7_in 3 := ⟨by decide, tb_of 709 (by decide +kernel) rfl, tb_of 59 (by decide +kernel) rfl, ⟨by decide +kernel, by decide +kernel⟩, by decide +kernel⟩
theorem sta7_in : Jvm.Cond.static M7_in.1 ∈ TB := tb_of 708 (by decide +kernel) rfl
def M7_record : mM := (yX7_record, cX7_record, 2, none, 0, 0)
theorem cal7_record : CalM M7_record 0 := ⟨by decide, tb_of 713 (by decide +kernel) rfl, tb_of 59 (by decide +kernel) rfl, ⟨by decide +kernel, by decide +kernel⟩, by decide +kernel⟩
theorem vir7_record : VirM M7_record := ⟨tb_of 712 (by decide +kernel) rfl, tb_of 16 (by decide +kernel) rfl⟩
def M7_keep : mM := (yX7_keep, cX7_keep, 2, none, 0, 0)
theorem cal7_keep : CalM M7_keep 0 := ⟨by decide, tb_of 876 (by decide +kernel) rfl, tb_of 59 (by decide +kernel) rfl, ⟨by decide +kernel, by decide +kernel⟩, by decide +kernel⟩
theorem vir7_keep : VirM M7_keep := ⟨tb_of 875 (by decide +kernel) rfl, tb_of 43 (by decide +kernel) rfl⟩
def M7_comeBack : mM := (yX7_comeBack, cX7_comeBack, 2, none, 0, 0)
theorem cal7_comeBack : CalM M7_comeBack 0 := ⟨by decide, tb_of 880 (by decide +kernel) rfl, tb_of 59 (by decide +kernel) rfl, ⟨by decide +kernel, by decide +kernel⟩, by decide +kernel⟩
theorem vir7_comeBack : VirM M7_comeBack := ⟨tb_of 879 (by decide +kernel) rfl, tb_of 44 (by decide +kernel) rfl⟩
def M7_ofC : mM := (yX7_ofC, cX7_ofC, 3, (some .int), 0, 0)
theorem cal7_ofC : CalM M7_ofC 2 := ⟨by decide, tb_of 728 (by decide +kernel) rfl, tb_of 59 (by decide +kernel) rfl, ⟨by decide +kernel, by decide +kernel⟩, by decide +kernel⟩
theorem vir7_ofC : VirM M7_ofC := ⟨tb_of 727 (by decide +kernel) rfl, tb_of 18 (by decide +kernel) rfl⟩
def M7_bookC : mM := (yX7_bookC, cX7_bookC, 4, none, 0, 0)
theorem cal7_bookC : CalM M7_bookC 3 := ⟨by decide, tb_of 748 (by decide +kernel) rfl, tb_of 59 (by decide +kernel) rfl, ⟨by decide +kernel, by decide +kernel⟩, by decide +kernel⟩
theorem vir7_bookC : VirM M7_bookC := ⟨tb_of 747 (by decide +kernel) rfl, tb_of 23 (by decide +kernel) rfl⟩
def M7_ofL : mM := (yX7_ofL, cX7_ofL, 3, (some .int), 0, 0)
theorem cal7_ofL : CalM M7_ofL 2 := ⟨by decide, tb_of 736 (by decide +kernel) rfl, tb_of 59 (by decide +kernel) rfl, ⟨by decide +kernel, by decide +kernel⟩, by decide +kernel⟩
theorem vir7_ofL : VirM M7_ofL := ⟨tb_of 735 (by decide +kernel) rfl, tb_of 20 (by decide +kernel) rfl⟩
def M7_bookL : mM := (yX7_bookL, cX7_bookL, 4, none, 0, 0)
theorem cal7_bookL : CalM M7_bookL 3 := ⟨by decide, tb_of 724 (by decide +kernel) rfl, tb_of 59 (by decide +kernel) rfl, ⟨by decide +kernel, by decide +kernel⟩, by decide +kernel⟩
theorem vir7_bookL : VirM M7_bookL := ⟨tb_of 723 (by decide +kernel) rfl, tb_of 17 (by decide +kernel) rfl⟩
def M7_isOn : mM := (yX7_isOn, cX7_isOn, 2, (some .boolean), 1, 22)
theorem cal7_isOn : CalM M7_isOn 1 := ⟨by decide, tb_of 740 (by decide +kernel) rfl, tb_of 59 (by decide +kernel) rfl, ⟨by decide +kernel, by decide +kernel⟩, by decide +kernel⟩
theorem vir7_isOn : VirM M7_isOn := ⟨tb_of 739 (by decide +kernel) rfl, tb_of 21 (by decide +kernel) rfl⟩
def M7_lastCell : mM := (yX7_lastCell, cX7_lastCell, 2, (some .int), 1, 22)
theorem cal7_lastCell : CalM M7_lastCell 1 := ⟨by decide, tb_of 744 (by decide +kernel) rfl, tb_of 59 (by decide +kernel) rfl, ⟨by decide +kernel, by decide +kernel⟩, by decide +kernel⟩
theorem vir7_lastCell : VirM M7_lastCell := ⟨tb_of 743 (by decide +kernel) rfl, tb_of 22 (by decide +kernel) rfl⟩
def M7_mark : mM := (yX7_mark, cX7_mark, 4, none, 2, 43)
theorem cal7_mark : CalM M7_mark 2 := ⟨by decide, tb_of 768 (by decide +kernel) rfl, tb_of 59 (by decide +kernel) rfl, ⟨by decide +kernel, by decide +kernel⟩, by decide +kernel⟩
theorem vir7_mark : VirM M7_mark := ⟨tb_of 767 (by decide +kernel) rfl, tb_of 26 (by decide +kernel) rfl⟩
def M7_layCells : mM := (yX7_layCells, cX7_layCells, 2, none, 3, 66)
theorem cal7_layCells : CalM M7_layCells 0 := ⟨by decide, tb_of 764 (by decide +kernel) rfl, tb_of 59 (by decide +kernel) rfl, ⟨by decide +kernel, by decide +kernel⟩, by decide +kernel⟩
theorem vir7_layCells : VirM M7_layCells := ⟨tb_of 763 (by decide +kernel) rfl, tb_of 25 (by decide +kernel) rfl⟩
def M7_isFree : mM := (yX7_isFree, cX7_isFree, 3, (some .boolean), 1, 22)
theorem cal7_isFree : CalM M7_isFree 2 := ⟨by decide, tb_of 772 (by decide +kernel) rfl, tb_of 59 (by decide +kernel) rfl, ⟨by decide +kernel, by decide +kernel⟩, by decide +kernel⟩
theorem vir7_isFree : VirM M7_isFree := ⟨tb_of 771 (by decide +kernel) rfl, tb_of 27 (by decide +kernel) rfl⟩
def M7_canChange : mM := (yX7_canChange, cX7_canChange, 4, (some .boolean), 2, 44)
theorem cal7_canChange : CalM M7_canChange 1 := ⟨by decide, tb_of 804 (by decide +kernel) rfl, tb_of 59 (by decide +kernel) rfl, ⟨by decide +kernel, by decide +kernel⟩, by decide +kernel⟩
theorem vir7_canChange : VirM M7_canChange := ⟨tb_of 803 (by decide +kernel) rfl, tb_of 32 (by decide +kernel) rfl⟩
def M7_move : mM := (yX7_move, cX7_move, 5, none, 3, 67)
theorem cal7_move : CalM M7_move 1 := ⟨by decide, tb_of 800 (by decide +kernel) rfl, tb_of 59 (by decide +kernel) rfl, ⟨by decide +kernel, by decide +kernel⟩, by decide +kernel⟩
theorem vir7_move : VirM M7_move := ⟨tb_of 799 (by decide +kernel) rfl, tb_of 31 (by decide +kernel) rfl⟩
def M7_moveAll : mM := (yX7_moveAll, cX7_moveAll, 4, none, 4, 91)
theorem cal7_moveAll : CalM M7_moveAll 0 := ⟨by decide, tb_of 796 (by decide +kernel) rfl, tb_of 59 (by decide +kernel) rfl, ⟨by decide +kernel, by decide +kernel⟩, by decide +kernel⟩
theorem vir7_moveAll : VirM M7_moveAll := ⟨tb_of 795 (by decide +kernel) rfl, tb_of 30 (by decide +kernel) rfl⟩
def M7_isOver : mM := (yX7_isOver, cX7_isOver, 5, (some .boolean), 2, 43)
theorem cal7_isOver : CalM M7_isOver 2 := ⟨by decide, tb_of 732 (by decide +kernel) rfl, tb_of 59 (by decide +kernel) rfl, ⟨by decide +kernel, by decide +kernel⟩, by decide +kernel⟩
theorem vir7_isOver : VirM M7_isOver := ⟨tb_of 731 (by decide +kernel) rfl, tb_of 19 (by decide +kernel) rfl⟩
def M7_overBy : mM := (yX7_overBy, cX7_overBy, 4, (some .int), 3, 67)
theorem cal7_overBy : CalM M7_overBy 1 := ⟨by decide, tb_of 812 (by decide +kernel) rfl, tb_of 59 (by decide +kernel) rfl, ⟨by decide +kernel, by decide +kernel⟩, by decide +kernel⟩
theorem vir7_overBy : VirM M7_overBy := ⟨tb_of 811 (by decide +kernel) rfl, tb_of 34 (by decide +kernel) rfl⟩
def M7_passAll : mM := (yX7_passAll, cX7_passAll, 4, none, 4, 90)
theorem cal7_passAll : CalM M7_passAll 0 := ⟨by decide, tb_of 808 (by decide +kernel) rfl, tb_of 59 (by decide +kernel) rfl, ⟨by decide +kernel, by decide +kernel⟩, by decide +kernel⟩
theorem vir7_passAll : VirM M7_passAll := ⟨tb_of 807 (by decide +kernel) rfl, tb_of 33 (by decide +kernel) rfl⟩
def M7_metal : mM := (yX7_metal, cX7_metal, 6, (some .int), 1, 22)
theorem cal7_metal : CalM M7_metal 2 := ⟨by decide, tb_of 828 (by decide +kernel) rfl, tb_of 59 (by decide +kernel) rfl, ⟨by decide +kernel, by decide +kernel⟩, by decide +kernel⟩
theorem vir7_metal : VirM M7_metal := ⟨tb_of 827 (by decide +kernel) rfl, tb_of 38 (by decide +kernel) rfl⟩
def M7_strength : mM := (yX7_strength, cX7_strength, 3, (some .int), 2, 47)
theorem cal7_strength : CalM M7_strength 1 := ⟨by decide, tb_of 824 (by decide +kernel) rfl, tb_of 59 (by decide +kernel) rfl, ⟨by decide +kernel, by decide +kernel⟩, by decide +kernel⟩
theorem vir7_strength : VirM M7_strength := ⟨tb_of 823 (by decide +kernel) rfl, tb_of 37 (by decide +kernel) rfl⟩
def M7_listen : mM := (yX7_listen, cX7_listen, 3, none, 3, 69)
theorem cal7_listen : CalM M7_listen 1 := ⟨by decide, tb_of 820 (by decide +kernel) rfl, tb_of 59 (by decide +kernel) rfl, ⟨by decide +kernel, by decide +kernel⟩, by decide +kernel⟩
theorem vir7_listen : VirM M7_listen := ⟨tb_of 819 (by decide +kernel) rfl, tb_of 36 (by decide +kernel) rfl⟩
def M7_listener : mM := (yX7_listener, cX7_listener, 1, (some .int), 0, 0)
theorem cal7_listener : CalM M7_listener 0 := ⟨by decide, tb_of 816 (by decide +kernel) rfl, tb_of 59 (by decide +kernel) rfl, ⟨by decide +kernel, by decide +kernel⟩, by decide +kernel⟩
theorem vir7_listener : VirM M7_listener := ⟨tb_of 815 (by decide +kernel) rfl, tb_of 35 (by decide +kernel) rfl⟩
def M7_pass : mM := (yX7_pass, cX7_pass, 3, none, 5, 114)
theorem cal7_pass : CalM M7_pass 1 := ⟨by decide, tb_of 792 (by decide +kernel) rfl, tb_of 59 (by decide +kernel) rfl, ⟨by decide +kernel, by decide +kernel⟩, by decide +kernel⟩
theorem vir7_pass : VirM M7_pass := ⟨tb_of 791 (by decide +kernel) rfl, tb_of 29 (by decide +kernel) rfl⟩
def M7_set : mM := (yX7_set, cX7_set, 4, (some .int), 1, 22)
theorem cal7_set : CalM M7_set 2 := ⟨by decide, tb_of 706 (by decide +kernel) rfl, tb_of 59 (by decide +kernel) rfl, ⟨by decide +kernel, by decide +kernel⟩, by decide +kernel⟩
theorem vir7_set : VirM M7_set := ⟨tb_of 704 (by decide +kernel) rfl, tb_of 705 (by decide +kernel) rfl⟩
def M7_areBounds : mM := (yX7_areBounds, cX7_areBounds, 2, (some .boolean), 1, 22)
theorem cal7_areBounds : CalM M7_areBounds 2 := ⟨by decide, tb_of 720 (by decide +kernel) rfl, tb_of 59 (by decide +kernel) rfl, ⟨by decide +kernel, by decide +kernel⟩, by decide +kernel⟩
theorem sta7_areBounds : Jvm.Cond.static M7_areBounds.1 ∈ TB := tb_of 719 (by decide +kernel) rfl
def M7_loop : mM := (yX7_loop, cX7_loop, 8, (some .int), 3, 67)
theorem cal7_loop : CalM M7_loop 5 := ⟨by decide, tb_of 717 (by decide +kernel) rfl, tb_of 59 (by decide +kernel) rfl, ⟨by decide +kernel, by decide +kernel⟩, by decide +kernel⟩
theorem vir7_loop : VirM M7_loop := ⟨tb_of 715 (by decide +kernel) rfl, tb_of 716 (by decide +kernel) rfl⟩
def M7_isLoop : mM := (yX7_isLoop, cX7_isLoop, 2, (some .boolean), 1, 22)
theorem cal7_isLoop : CalM M7_isLoop 1 := ⟨by decide, tb_of 756 (by decide +kernel) rfl, tb_of 59 (by decide +kernel) rfl, ⟨by decide +kernel, by decide +kernel⟩, by decide +kernel⟩
theorem vir7_isLoop : VirM M7_isLoop := ⟨tb_of 755 (by decide +kernel) rfl, tb_of 24 (by decide +kernel) rfl⟩
def M7_isCar : mM := (yX7_isCar, cX7_isCar, 2, (some .boolean), 1, 22)
theorem cal7_isCar : CalM M7_isCar 1 := ⟨by decide, tb_of 780 (by decide +kernel) rfl, tb_of 59 (by decide +kernel) rfl, ⟨by decide +kernel, by decide +kernel⟩, by decide +kernel⟩
theorem vir7_isCar : VirM M7_isCar := ⟨tb_of 779 (by decide +kernel) rfl, tb_of 28 (by decide +kernel) rfl⟩
def M7_bounds : mM := (yX7_bounds, cX7_bounds, 5, (some .int), 2, 43)
theorem cal7_bounds : CalM M7_bounds 3 := ⟨by decide, tb_of 752 (by decide +kernel) rfl, tb_of 59 (by decide +kernel) rfl, ⟨by decide +kernel, by decide +kernel⟩, by decide +kernel⟩
theorem vir7_bounds : VirM M7_bounds := ⟨tb_of 750 (by decide +kernel) rfl, tb_of 751 (by decide +kernel) rfl⟩
def M7_come : mM := (yX7_come, cX7_come, 6, (some .int), 4, 87)
theorem cal7_come : CalM M7_come 4 := ⟨by decide, tb_of 760 (by decide +kernel) rfl, tb_of 59 (by decide +kernel) rfl, ⟨by decide +kernel, by decide +kernel⟩, by decide +kernel⟩
theorem vir7_come : VirM M7_come := ⟨tb_of 758 (by decide +kernel) rfl, tb_of 759 (by decide +kernel) rfl⟩
def M7_want : mM := (yX7_want, cX7_want, 2, (some .int), 2, 43)
theorem cal7_want : CalM M7_want 1 := ⟨by decide, tb_of 776 (by decide +kernel) rfl, tb_of 59 (by decide +kernel) rfl, ⟨by decide +kernel, by decide +kernel⟩, by decide +kernel⟩
theorem vir7_want : VirM M7_want := ⟨tb_of 774 (by decide +kernel) rfl, tb_of 775 (by decide +kernel) rfl⟩
def M7_speed : mM := (yX7_speed, cX7_speed, 4, (some .int), 2, 43)
theorem cal7_speed : CalM M7_speed 2 := ⟨by decide, tb_of 784 (by decide +kernel) rfl, tb_of 59 (by decide +kernel) rfl, ⟨by decide +kernel, by decide +kernel⟩, by decide +kernel⟩
theorem vir7_speed : VirM M7_speed := ⟨tb_of 782 (by decide +kernel) rfl, tb_of 783 (by decide +kernel) rfl⟩
def M7_ticks : mM := (yX7_ticks, cX7_ticks, 3, (some .int), 6, 136)
theorem cal7_ticks : CalM M7_ticks 1 := ⟨by decide, tb_of 788 (by decide +kernel) rfl, tb_of 59 (by decide +kernel) rfl, ⟨by decide +kernel, by decide +kernel⟩, by decide +kernel⟩
theorem vir7_ticks : VirM M7_ticks := ⟨tb_of 786 (by decide +kernel) rfl, tb_of 787 (by decide +kernel) rfl⟩
def M7_ofCar : mM := (yX7_ofCar, cX7_ofCar, 3, (some .int), 4, 90)
theorem cal7_ofCar : CalM M7_ofCar 2 := ⟨by decide, tb_of 832 (by decide +kernel) rfl, tb_of 59 (by decide +kernel) rfl, ⟨by decide +kernel, by decide +kernel⟩, by decide +kernel⟩
theorem vir7_ofCar : VirM M7_ofCar := ⟨tb_of 830 (by decide +kernel) rfl, tb_of 831 (by decide +kernel) rfl⟩
def M7_ofLoop : mM := (yX7_ofLoop, cX7_ofLoop, 3, (some .int), 4, 87)
theorem cal7_ofLoop : CalM M7_ofLoop 2 := ⟨by decide, tb_of 836 (by decide +kernel) rfl, tb_of 59 (by decide +kernel) rfl, ⟨by decide +kernel, by decide +kernel⟩, by decide +kernel⟩
theorem vir7_ofLoop : VirM M7_ofLoop := ⟨tb_of 834 (by decide +kernel) rfl, tb_of 835 (by decide +kernel) rfl⟩
def M7_errorOf : mM := (yX7_errorOf, cX7_errorOf, 2, (some .int), 1, 22)
theorem cal7_errorOf : CalM M7_errorOf 1 := ⟨by decide, tb_of 844 (by decide +kernel) rfl, tb_of 59 (by decide +kernel) rfl, ⟨by decide +kernel, by decide +kernel⟩, by decide +kernel⟩
theorem vir7_errorOf : VirM M7_errorOf := ⟨tb_of 843 (by decide +kernel) rfl, tb_of 39 (by decide +kernel) rfl⟩
def M7_error : mM := (yX7_error, cX7_error, 2, (some .int), 2, 43)
theorem cal7_error : CalM M7_error 1 := ⟨by decide, tb_of 840 (by decide +kernel) rfl, tb_of 59 (by decide +kernel) rfl, ⟨by decide +kernel, by decide +kernel⟩, by decide +kernel⟩
theorem vir7_error : VirM M7_error := ⟨tb_of 838 (by decide +kernel) rfl, tb_of 839 (by decide +kernel) rfl⟩
def M7_carAt : mM := (yX7_carAt, cX7_carAt, 3, (some .int), 4, 87)
theorem cal7_carAt : CalM M7_carAt 2 := ⟨by decide, tb_of 848 (by decide +kernel) rfl, tb_of 59 (by decide +kernel) rfl, ⟨by decide +kernel, by decide +kernel⟩, by decide +kernel⟩
theorem vir7_carAt : VirM M7_carAt := ⟨tb_of 846 (by decide +kernel) rfl, tb_of 847 (by decide +kernel) rfl⟩
def M7_gone : mM := (yX7_gone, cX7_gone, 3, (some .int), 1, 22)
theorem cal7_gone : CalM M7_gone 0 := ⟨by decide, tb_of 856 (by decide +kernel) rfl, tb_of 59 (by decide +kernel) rfl, ⟨by decide +kernel, by decide +kernel⟩, by decide +kernel⟩
theorem vir7_gone : VirM M7_gone := ⟨tb_of 855 (by decide +kernel) rfl, tb_of 40 (by decide +kernel) rfl⟩
def M7_sum : mM := (yX7_sum, cX7_sum, 4, (some .int), 1, 22)
theorem cal7_sum : CalM M7_sum 1 := ⟨by decide, tb_of 860 (by decide +kernel) rfl, tb_of 59 (by decide +kernel) rfl, ⟨by decide +kernel, by decide +kernel⟩, by decide +kernel⟩
theorem vir7_sum : VirM M7_sum := ⟨tb_of 859 (by decide +kernel) rfl, tb_of 41 (by decide +kernel) rfl⟩
def M7_count : mM := (yX7_count, cX7_count, 2, (some .int), 2, 45)
theorem cal7_count : CalM M7_count 1 := ⟨by decide, tb_of 852 (by decide +kernel) rfl, tb_of 59 (by decide +kernel) rfl, ⟨by decide +kernel, by decide +kernel⟩, by decide +kernel⟩
theorem vir7_count : VirM M7_count := ⟨tb_of 850 (by decide +kernel) rfl, tb_of 851 (by decide +kernel) rfl⟩
def M7_inside : mM := (yX7_inside, cX7_inside, 3, (some .int), 2, 43)
theorem cal7_inside : CalM M7_inside 2 := ⟨by decide, tb_of 864 (by decide +kernel) rfl, tb_of 59 (by decide +kernel) rfl, ⟨by decide +kernel, by decide +kernel⟩, by decide +kernel⟩
theorem vir7_inside : VirM M7_inside := ⟨tb_of 862 (by decide +kernel) rfl, tb_of 863 (by decide +kernel) rfl⟩
def M7_counted : mM := (yX7_counted, cX7_counted, 5, (some .int), 6, 136)
theorem cal7_counted : CalM M7_counted 3 := ⟨by decide, tb_of 872 (by decide +kernel) rfl, tb_of 59 (by decide +kernel) rfl, ⟨by decide +kernel, by decide +kernel⟩, by decide +kernel⟩
theorem vir7_counted : VirM M7_counted := ⟨tb_of 871 (by decide +kernel) rfl, tb_of 42 (by decide +kernel) rfl⟩
def M7_countsIn : mM := (yX7_countsIn, cX7_countsIn, 3, (some .int), 7, 160)
theorem cal7_countsIn : CalM M7_countsIn 2 := ⟨by decide, tb_of 868 (by decide +kernel) rfl, tb_of 59 (by decide +kernel) rfl, ⟨by decide +kernel, by decide +kernel⟩, by decide +kernel⟩
theorem vir7_countsIn : VirM M7_countsIn := ⟨tb_of 866 (by decide +kernel) rfl, tb_of 867 (by decide +kernel) rfl⟩
def M7_countsAlone : mM := (yX7_countsAlone, cX7_countsAlone, 3, (some .int), 7, 160)
theorem cal7_countsAlone : CalM M7_countsAlone 2 := ⟨by decide, tb_of 884 (by decide +kernel) rfl, tb_of 59 (by decide +kernel) rfl, ⟨by decide +kernel, by decide +kernel⟩, by decide +kernel⟩
theorem vir7_countsAlone : VirM M7_countsAlone := ⟨tb_of 882 (by decide +kernel) rfl, tb_of 883 (by decide +kernel) rfl⟩
def M7_amount : mM := (yX7_amount, cX7_amount, 1, (some .int), 0, 0)
theorem cal7_amount : CalM M7_amount 1 := ⟨by decide, tb_of 891 (by decide +kernel) rfl, tb_of 59 (by decide +kernel) rfl, ⟨by decide +kernel, by decide +kernel⟩, by decide +kernel⟩
theorem sta7_amount : Jvm.Cond.static M7_amount.1 ∈ TB := tb_of 890 (by decide +kernel) rfl
def M7_bestUpper : mM := (yX7_bestUpper, cX7_bestUpper, 8, (some .int), 6, 136)
theorem cal7_bestUpper : CalM M7_bestUpper 2 := ⟨by decide, tb_of 888 (by decide +kernel) rfl, tb_of 59 (by decide +kernel) rfl, ⟨by decide +kernel, by decide +kernel⟩, by decide +kernel⟩
theorem vir7_bestUpper : VirM M7_bestUpper := ⟨tb_of 886 (by decide +kernel) rfl, tb_of 887 (by decide +kernel) rfl⟩
def M7_bestTurn : mM := (yX7_bestTurn, cX7_bestTurn, 7, (some .int), 6, 136)
theorem cal7_bestTurn : CalM M7_bestTurn 1 := ⟨by decide, tb_of 895 (by decide +kernel) rfl, tb_of 59 (by decide +kernel) rfl, ⟨by decide +kernel, by decide +kernel⟩, by decide +kernel⟩
theorem vir7_bestTurn : VirM M7_bestTurn := ⟨tb_of 893 (by decide +kernel) rfl, tb_of 894 (by decide +kernel) rfl⟩
def M7_goneIn : mM := (yX7_goneIn, cX7_goneIn, 4, (some .int), 6, 136)
theorem cal7_goneIn : CalM M7_goneIn 1 := ⟨by decide, tb_of 899 (by decide +kernel) rfl, tb_of 59 (by decide +kernel) rfl, ⟨by decide +kernel, by decide +kernel⟩, by decide +kernel⟩
theorem vir7_goneIn : VirM M7_goneIn := ⟨tb_of 897 (by decide +kernel) rfl, tb_of 898 (by decide +kernel) rfl⟩
def M7_sign : mM := (yX7_sign, cX7_sign, 1, (some .int), 0, 0)
theorem cal7_sign : CalM M7_sign 0 := ⟨by decide, tb_of 924 (by decide +kernel) rfl, tb_of 59 (by decide +kernel) rfl, ⟨by decide +kernel, by decide +kernel⟩, by decide +kernel⟩
theorem vir7_sign : VirM M7_sign := ⟨tb_of 923 (by decide +kernel) rfl, tb_of 47 (by decide +kernel) rfl⟩
def M7_one : mM := (yX7_one, cX7_one, 4, (some .int), 1, 22)
theorem cal7_one : CalM M7_one 2 := ⟨by decide, tb_of 928 (by decide +kernel) rfl, tb_of 59 (by decide +kernel) rfl, ⟨by decide +kernel, by decide +kernel⟩, by decide +kernel⟩
theorem vir7_one : VirM M7_one := ⟨tb_of 927 (by decide +kernel) rfl, tb_of 48 (by decide +kernel) rfl⟩
def M7_number : mM := (yX7_number, cX7_number, 2, (some .int), 2, 45)
theorem cal7_number : CalM M7_number 0 := ⟨by decide, tb_of 932 (by decide +kernel) rfl, tb_of 59 (by decide +kernel) rfl, ⟨by decide +kernel, by decide +kernel⟩, by decide +kernel⟩
theorem vir7_number : VirM M7_number := ⟨tb_of 931 (by decide +kernel) rfl, tb_of 49 (by decide +kernel) rfl⟩
def M7_readOne : mM := (yX7_readOne, cX7_readOne, 3, none, 3, 66)
theorem cal7_readOne : CalM M7_readOne 0 := ⟨by decide, tb_of 920 (by decide +kernel) rfl, tb_of 59 (by decide +kernel) rfl, ⟨by decide +kernel, by decide +kernel⟩, by decide +kernel⟩
theorem vir7_readOne : VirM M7_readOne := ⟨tb_of 919 (by decide +kernel) rfl, tb_of 46 (by decide +kernel) rfl⟩
def M7_faultOf : mM := (yX7_faultOf, cX7_faultOf, 1, (some .int), 4, 88)
theorem cal7_faultOf : CalM M7_faultOf 0 := ⟨by decide, tb_of 916 (by decide +kernel) rfl, tb_of 59 (by decide +kernel) rfl, ⟨by decide +kernel, by decide +kernel⟩, by decide +kernel⟩
theorem vir7_faultOf : VirM M7_faultOf := ⟨tb_of 915 (by decide +kernel) rfl, tb_of 45 (by decide +kernel) rfl⟩
def M7_put : mM := (yX7_put, cX7_put, 7, (some .int), 1, 22)
theorem cal7_put : CalM M7_put 1 := ⟨by decide, tb_of 903 (by decide +kernel) rfl, tb_of 59 (by decide +kernel) rfl, ⟨by decide +kernel, by decide +kernel⟩, by decide +kernel⟩
theorem vir7_put : VirM M7_put := ⟨tb_of 901 (by decide +kernel) rfl, tb_of 902 (by decide +kernel) rfl⟩
def M7_wipe : mM := (yX7_wipe, cX7_wipe, 2, (some .int), 0, 0)
theorem cal7_wipe : CalM M7_wipe 0 := ⟨by decide, tb_of 908 (by decide +kernel) rfl, tb_of 59 (by decide +kernel) rfl, ⟨by decide +kernel, by decide +kernel⟩, by decide +kernel⟩
theorem vir7_wipe : VirM M7_wipe := ⟨tb_of 906 (by decide +kernel) rfl, tb_of 907 (by decide +kernel) rfl⟩
def M7_fault : mM := (yX7_fault, cX7_fault, 1, (some .int), 5, 108)
theorem cal7_fault : CalM M7_fault 0 := ⟨by decide, tb_of 912 (by decide +kernel) rfl, tb_of 59 (by decide +kernel) rfl, ⟨by decide +kernel, by decide +kernel⟩, by decide +kernel⟩
theorem vir7_fault : VirM M7_fault := ⟨tb_of 910 (by decide +kernel) rfl, tb_of 911 (by decide +kernel) rfl⟩
def M7_carry : mM := (yX7_carry, cX7_carry, 3, (some .int), 7, 158)
theorem cal7_carry : CalM M7_carry 1 := ⟨by decide, tb_of 940 (by decide +kernel) rfl, tb_of 59 (by decide +kernel) rfl, ⟨by decide +kernel, by decide +kernel⟩, by decide +kernel⟩
theorem vir7_carry : VirM M7_carry := ⟨tb_of 939 (by decide +kernel) rfl, tb_of 50 (by decide +kernel) rfl⟩
def M7_carryOut : mM := (yX7_carryOut, cX7_carryOut, 2, (some .int), 8, 180)
theorem cal7_carryOut : CalM M7_carryOut 0 := ⟨by decide, tb_of 936 (by decide +kernel) rfl, tb_of 59 (by decide +kernel) rfl, ⟨by decide +kernel, by decide +kernel⟩, by decide +kernel⟩
theorem vir7_carryOut : VirM M7_carryOut := ⟨tb_of 934 (by decide +kernel) rfl, tb_of 935 (by decide +kernel) rfl⟩
def M7_undo : mM := (yX7_undo, cX7_undo, 2, (some .int), 0, 0)
theorem cal7_undo : CalM M7_undo 0 := ⟨by decide, tb_of 947 (by decide +kernel) rfl, tb_of 59 (by decide +kernel) rfl, ⟨by decide +kernel, by decide +kernel⟩, by decide +kernel⟩
theorem vir7_undo : VirM M7_undo := ⟨tb_of 945 (by decide +kernel) rfl, tb_of 946 (by decide +kernel) rfl⟩
def M7_save : mM := (yX7_save, cX7_save, 3, (some .int), 1, 22)
theorem cal7_save : CalM M7_save 1 := ⟨by decide, tb_of 951 (by decide +kernel) rfl, tb_of 59 (by decide +kernel) rfl, ⟨by decide +kernel, by decide +kernel⟩, by decide +kernel⟩
theorem vir7_save : VirM M7_save := ⟨tb_of 949 (by decide +kernel) rfl, tb_of 950 (by decide +kernel) rfl⟩
def M7_restore : mM := (yX7_restore, cX7_restore, 3, (some .int), 1, 22)
theorem cal7_restore : CalM M7_restore 1 := ⟨by decide, tb_of 955 (by decide +kernel) rfl, tb_of 59 (by decide +kernel) rfl, ⟨by decide +kernel, by decide +kernel⟩, by decide +kernel⟩
theorem vir7_restore : VirM M7_restore := ⟨tb_of 953 (by decide +kernel) rfl, tb_of 954 (by decide +kernel) rfl⟩
theorem cls0 : ClsF 5 0 RX0 TX0 := ⟨rfl, rfl, by decide +kernel, nmX0, tyX0, tyX0_ok⟩
theorem cls1 : ClsF 11 1 RX1 TX1 := ⟨rfl, rfl, by decide +kernel, nmX1, tyX1, tyX1_ok⟩
theorem cls2 : ClsF 6 2 RX2 TX2 := ⟨rfl, rfl, by decide +kernel, nmX2, tyX2, tyX2_ok⟩
theorem cls3 : ClsF 9 3 RX3 TX3 := ⟨rfl, rfl, by decide +kernel, nmX3, tyX3, tyX3_ok⟩
theorem cls4 : ClsF 0 4 RX4 TX4 := ⟨rfl, rfl, by decide +kernel, nmX4, tyX4, tyX4_ok⟩
theorem cls5 : ClsF 13 5 RX5 TX5 := ⟨rfl, rfl, by decide +kernel, nmX5, tyX5, tyX5_ok⟩
theorem cls6 : ClsF 7 6 RX6 TX6 := ⟨rfl, rfl, by decide +kernel, nmX6, tyX6, tyX6_ok⟩
theorem cls7 : ClsF 20 7 RX7 TX7 := ⟨rfl, rfl, by decide +kernel, nmX7, tyX7, tyX7_ok⟩
theorem mj_abs : Jvm.Cond.static Lib.Math.abs.name ∈ TB ∧ Jvm.Cond.initialized "java/lang/Math" ∈ TB ∧ Jvm.Cond.code Lib.Math.abs.name Lib.Math.abs.code 1 (some .int) ∈ TB := ⟨tb_of 548 (by decide +kernel) rfl, tb_of 60 (by decide +kernel) rfl, tb_of 549 (by decide +kernel) rfl⟩
theorem mj_min : Jvm.Cond.static Lib.Math.min.name ∈ TB ∧ Jvm.Cond.initialized "java/lang/Math" ∈ TB ∧ Jvm.Cond.code Lib.Math.min.name Lib.Math.min.code 2 (some .int) ∈ TB := ⟨tb_of 333 (by decide +kernel) rfl, tb_of 60 (by decide +kernel) rfl, tb_of 334 (by decide +kernel) rfl⟩
theorem cf1_note_18 : CfV M1_note M1_notedState 18 0 11 := ⟨cal1_notedState, vir1_notedState, tb_of 293 (by decide +kernel) rfl, ⟨by decide, by decide⟩, 1, TX1, rfl, rfl⟩
theorem cf1_note_22 : CfV M1_note M4_become 22 1 0 := ⟨cal4_become, vir4_become, tb_of 297 (by decide +kernel) rfl, ⟨by decide, by decide⟩, 4, TX4, rfl, rfl⟩
theorem cf1_stepBack_18 : CfV M1_stepBack M1_notedState 18 0 11 := ⟨cal1_notedState, vir1_notedState, tb_of 293 (by decide +kernel) rfl, ⟨by decide, by decide⟩, 1, TX1, rfl, rfl⟩
theorem cf1_stepBack_22 : CfV M1_stepBack M4_become 22 1 0 := ⟨cal4_become, vir4_become, tb_of 297 (by decide +kernel) rfl, ⟨by decide, by decide⟩, 4, TX4, rfl, rfl⟩
theorem cf3_append_15 : CfS M3_append M3_signsIn 15 1 := ⟨cal3_signsIn, sta3_signsIn, tb_of 572 (by decide +kernel) rfl, ⟨by decide, by decide⟩⟩
theorem cf3_beginsOrder_29 : CfV M3_beginsOrder M3_signAt 29 1 9 := ⟨cal3_signAt, vir3_signAt, tb_of 593 (by decide +kernel) rfl, ⟨by decide, by decide⟩, 3, TX3, rfl, rfl⟩
theorem cf3_digitAt_29 : CfV M3_digitAt M3_signAt 29 1 9 := ⟨cal3_signAt, vir3_signAt, tb_of 593 (by decide +kernel) rfl, ⟨by decide, by decide⟩, 3, TX3, rfl, rfl⟩
theorem cf3_dueAfter_25 : CfN M3_dueAfter M6_isWithin 25 3 RX6 := ⟨cal6_isWithin, sta6_isWithin, List.mem_of_getElem? (i := 0) rfl, ⟨by decide, by decide⟩⟩
theorem cf3_firstFault_29 : CfV M3_firstFault M3_signAt 29 1 9 := ⟨cal3_signAt, vir3_signAt, tb_of 593 (by decide +kernel) rfl, ⟨by decide, by decide⟩, 3, TX3, rfl, rfl⟩
theorem cf3_firstFault_36 : CfS M3_firstFault M3_dueAfter 36 2 := ⟨cal3_dueAfter, sta3_dueAfter, tb_of 597 (by decide +kernel) rfl, ⟨by decide, by decide⟩⟩
theorem cf3_numberAt_25 : CfN M3_numberAt M6_isWithin 25 3 RX6 := ⟨cal6_isWithin, sta6_isWithin, List.mem_of_getElem? (i := 0) rfl, ⟨by decide, by decide⟩⟩
theorem cf3_numberAt_33 : CfV M3_numberAt M3_digitAt 33 1 9 := ⟨cal3_digitAt, vir3_digitAt, tb_of 621 (by decide +kernel) rfl, ⟨by decide, by decide⟩, 3, TX3, rfl, rfl⟩
theorem cf3_signsIn_25 : CfN M3_signsIn M6_isWithin 25 3 RX6 := ⟨cal6_isWithin, sta6_isWithin, List.mem_of_getElem? (i := 0) rfl, ⟨by decide, by decide⟩⟩
theorem cf4_admitCar_102 : CfV M4_admitCar M4_take 102 3 0 := ⟨cal4_take, vir4_take, tb_of 383 (by decide +kernel) rfl, ⟨by decide, by decide⟩, 4, TX4, rfl, rfl⟩
theorem cf4_admitCar_50 : CfV M4_admitCar M4_carNumbered 50 1 0 := ⟨cal4_carNumbered, vir4_carNumbered, tb_of 301 (by decide +kernel) rfl, ⟨by decide, by decide⟩, 4, TX4, rfl, rfl⟩
theorem cf4_admitCar_65 : CfN M4_admitCar M6_isWithin 65 3 RX6 := ⟨cal6_isWithin, sta6_isWithin, List.mem_of_getElem? (i := 1) rfl, ⟨by decide, by decide⟩⟩
theorem cf4_admitCar_94 : CfV M4_admitCar M4_takerOf 94 2 0 := ⟨cal4_takerOf, vir4_takerOf, tb_of 375 (by decide +kernel) rfl, ⟨by decide, by decide⟩, 4, TX4, rfl, rfl⟩
theorem cf4_admitCar_98 : CfV M4_admitCar M0_arrive 98 4 5 := ⟨cal0_arrive, vir0_arrive, tb_of 379 (by decide +kernel) rfl, ⟨by decide, by decide⟩, 0, TX0, rfl, rfl⟩
theorem cf4_allAmounts_199 : CfV M4_allAmounts M2_falselyCounted 199 0 6 := ⟨cal2_falselyCounted, vir2_falselyCounted, tb_of 558 (by decide +kernel) rfl, ⟨by decide, by decide⟩, 2, TX2, rfl, rfl⟩
theorem cf4_allAmounts_58 : CfV M4_allAmounts M4_loopNumbered 58 1 0 := ⟨cal4_loopNumbered, vir4_loopNumbered, tb_of 309 (by decide +kernel) rfl, ⟨by decide, by decide⟩, 4, TX4, rfl, rfl⟩
theorem cf4_become_50 : CfV M4_become M4_carNumbered 50 1 0 := ⟨cal4_carNumbered, vir4_carNumbered, tb_of 301 (by decide +kernel) rfl, ⟨by decide, by decide⟩, 4, TX4, rfl, rfl⟩
theorem cf4_become_54 : CfV M4_become M0_become 54 1 5 := ⟨cal0_become, vir0_become, tb_of 305 (by decide +kernel) rfl, ⟨by decide, by decide⟩, 0, TX0, rfl, rfl⟩
theorem cf4_become_58 : CfV M4_become M4_loopNumbered 58 1 0 := ⟨cal4_loopNumbered, vir4_loopNumbered, tb_of 309 (by decide +kernel) rfl, ⟨by decide, by decide⟩, 4, TX4, rfl, rfl⟩
theorem cf4_become_62 : CfV M4_become M2_become 62 1 6 := ⟨cal2_become, vir2_become, tb_of 313 (by decide +kernel) rfl, ⟨by decide, by decide⟩, 2, TX2, rfl, rfl⟩
theorem cf4_carsGone_50 : CfV M4_carsGone M4_carNumbered 50 1 0 := ⟨cal4_carNumbered, vir4_carNumbered, tb_of 301 (by decide +kernel) rfl, ⟨by decide, by decide⟩, 4, TX4, rfl, rfl⟩
theorem cf4_changeBounds_58 : CfV M4_changeBounds M4_loopNumbered 58 1 0 := ⟨cal4_loopNumbered, vir4_loopNumbered, tb_of 309 (by decide +kernel) rfl, ⟨by decide, by decide⟩, 4, TX4, rfl, rfl⟩
theorem cf4_changeBounds_69 : CfN M4_changeBounds M6_areBounds 69 2 RX6 := ⟨cal6_areBounds, sta6_areBounds, List.mem_of_getElem? (i := 2) rfl, ⟨by decide, by decide⟩⟩
theorem cf4_changeLane_102 : CfV M4_changeLane M4_take 102 3 0 := ⟨cal4_take, vir4_take, tb_of 383 (by decide +kernel) rfl, ⟨by decide, by decide⟩, 4, TX4, rfl, rfl⟩
theorem cf4_changeLane_162 : CfV M4_changeLane M0_last 162 0 5 := ⟨cal0_last, vir0_last, tb_of 438 (by decide +kernel) rfl, ⟨by decide, by decide⟩, 0, TX0, rfl, rfl⟩
theorem cf4_changeSetting_65 : CfN M4_changeSetting M6_isWithin 65 3 RX6 := ⟨cal6_isWithin, sta6_isWithin, List.mem_of_getElem? (i := 1) rfl, ⟨by decide, by decide⟩⟩
theorem cf4_changeSpeed_50 : CfV M4_changeSpeed M4_carNumbered 50 1 0 := ⟨cal4_carNumbered, vir4_carNumbered, tb_of 301 (by decide +kernel) rfl, ⟨by decide, by decide⟩, 4, TX4, rfl, rfl⟩
theorem cf4_changeSpeed_65 : CfN M4_changeSpeed M6_isWithin 65 3 RX6 := ⟨cal6_isWithin, sta6_isWithin, List.mem_of_getElem? (i := 1) rfl, ⟨by decide, by decide⟩⟩
theorem cf4_countPassings_58 : CfV M4_countPassings M4_loopNumbered 58 1 0 := ⟨cal4_loopNumbered, vir4_loopNumbered, tb_of 309 (by decide +kernel) rfl, ⟨by decide, by decide⟩, 4, TX4, rfl, rfl⟩
theorem cf4_isFreeBeside_162 : CfV M4_isFreeBeside M0_last 162 0 5 := ⟨cal0_last, vir0_last, tb_of 438 (by decide +kernel) rfl, ⟨by decide, by decide⟩, 0, TX0, rfl, rfl⟩
theorem cf4_isFreeBeside_94 : CfV M4_isFreeBeside M4_takerOf 94 2 0 := ⟨cal4_takerOf, vir4_takerOf, tb_of 375 (by decide +kernel) rfl, ⟨by decide, by decide⟩, 4, TX4, rfl, rfl⟩
theorem cf4_layLoop_58 : CfV M4_layLoop M4_loopNumbered 58 1 0 := ⟨cal4_loopNumbered, vir4_loopNumbered, tb_of 309 (by decide +kernel) rfl, ⟨by decide, by decide⟩, 4, TX4, rfl, rfl⟩
theorem cf4_layLoop_65 : CfN M4_layLoop M6_isWithin 65 3 RX6 := ⟨cal6_isWithin, sta6_isWithin, List.mem_of_getElem? (i := 1) rfl, ⟨by decide, by decide⟩⟩
theorem cf4_layLoop_69 : CfN M4_layLoop M6_areBounds 69 2 RX6 := ⟨cal6_areBounds, sta6_areBounds, List.mem_of_getElem? (i := 2) rfl, ⟨by decide, by decide⟩⟩
theorem cf4_layLoop_73 : CfV M4_layLoop M2_lay 73 5 6 := ⟨cal2_lay, vir2_lay, tb_of 347 (by decide +kernel) rfl, ⟨by decide, by decide⟩, 2, TX2, rfl, rfl⟩
theorem cf4_layLoop_77 : CfV M4_layLoop M4_markCarsOver 77 2 0 := ⟨cal4_markCarsOver, vir4_markCarsOver, tb_of 351 (by decide +kernel) rfl, ⟨by decide, by decide⟩, 4, TX4, rfl, rfl⟩
theorem cf4_letPass_116 : CfN M4_letPass M6_isTicks 116 1 RX6 := ⟨cal6_isTicks, sta6_isTicks, List.mem_of_getElem? (i := 3) rfl, ⟨by decide, by decide⟩⟩
theorem cf4_letPass_120 : CfV M4_letPass M4_listener 120 0 0 := ⟨cal4_listener, vir4_listener, tb_of 414 (by decide +kernel) rfl, ⟨by decide, by decide⟩, 4, TX4, rfl, rfl⟩
theorem cf4_letPass_124 : CfV M4_letPass M4_passTick 124 1 0 := ⟨cal4_passTick, vir4_passTick, tb_of 418 (by decide +kernel) rfl, ⟨by decide, by decide⟩, 4, TX4, rfl, rfl⟩
theorem cf4_loopsUnder_58 : CfV M4_loopsUnder M4_loopNumbered 58 1 0 := ⟨cal4_loopNumbered, vir4_loopNumbered, tb_of 309 (by decide +kernel) rfl, ⟨by decide, by decide⟩, 4, TX4, rfl, rfl⟩
theorem cf4_loopsUnder_81 : CfV M4_loopsUnder M2_isUnder 81 1 6 := ⟨cal2_isUnder, vir2_isUnder, tb_of 355 (by decide +kernel) rfl, ⟨by decide, by decide⟩, 2, TX2, rfl, rfl⟩
theorem cf4_markCarsOver_50 : CfV M4_markCarsOver M4_carNumbered 50 1 0 := ⟨cal4_carNumbered, vir4_carNumbered, tb_of 301 (by decide +kernel) rfl, ⟨by decide, by decide⟩, 4, TX4, rfl, rfl⟩
theorem cf4_markCarsOver_81 : CfV M4_markCarsOver M2_isUnder 81 1 6 := ⟨cal2_isUnder, vir2_isUnder, tb_of 355 (by decide +kernel) rfl, ⟨by decide, by decide⟩, 2, TX2, rfl, rfl⟩
theorem cf4_metalIn_50 : CfV M4_metalIn M4_carNumbered 50 1 0 := ⟨cal4_carNumbered, vir4_carNumbered, tb_of 301 (by decide +kernel) rfl, ⟨by decide, by decide⟩, 4, TX4, rfl, rfl⟩
theorem cf4_metalIn_94 : CfV M4_metalIn M4_takerOf 94 2 0 := ⟨cal4_takerOf, vir4_takerOf, tb_of 375 (by decide +kernel) rfl, ⟨by decide, by decide⟩, 4, TX4, rfl, rfl⟩
theorem cf4_moveCar_102 : CfV M4_moveCar M4_take 102 3 0 := ⟨cal4_take, vir4_take, tb_of 383 (by decide +kernel) rfl, ⟨by decide, by decide⟩, 4, TX4, rfl, rfl⟩
theorem cf4_moveCar_150 : CfV M4_moveCar M4_isFreeBeside 150 1 0 := ⟨cal4_isFreeBeside, vir4_isFreeBeside, tb_of 434 (by decide +kernel) rfl, ⟨by decide, by decide⟩, 4, TX4, rfl, rfl⟩
theorem cf4_moveCar_153 : CfV M4_moveCar M4_changeLane 153 1 0 := ⟨cal4_changeLane, vir4_changeLane, tb_of 442 (by decide +kernel) rfl, ⟨by decide, by decide⟩, 4, TX4, rfl, rfl⟩
theorem cf4_moveCar_162 : CfV M4_moveCar M0_last 162 0 5 := ⟨cal0_last, vir0_last, tb_of 438 (by decide +kernel) rfl, ⟨by decide, by decide⟩, 0, TX0, rfl, rfl⟩
theorem cf4_moveCar_94 : CfV M4_moveCar M4_takerOf 94 2 0 := ⟨cal4_takerOf, vir4_takerOf, tb_of 375 (by decide +kernel) rfl, ⟨by decide, by decide⟩, 4, TX4, rfl, rfl⟩
theorem cf4_notePassings_171 : CfV M4_notePassings M4_loopsUnder 171 1 0 := ⟨cal4_loopsUnder, vir4_loopsUnder, tb_of 450 (by decide +kernel) rfl, ⟨by decide, by decide⟩, 4, TX4, rfl, rfl⟩
theorem cf4_notePassings_175 : CfV M4_notePassings M4_countPassings 175 1 0 := ⟨cal4_countPassings, vir4_countPassings, tb_of 454 (by decide +kernel) rfl, ⟨by decide, by decide⟩, 4, TX4, rfl, rfl⟩
theorem cf4_notePassings_50 : CfV M4_notePassings M4_carNumbered 50 1 0 := ⟨cal4_carNumbered, vir4_carNumbered, tb_of 301 (by decide +kernel) rfl, ⟨by decide, by decide⟩, 4, TX4, rfl, rfl⟩
theorem cf4_orderMovers_143 : CfV M4_orderMovers M4_insertMover 143 2 0 := ⟨cal4_insertMover, vir4_insertMover, tb_of 426 (by decide +kernel) rfl, ⟨by decide, by decide⟩, 4, TX4, rfl, rfl⟩
theorem cf4_orderMovers_50 : CfV M4_orderMovers M4_carNumbered 50 1 0 := ⟨cal4_carNumbered, vir4_carNumbered, tb_of 301 (by decide +kernel) rfl, ⟨by decide, by decide⟩, 4, TX4, rfl, rfl⟩
theorem cf4_passTick_127 : CfV M4_passTick M4_orderMovers 127 0 0 := ⟨cal4_orderMovers, vir4_orderMovers, tb_of 422 (by decide +kernel) rfl, ⟨by decide, by decide⟩, 4, TX4, rfl, rfl⟩
theorem cf4_passTick_130 : CfV M4_passTick M4_moveCar 130 1 0 := ⟨cal4_moveCar, vir4_moveCar, tb_of 430 (by decide +kernel) rfl, ⟨by decide, by decide⟩, 4, TX4, rfl, rfl⟩
theorem cf4_passTick_133 : CfV M4_passTick M4_notePassings 133 0 0 := ⟨cal4_notePassings, vir4_notePassings, tb_of 446 (by decide +kernel) rfl, ⟨by decide, by decide⟩, 4, TX4, rfl, rfl⟩
theorem cf4_passTick_136 : CfV M4_passTick M4_strengthOf 136 1 0 := ⟨cal4_strengthOf, vir4_strengthOf, tb_of 458 (by decide +kernel) rfl, ⟨by decide, by decide⟩, 4, TX4, rfl, rfl⟩
theorem cf4_passTick_140 : CfV M4_passTick M2_hear 140 1 6 := ⟨cal2_hear, vir2_hear, tb_of 466 (by decide +kernel) rfl, ⟨by decide, by decide⟩, 2, TX2, rfl, rfl⟩
theorem cf4_passTick_58 : CfV M4_passTick M4_loopNumbered 58 1 0 := ⟨cal4_loopNumbered, vir4_loopNumbered, tb_of 309 (by decide +kernel) rfl, ⟨by decide, by decide⟩, 4, TX4, rfl, rfl⟩
theorem cf4_strengthOf_182 : CfV M4_strengthOf M4_metalIn 182 2 0 := ⟨cal4_metalIn, vir4_metalIn, tb_of 462 (by decide +kernel) rfl, ⟨by decide, by decide⟩, 4, TX4, rfl, rfl⟩
theorem cf4_sumOfLoops_195 : CfV M4_sumOfLoops M2_about 195 1 6 := ⟨cal2_about, vir2_about, tb_of 516 (by decide +kernel) rfl, ⟨by decide, by decide⟩, 2, TX2, rfl, rfl⟩
theorem cf4_sumOfLoops_58 : CfV M4_sumOfLoops M4_loopNumbered 58 1 0 := ⟨cal4_loopNumbered, vir4_loopNumbered, tb_of 309 (by decide +kernel) rfl, ⟨by decide, by decide⟩, 4, TX4, rfl, rfl⟩
theorem cf4_turnWish_50 : CfV M4_turnWish M4_carNumbered 50 1 0 := ⟨cal4_carNumbered, vir4_carNumbered, tb_of 301 (by decide +kernel) rfl, ⟨by decide, by decide⟩, 4, TX4, rfl, rfl⟩
theorem cf5_giveBack_22 : CfV M5_giveBack M5_isSlot 22 1 13 := ⟨cal5_isSlot, vir5_isSlot, tb_of 638 (by decide +kernel) rfl, ⟨by decide, by decide⟩, 5, TX5, rfl, rfl⟩
theorem cf5_giveBack_26 : CfV M5_giveBack M4_become 26 1 0 := ⟨cal4_become, vir4_become, tb_of 642 (by decide +kernel) rfl, ⟨by decide, by decide⟩, 4, TX4, rfl, rfl⟩
theorem cf5_keep_22 : CfV M5_keep M5_isSlot 22 1 13 := ⟨cal5_isSlot, vir5_isSlot, tb_of 638 (by decide +kernel) rfl, ⟨by decide, by decide⟩, 5, TX5, rfl, rfl⟩
theorem cf5_keep_26 : CfV M5_keep M4_become 26 1 0 := ⟨cal4_become, vir4_become, tb_of 642 (by decide +kernel) rfl, ⟨by decide, by decide⟩, 4, TX4, rfl, rfl⟩
theorem cf6_areBounds_113 : CfS M6_areBounds M6_isWithin 113 3 := ⟨cal6_isWithin, sta6_isWithin, tb_of 346 (by decide +kernel) rfl, ⟨by decide, by decide⟩⟩
theorem cf6_bestTurn_154 : CfV M6_bestTurn M4_become 154 1 0 := ⟨cal4_become, vir4_become, tb_of 525 (by decide +kernel) rfl, ⟨by decide, by decide⟩, 4, TX4, rfl, rfl⟩
theorem cf6_bestTurn_157 : CfS M6_bestTurn M6_isTicks 157 1 := ⟨cal6_isTicks, sta6_isTicks, tb_of 526 (by decide +kernel) rfl, ⟨by decide, by decide⟩⟩
theorem cf6_bestTurn_196 : CfV M6_bestTurn M4_allAmounts 196 0 0 := ⟨cal4_allAmounts, vir4_allAmounts, tb_of 554 (by decide +kernel) rfl, ⟨by decide, by decide⟩, 4, TX4, rfl, rfl⟩
theorem cf6_bestTurn_81 : CfV M6_bestTurn M4_letPass 81 1 0 := ⟨cal4_letPass, vir4_letPass, tb_of 407 (by decide +kernel) rfl, ⟨by decide, by decide⟩, 4, TX4, rfl, rfl⟩
theorem cf6_bestUpper_100 : CfV M6_bestUpper M4_loopNumbered 100 1 0 := ⟨cal4_loopNumbered, vir4_loopNumbered, tb_of 484 (by decide +kernel) rfl, ⟨by decide, by decide⟩, 4, TX4, rfl, rfl⟩
theorem cf6_bestUpper_154 : CfV M6_bestUpper M4_become 154 1 0 := ⟨cal4_become, vir4_become, tb_of 525 (by decide +kernel) rfl, ⟨by decide, by decide⟩, 4, TX4, rfl, rfl⟩
theorem cf6_bestUpper_157 : CfS M6_bestUpper M6_isTicks 157 1 := ⟨cal6_isTicks, sta6_isTicks, tb_of 526 (by decide +kernel) rfl, ⟨by decide, by decide⟩⟩
theorem cf6_bestUpper_165 : CfV M6_bestUpper M6_hearTrial 165 3 7 := ⟨cal6_hearTrial, vir6_hearTrial, tb_of 536 (by decide +kernel) rfl, ⟨by decide, by decide⟩, 6, TX6, rfl, rfl⟩
theorem cf6_bestUpper_175 : CfV M6_bestUpper M6_countedWith 175 3 7 := ⟨cal6_countedWith, vir6_countedWith, tb_of 541 (by decide +kernel) rfl, ⟨by decide, by decide⟩, 6, TX6, rfl, rfl⟩
theorem cf6_bounds_51 : CfV M6_bounds M1_note 51 1 11 := ⟨cal1_note, vir1_note, tb_of 289 (by decide +kernel) rfl, ⟨by decide, by decide⟩, 1, TX1, rfl, rfl⟩
theorem cf6_bounds_59 : CfV M6_bounds M6_recorded 59 1 7 := ⟨cal6_recorded, vir6_recorded, tb_of 324 (by decide +kernel) rfl, ⟨by decide, by decide⟩, 6, TX6, rfl, rfl⟩
theorem cf6_bounds_67 : CfV M6_bounds M4_changeBounds 67 3 0 := ⟨cal4_changeBounds, vir4_changeBounds, tb_of 363 (by decide +kernel) rfl, ⟨by decide, by decide⟩, 4, TX4, rfl, rfl⟩
theorem cf6_carAt_113 : CfS M6_carAt M6_isWithin 113 3 := ⟨cal6_isWithin, sta6_isWithin, tb_of 346 (by decide +kernel) rfl, ⟨by decide, by decide⟩⟩
theorem cf6_carAt_117 : CfV M6_carAt M4_takerOf 117 2 0 := ⟨cal4_takerOf, vir4_takerOf, tb_of 502 (by decide +kernel) rfl, ⟨by decide, by decide⟩, 4, TX4, rfl, rfl⟩
theorem cf6_carryOut_207 : CfV M6_carryOut M3_empty 207 0 9 := ⟨cal3_empty, vir3_empty, tb_of 581 (by decide +kernel) rfl, ⟨by decide, by decide⟩, 3, TX3, rfl, rfl⟩
theorem cf6_carryOut_210 : CfV M6_carryOut M3_firstFault 210 0 9 := ⟨cal3_firstFault, vir3_firstFault, tb_of 589 (by decide +kernel) rfl, ⟨by decide, by decide⟩, 3, TX3, rfl, rfl⟩
theorem cf6_carryOut_213 : CfV M6_carryOut M3_beginsOrder 213 1 9 := ⟨cal3_beginsOrder, vir3_beginsOrder, tb_of 604 (by decide +kernel) rfl, ⟨by decide, by decide⟩, 3, TX3, rfl, rfl⟩
theorem cf6_carryOut_216 : CfV M6_carryOut M6_obey 216 1 7 := ⟨cal6_obey, vir6_obey, tb_of 608 (by decide +kernel) rfl, ⟨by decide, by decide⟩, 6, TX6, rfl, rfl⟩
theorem cf6_carryOut_51 : CfV M6_carryOut M1_note 51 1 11 := ⟨cal1_note, vir1_note, tb_of 289 (by decide +kernel) rfl, ⟨by decide, by decide⟩, 1, TX1, rfl, rfl⟩
theorem cf6_carryOut_59 : CfV M6_carryOut M6_recorded 59 1 7 := ⟨cal6_recorded, vir6_recorded, tb_of 324 (by decide +kernel) rfl, ⟨by decide, by decide⟩, 6, TX6, rfl, rfl⟩
theorem cf6_come_51 : CfV M6_come M1_note 51 1 11 := ⟨cal1_note, vir1_note, tb_of 289 (by decide +kernel) rfl, ⟨by decide, by decide⟩, 1, TX1, rfl, rfl⟩
theorem cf6_come_59 : CfV M6_come M6_recorded 59 1 7 := ⟨cal6_recorded, vir6_recorded, tb_of 324 (by decide +kernel) rfl, ⟨by decide, by decide⟩, 6, TX6, rfl, rfl⟩
theorem cf6_come_71 : CfV M6_come M4_admitCar 71 4 0 := ⟨cal4_admitCar, vir4_admitCar, tb_of 371 (by decide +kernel) rfl, ⟨by decide, by decide⟩, 4, TX4, rfl, rfl⟩
theorem cf6_count_130 : CfV M6_count M4_carsGone 130 0 0 := ⟨cal4_carsGone, vir4_carsGone, tb_of 507 (by decide +kernel) rfl, ⟨by decide, by decide⟩, 4, TX4, rfl, rfl⟩
theorem cf6_count_133 : CfV M6_count M4_listener 133 0 0 := ⟨cal4_listener, vir4_listener, tb_of 511 (by decide +kernel) rfl, ⟨by decide, by decide⟩, 4, TX4, rfl, rfl⟩
theorem cf6_count_136 : CfV M6_count M4_sumOfLoops 136 1 0 := ⟨cal4_sumOfLoops, vir4_sumOfLoops, tb_of 512 (by decide +kernel) rfl, ⟨by decide, by decide⟩, 4, TX4, rfl, rfl⟩
theorem cf6_countedWith_187 : CfV M6_countedWith M2_become 187 1 6 := ⟨cal2_become, vir2_become, tb_of 545 (by decide +kernel) rfl, ⟨by decide, by decide⟩, 2, TX2, rfl, rfl⟩
theorem cf6_countedWith_193 : CfV M6_countedWith M2_hear 193 1 6 := ⟨cal2_hear, vir2_hear, tb_of 546 (by decide +kernel) rfl, ⟨by decide, by decide⟩, 2, TX2, rfl, rfl⟩
theorem cf6_countsAlone_100 : CfV M6_countsAlone M4_loopNumbered 100 1 0 := ⟨cal4_loopNumbered, vir4_loopNumbered, tb_of 484 (by decide +kernel) rfl, ⟨by decide, by decide⟩, 4, TX4, rfl, rfl⟩
theorem cf6_countsAlone_154 : CfV M6_countsAlone M4_become 154 1 0 := ⟨cal4_become, vir4_become, tb_of 525 (by decide +kernel) rfl, ⟨by decide, by decide⟩, 4, TX4, rfl, rfl⟩
theorem cf6_countsAlone_157 : CfS M6_countsAlone M6_isTicks 157 1 := ⟨cal6_isTicks, sta6_isTicks, tb_of 526 (by decide +kernel) rfl, ⟨by decide, by decide⟩⟩
theorem cf6_countsAlone_161 : CfV M6_countsAlone M4_passTick 161 1 0 := ⟨cal4_passTick, vir4_passTick, tb_of 531 (by decide +kernel) rfl, ⟨by decide, by decide⟩, 4, TX4, rfl, rfl⟩
theorem cf6_countsIn_100 : CfV M6_countsIn M4_loopNumbered 100 1 0 := ⟨cal4_loopNumbered, vir4_loopNumbered, tb_of 484 (by decide +kernel) rfl, ⟨by decide, by decide⟩, 4, TX4, rfl, rfl⟩
theorem cf6_countsIn_154 : CfV M6_countsIn M4_become 154 1 0 := ⟨cal4_become, vir4_become, tb_of 525 (by decide +kernel) rfl, ⟨by decide, by decide⟩, 4, TX4, rfl, rfl⟩
theorem cf6_countsIn_157 : CfS M6_countsIn M6_isTicks 157 1 := ⟨cal6_isTicks, sta6_isTicks, tb_of 526 (by decide +kernel) rfl, ⟨by decide, by decide⟩⟩
theorem cf6_countsIn_81 : CfV M6_countsIn M4_letPass 81 1 0 := ⟨cal4_letPass, vir4_letPass, tb_of 407 (by decide +kernel) rfl, ⟨by decide, by decide⟩, 4, TX4, rfl, rfl⟩
theorem cf6_error_100 : CfV M6_error M4_loopNumbered 100 1 0 := ⟨cal4_loopNumbered, vir4_loopNumbered, tb_of 484 (by decide +kernel) rfl, ⟨by decide, by decide⟩, 4, TX4, rfl, rfl⟩
theorem cf6_error_109 : CfV M6_error M2_falselyCounted 109 0 6 := ⟨cal2_falselyCounted, vir2_falselyCounted, tb_of 494 (by decide +kernel) rfl, ⟨by decide, by decide⟩, 2, TX2, rfl, rfl⟩
theorem cf6_fault_210 : CfV M6_fault M3_firstFault 210 0 9 := ⟨cal3_firstFault, vir3_firstFault, tb_of 589 (by decide +kernel) rfl, ⟨by decide, by decide⟩, 3, TX3, rfl, rfl⟩
theorem cf6_goneIn_154 : CfV M6_goneIn M4_become 154 1 0 := ⟨cal4_become, vir4_become, tb_of 525 (by decide +kernel) rfl, ⟨by decide, by decide⟩, 4, TX4, rfl, rfl⟩
theorem cf6_goneIn_161 : CfV M6_goneIn M4_passTick 161 1 0 := ⟨cal4_passTick, vir4_passTick, tb_of 531 (by decide +kernel) rfl, ⟨by decide, by decide⟩, 4, TX4, rfl, rfl⟩
theorem cf6_goneIn_87 : CfV M6_goneIn M4_carNumbered 87 1 0 := ⟨cal4_carNumbered, vir4_carNumbered, tb_of 474 (by decide +kernel) rfl, ⟨by decide, by decide⟩, 4, TX4, rfl, rfl⟩
theorem cf6_hearTrial_104 : CfV M6_hearTrial M4_strengthOf 104 1 0 := ⟨cal4_strengthOf, vir4_strengthOf, tb_of 485 (by decide +kernel) rfl, ⟨by decide, by decide⟩, 4, TX4, rfl, rfl⟩
theorem cf6_hearTrial_133 : CfV M6_hearTrial M4_listener 133 0 0 := ⟨cal4_listener, vir4_listener, tb_of 511 (by decide +kernel) rfl, ⟨by decide, by decide⟩, 4, TX4, rfl, rfl⟩
theorem cf6_hearTrial_161 : CfV M6_hearTrial M4_passTick 161 1 0 := ⟨cal4_passTick, vir4_passTick, tb_of 531 (by decide +kernel) rfl, ⟨by decide, by decide⟩, 4, TX4, rfl, rfl⟩
theorem cf6_inside_100 : CfV M6_inside M4_loopNumbered 100 1 0 := ⟨cal4_loopNumbered, vir4_loopNumbered, tb_of 484 (by decide +kernel) rfl, ⟨by decide, by decide⟩, 4, TX4, rfl, rfl⟩
theorem cf6_isTicks_113 : CfS M6_isTicks M6_isWithin 113 3 := ⟨cal6_isWithin, sta6_isWithin, tb_of 346 (by decide +kernel) rfl, ⟨by decide, by decide⟩⟩
theorem cf6_loop_51 : CfV M6_loop M1_note 51 1 11 := ⟨cal1_note, vir1_note, tb_of 289 (by decide +kernel) rfl, ⟨by decide, by decide⟩, 1, TX1, rfl, rfl⟩
theorem cf6_loop_59 : CfV M6_loop M6_recorded 59 1 7 := ⟨cal6_recorded, vir6_recorded, tb_of 324 (by decide +kernel) rfl, ⟨by decide, by decide⟩, 6, TX6, rfl, rfl⟩
theorem cf6_loop_63 : CfV M6_loop M4_layLoop 63 5 0 := ⟨cal4_layLoop, vir4_layLoop, tb_of 339 (by decide +kernel) rfl, ⟨by decide, by decide⟩, 4, TX4, rfl, rfl⟩
theorem cf6_obey_219 : CfV M6_obey M3_signAt 219 1 9 := ⟨cal3_signAt, vir3_signAt, tb_of 612 (by decide +kernel) rfl, ⟨by decide, by decide⟩, 3, TX3, rfl, rfl⟩
theorem cf6_obey_222 : CfV M6_obey M3_digitAt 222 1 9 := ⟨cal3_digitAt, vir3_digitAt, tb_of 613 (by decide +kernel) rfl, ⟨by decide, by decide⟩, 3, TX3, rfl, rfl⟩
theorem cf6_obey_225 : CfV M6_obey M3_numberAt 225 1 9 := ⟨cal3_numberAt, vir3_numberAt, tb_of 617 (by decide +kernel) rfl, ⟨by decide, by decide⟩, 3, TX3, rfl, rfl⟩
theorem cf6_obey_71 : CfV M6_obey M4_admitCar 71 4 0 := ⟨cal4_admitCar, vir4_admitCar, tb_of 371 (by decide +kernel) rfl, ⟨by decide, by decide⟩, 4, TX4, rfl, rfl⟩
theorem cf6_obey_75 : CfV M6_obey M4_turnWish 75 1 0 := ⟨cal4_turnWish, vir4_turnWish, tb_of 391 (by decide +kernel) rfl, ⟨by decide, by decide⟩, 4, TX4, rfl, rfl⟩
theorem cf6_obey_81 : CfV M6_obey M4_letPass 81 1 0 := ⟨cal4_letPass, vir4_letPass, tb_of 407 (by decide +kernel) rfl, ⟨by decide, by decide⟩, 4, TX4, rfl, rfl⟩
theorem cf6_ofCar_87 : CfV M6_ofCar M4_carNumbered 87 1 0 := ⟨cal4_carNumbered, vir4_carNumbered, tb_of 474 (by decide +kernel) rfl, ⟨by decide, by decide⟩, 4, TX4, rfl, rfl⟩
theorem cf6_ofCar_91 : CfV M6_ofCar M4_loopsUnder 91 1 0 := ⟨cal4_loopsUnder, vir4_loopsUnder, tb_of 475 (by decide +kernel) rfl, ⟨by decide, by decide⟩, 4, TX4, rfl, rfl⟩
theorem cf6_ofCar_95 : CfV M6_ofCar M0_about 95 1 5 := ⟨cal0_about, vir0_about, tb_of 476 (by decide +kernel) rfl, ⟨by decide, by decide⟩, 0, TX0, rfl, rfl⟩
theorem cf6_ofLoop_100 : CfV M6_ofLoop M4_loopNumbered 100 1 0 := ⟨cal4_loopNumbered, vir4_loopNumbered, tb_of 484 (by decide +kernel) rfl, ⟨by decide, by decide⟩, 4, TX4, rfl, rfl⟩
theorem cf6_ofLoop_104 : CfV M6_ofLoop M4_strengthOf 104 1 0 := ⟨cal4_strengthOf, vir4_strengthOf, tb_of 485 (by decide +kernel) rfl, ⟨by decide, by decide⟩, 4, TX4, rfl, rfl⟩
theorem cf6_ofLoop_108 : CfV M6_ofLoop M2_about 108 1 6 := ⟨cal2_about, vir2_about, tb_of 486 (by decide +kernel) rfl, ⟨by decide, by decide⟩, 2, TX2, rfl, rfl⟩
theorem cf6_put_203 : CfV M6_put M3_append 203 1 9 := ⟨cal3_append, vir3_append, tb_of 568 (by decide +kernel) rfl, ⟨by decide, by decide⟩, 3, TX3, rfl, rfl⟩
theorem cf6_recorded_84 : CfV M6_recorded M1_keep 84 0 11 := ⟨cal1_keep, vir1_keep, tb_of 328 (by decide +kernel) rfl, ⟨by decide, by decide⟩, 1, TX1, rfl, rfl⟩
theorem cf6_restore_235 : CfV M6_restore M5_giveBack 235 2 13 := ⟨cal5_giveBack, vir5_giveBack, tb_of 647 (by decide +kernel) rfl, ⟨by decide, by decide⟩, 5, TX5, rfl, rfl⟩
theorem cf6_restore_51 : CfV M6_restore M1_note 51 1 11 := ⟨cal1_note, vir1_note, tb_of 289 (by decide +kernel) rfl, ⟨by decide, by decide⟩, 1, TX1, rfl, rfl⟩
theorem cf6_restore_59 : CfV M6_restore M6_recorded 59 1 7 := ⟨cal6_recorded, vir6_recorded, tb_of 324 (by decide +kernel) rfl, ⟨by decide, by decide⟩, 6, TX6, rfl, rfl⟩
theorem cf6_save_232 : CfV M6_save M5_keep 232 2 13 := ⟨cal5_keep, vir5_keep, tb_of 634 (by decide +kernel) rfl, ⟨by decide, by decide⟩, 5, TX5, rfl, rfl⟩
theorem cf6_set_51 : CfV M6_set M1_note 51 1 11 := ⟨cal1_note, vir1_note, tb_of 289 (by decide +kernel) rfl, ⟨by decide, by decide⟩, 1, TX1, rfl, rfl⟩
theorem cf6_set_55 : CfV M6_set M4_changeSetting 55 2 0 := ⟨cal4_changeSetting, vir4_changeSetting, tb_of 317 (by decide +kernel) rfl, ⟨by decide, by decide⟩, 4, TX4, rfl, rfl⟩
theorem cf6_set_59 : CfV M6_set M6_recorded 59 1 7 := ⟨cal6_recorded, vir6_recorded, tb_of 324 (by decide +kernel) rfl, ⟨by decide, by decide⟩, 6, TX6, rfl, rfl⟩
theorem cf6_speed_51 : CfV M6_speed M1_note 51 1 11 := ⟨cal1_note, vir1_note, tb_of 289 (by decide +kernel) rfl, ⟨by decide, by decide⟩, 1, TX1, rfl, rfl⟩
theorem cf6_speed_59 : CfV M6_speed M6_recorded 59 1 7 := ⟨cal6_recorded, vir6_recorded, tb_of 324 (by decide +kernel) rfl, ⟨by decide, by decide⟩, 6, TX6, rfl, rfl⟩
theorem cf6_speed_78 : CfV M6_speed M4_changeSpeed 78 2 0 := ⟨cal4_changeSpeed, vir4_changeSpeed, tb_of 399 (by decide +kernel) rfl, ⟨by decide, by decide⟩, 4, TX4, rfl, rfl⟩
theorem cf6_ticks_51 : CfV M6_ticks M1_note 51 1 11 := ⟨cal1_note, vir1_note, tb_of 289 (by decide +kernel) rfl, ⟨by decide, by decide⟩, 1, TX1, rfl, rfl⟩
theorem cf6_ticks_59 : CfV M6_ticks M6_recorded 59 1 7 := ⟨cal6_recorded, vir6_recorded, tb_of 324 (by decide +kernel) rfl, ⟨by decide, by decide⟩, 6, TX6, rfl, rfl⟩
theorem cf6_ticks_81 : CfV M6_ticks M4_letPass 81 1 0 := ⟨cal4_letPass, vir4_letPass, tb_of 407 (by decide +kernel) rfl, ⟨by decide, by decide⟩, 4, TX4, rfl, rfl⟩
theorem cf6_undo_228 : CfV M6_undo M1_stepBack 228 1 11 := ⟨cal1_stepBack, vir1_stepBack, tb_of 626 (by decide +kernel) rfl, ⟨by decide, by decide⟩, 1, TX1, rfl, rfl⟩
theorem cf6_want_51 : CfV M6_want M1_note 51 1 11 := ⟨cal1_note, vir1_note, tb_of 289 (by decide +kernel) rfl, ⟨by decide, by decide⟩, 1, TX1, rfl, rfl⟩
theorem cf6_want_59 : CfV M6_want M6_recorded 59 1 7 := ⟨cal6_recorded, vir6_recorded, tb_of 324 (by decide +kernel) rfl, ⟨by decide, by decide⟩, 6, TX6, rfl, rfl⟩
theorem cf6_want_75 : CfV M6_want M4_turnWish 75 1 0 := ⟨cal4_turnWish, vir4_turnWish, tb_of 391 (by decide +kernel) rfl, ⟨by decide, by decide⟩, 4, TX4, rfl, rfl⟩
theorem cf6_wipe_207 : CfV M6_wipe M3_empty 207 0 9 := ⟨cal3_empty, vir3_empty, tb_of 581 (by decide +kernel) rfl, ⟨by decide, by decide⟩, 3, TX3, rfl, rfl⟩
theorem cf7_areBounds_54 : CfS M7_areBounds M7_in 54 3 := ⟨cal7_in, sta7_in, tb_of 707 (by decide +kernel) rfl, ⟨by decide, by decide⟩⟩
theorem cf7_bestTurn_127 : CfV M7_bestTurn M7_pass 127 1 20 := ⟨cal7_pass, vir7_pass, tb_of 789 (by decide +kernel) rfl, ⟨by decide, by decide⟩, 7, TX7, rfl, rfl⟩
theorem cf7_bestTurn_130 : CfV M7_bestTurn M7_errorOf 130 1 20 := ⟨cal7_errorOf, vir7_errorOf, tb_of 841 (by decide +kernel) rfl, ⟨by decide, by decide⟩, 7, TX7, rfl, rfl⟩
theorem cf7_bestTurn_142 : CfV M7_bestTurn M7_keep 142 0 20 := ⟨cal7_keep, vir7_keep, tb_of 873 (by decide +kernel) rfl, ⟨by decide, by decide⟩, 7, TX7, rfl, rfl⟩
theorem cf7_bestTurn_145 : CfV M7_bestTurn M7_comeBack 145 0 20 := ⟨cal7_comeBack, vir7_comeBack, tb_of 877 (by decide +kernel) rfl, ⟨by decide, by decide⟩, 7, TX7, rfl, rfl⟩
theorem cf7_bestTurn_152 : CfS M7_bestTurn M7_amount 152 1 := ⟨cal7_amount, sta7_amount, tb_of 889 (by decide +kernel) rfl, ⟨by decide, by decide⟩⟩
theorem cf7_bestTurn_54 : CfS M7_bestTurn M7_in 54 3 := ⟨cal7_in, sta7_in, tb_of 707 (by decide +kernel) rfl, ⟨by decide, by decide⟩⟩
theorem cf7_bestUpper_121 : CfV M7_bestUpper M7_isLoop 121 1 20 := ⟨cal7_isLoop, vir7_isLoop, tb_of 753 (by decide +kernel) rfl, ⟨by decide, by decide⟩, 7, TX7, rfl, rfl⟩
theorem cf7_bestUpper_127 : CfV M7_bestUpper M7_pass 127 1 20 := ⟨cal7_pass, vir7_pass, tb_of 789 (by decide +kernel) rfl, ⟨by decide, by decide⟩, 7, TX7, rfl, rfl⟩
theorem cf7_bestUpper_130 : CfV M7_bestUpper M7_errorOf 130 1 20 := ⟨cal7_errorOf, vir7_errorOf, tb_of 841 (by decide +kernel) rfl, ⟨by decide, by decide⟩, 7, TX7, rfl, rfl⟩
theorem cf7_bestUpper_142 : CfV M7_bestUpper M7_keep 142 0 20 := ⟨cal7_keep, vir7_keep, tb_of 873 (by decide +kernel) rfl, ⟨by decide, by decide⟩, 7, TX7, rfl, rfl⟩
theorem cf7_bestUpper_145 : CfV M7_bestUpper M7_comeBack 145 0 20 := ⟨cal7_comeBack, vir7_comeBack, tb_of 877 (by decide +kernel) rfl, ⟨by decide, by decide⟩, 7, TX7, rfl, rfl⟩
theorem cf7_bestUpper_152 : CfS M7_bestUpper M7_amount 152 1 := ⟨cal7_amount, sta7_amount, tb_of 889 (by decide +kernel) rfl, ⟨by decide, by decide⟩⟩
theorem cf7_bestUpper_54 : CfS M7_bestUpper M7_in 54 3 := ⟨cal7_in, sta7_in, tb_of 707 (by decide +kernel) rfl, ⟨by decide, by decide⟩⟩
theorem cf7_bestUpper_84 : CfV M7_bestUpper M7_ofL 84 2 20 := ⟨cal7_ofL, vir7_ofL, tb_of 733 (by decide +kernel) rfl, ⟨by decide, by decide⟩, 7, TX7, rfl, rfl⟩
theorem cf7_bestUpper_93 : CfV M7_bestUpper M7_bookL 93 3 20 := ⟨cal7_bookL, vir7_bookL, tb_of 721 (by decide +kernel) rfl, ⟨by decide, by decide⟩, 7, TX7, rfl, rfl⟩
theorem cf7_bounds_115 : CfV M7_bounds M7_record 115 0 20 := ⟨cal7_record, vir7_record, tb_of 710 (by decide +kernel) rfl, ⟨by decide, by decide⟩, 7, TX7, rfl, rfl⟩
theorem cf7_bounds_118 : CfS M7_bounds M7_areBounds 118 2 := ⟨cal7_areBounds, sta7_areBounds, tb_of 718 (by decide +kernel) rfl, ⟨by decide, by decide⟩⟩
theorem cf7_bounds_121 : CfV M7_bounds M7_isLoop 121 1 20 := ⟨cal7_isLoop, vir7_isLoop, tb_of 753 (by decide +kernel) rfl, ⟨by decide, by decide⟩, 7, TX7, rfl, rfl⟩
theorem cf7_bounds_84 : CfV M7_bounds M7_ofL 84 2 20 := ⟨cal7_ofL, vir7_ofL, tb_of 733 (by decide +kernel) rfl, ⟨by decide, by decide⟩, 7, TX7, rfl, rfl⟩
theorem cf7_bounds_93 : CfV M7_bounds M7_bookL 93 3 20 := ⟨cal7_bookL, vir7_bookL, tb_of 721 (by decide +kernel) rfl, ⟨by decide, by decide⟩, 7, TX7, rfl, rfl⟩
theorem cf7_canChange_46 : CfV M7_canChange M7_ofC 46 2 20 := ⟨cal7_ofC, vir7_ofC, tb_of 725 (by decide +kernel) rfl, ⟨by decide, by decide⟩, 7, TX7, rfl, rfl⟩
theorem cf7_canChange_50 : CfV M7_canChange M7_lastCell 50 1 20 := ⟨cal7_lastCell, vir7_lastCell, tb_of 741 (by decide +kernel) rfl, ⟨by decide, by decide⟩, 7, TX7, rfl, rfl⟩
theorem cf7_canChange_66 : CfV M7_canChange M7_isFree 66 2 20 := ⟨cal7_isFree, vir7_isFree, tb_of 769 (by decide +kernel) rfl, ⟨by decide, by decide⟩, 7, TX7, rfl, rfl⟩
theorem cf7_carAt_54 : CfS M7_carAt M7_in 54 3 := ⟨cal7_in, sta7_in, tb_of 707 (by decide +kernel) rfl, ⟨by decide, by decide⟩⟩
theorem cf7_carAt_77 : CfV M7_carAt M7_layCells 77 0 20 := ⟨cal7_layCells, vir7_layCells, tb_of 761 (by decide +kernel) rfl, ⟨by decide, by decide⟩, 7, TX7, rfl, rfl⟩
theorem cf7_carry_181 : CfV M7_carry M7_come 181 4 20 := ⟨cal7_come, vir7_come, tb_of 941 (by decide +kernel) rfl, ⟨by decide, by decide⟩, 7, TX7, rfl, rfl⟩
theorem cf7_carry_185 : CfV M7_carry M7_want 185 1 20 := ⟨cal7_want, vir7_want, tb_of 942 (by decide +kernel) rfl, ⟨by decide, by decide⟩, 7, TX7, rfl, rfl⟩
theorem cf7_carry_188 : CfV M7_carry M7_ticks 188 1 20 := ⟨cal7_ticks, vir7_ticks, tb_of 943 (by decide +kernel) rfl, ⟨by decide, by decide⟩, 7, TX7, rfl, rfl⟩
theorem cf7_carryOut_115 : CfV M7_carryOut M7_record 115 0 20 := ⟨cal7_record, vir7_record, tb_of 710 (by decide +kernel) rfl, ⟨by decide, by decide⟩, 7, TX7, rfl, rfl⟩
theorem cf7_carryOut_178 : CfV M7_carryOut M7_faultOf 178 0 20 := ⟨cal7_faultOf, vir7_faultOf, tb_of 913 (by decide +kernel) rfl, ⟨by decide, by decide⟩, 7, TX7, rfl, rfl⟩
theorem cf7_carryOut_191 : CfV M7_carryOut M7_carry 191 1 20 := ⟨cal7_carry, vir7_carry, tb_of 937 (by decide +kernel) rfl, ⟨by decide, by decide⟩, 7, TX7, rfl, rfl⟩
theorem cf7_come_115 : CfV M7_come M7_record 115 0 20 := ⟨cal7_record, vir7_record, tb_of 710 (by decide +kernel) rfl, ⟨by decide, by decide⟩, 7, TX7, rfl, rfl⟩
theorem cf7_come_54 : CfS M7_come M7_in 54 3 := ⟨cal7_in, sta7_in, tb_of 707 (by decide +kernel) rfl, ⟨by decide, by decide⟩⟩
theorem cf7_come_66 : CfV M7_come M7_isFree 66 2 20 := ⟨cal7_isFree, vir7_isFree, tb_of 769 (by decide +kernel) rfl, ⟨by decide, by decide⟩, 7, TX7, rfl, rfl⟩
theorem cf7_come_73 : CfV M7_come M7_bookC 73 3 20 := ⟨cal7_bookC, vir7_bookC, tb_of 745 (by decide +kernel) rfl, ⟨by decide, by decide⟩, 7, TX7, rfl, rfl⟩
theorem cf7_come_77 : CfV M7_come M7_layCells 77 0 20 := ⟨cal7_layCells, vir7_layCells, tb_of 761 (by decide +kernel) rfl, ⟨by decide, by decide⟩, 7, TX7, rfl, rfl⟩
theorem cf7_count_108 : CfV M7_count M7_listener 108 0 20 := ⟨cal7_listener, vir7_listener, tb_of 813 (by decide +kernel) rfl, ⟨by decide, by decide⟩, 7, TX7, rfl, rfl⟩
theorem cf7_count_133 : CfV M7_count M7_gone 133 0 20 := ⟨cal7_gone, vir7_gone, tb_of 853 (by decide +kernel) rfl, ⟨by decide, by decide⟩, 7, TX7, rfl, rfl⟩
theorem cf7_count_136 : CfV M7_count M7_sum 136 1 20 := ⟨cal7_sum, vir7_sum, tb_of 857 (by decide +kernel) rfl, ⟨by decide, by decide⟩, 7, TX7, rfl, rfl⟩
theorem cf7_count_54 : CfS M7_count M7_in 54 3 := ⟨cal7_in, sta7_in, tb_of 707 (by decide +kernel) rfl, ⟨by decide, by decide⟩⟩
theorem cf7_counted_121 : CfV M7_counted M7_isLoop 121 1 20 := ⟨cal7_isLoop, vir7_isLoop, tb_of 753 (by decide +kernel) rfl, ⟨by decide, by decide⟩, 7, TX7, rfl, rfl⟩
theorem cf7_counted_127 : CfV M7_counted M7_pass 127 1 20 := ⟨cal7_pass, vir7_pass, tb_of 789 (by decide +kernel) rfl, ⟨by decide, by decide⟩, 7, TX7, rfl, rfl⟩
theorem cf7_counted_142 : CfV M7_counted M7_keep 142 0 20 := ⟨cal7_keep, vir7_keep, tb_of 873 (by decide +kernel) rfl, ⟨by decide, by decide⟩, 7, TX7, rfl, rfl⟩
theorem cf7_counted_145 : CfV M7_counted M7_comeBack 145 0 20 := ⟨cal7_comeBack, vir7_comeBack, tb_of 877 (by decide +kernel) rfl, ⟨by decide, by decide⟩, 7, TX7, rfl, rfl⟩
theorem cf7_counted_54 : CfS M7_counted M7_in 54 3 := ⟨cal7_in, sta7_in, tb_of 707 (by decide +kernel) rfl, ⟨by decide, by decide⟩⟩
theorem cf7_counted_84 : CfV M7_counted M7_ofL 84 2 20 := ⟨cal7_ofL, vir7_ofL, tb_of 733 (by decide +kernel) rfl, ⟨by decide, by decide⟩, 7, TX7, rfl, rfl⟩
theorem cf7_countsAlone_148 : CfV M7_countsAlone M7_counted 148 3 20 := ⟨cal7_counted, vir7_counted, tb_of 869 (by decide +kernel) rfl, ⟨by decide, by decide⟩, 7, TX7, rfl, rfl⟩
theorem cf7_countsIn_148 : CfV M7_countsIn M7_counted 148 3 20 := ⟨cal7_counted, vir7_counted, tb_of 869 (by decide +kernel) rfl, ⟨by decide, by decide⟩, 7, TX7, rfl, rfl⟩
theorem cf7_error_121 : CfV M7_error M7_isLoop 121 1 20 := ⟨cal7_isLoop, vir7_isLoop, tb_of 753 (by decide +kernel) rfl, ⟨by decide, by decide⟩, 7, TX7, rfl, rfl⟩
theorem cf7_error_130 : CfV M7_error M7_errorOf 130 1 20 := ⟨cal7_errorOf, vir7_errorOf, tb_of 841 (by decide +kernel) rfl, ⟨by decide, by decide⟩, 7, TX7, rfl, rfl⟩
theorem cf7_errorOf_84 : CfV M7_errorOf M7_ofL 84 2 20 := ⟨cal7_ofL, vir7_ofL, tb_of 733 (by decide +kernel) rfl, ⟨by decide, by decide⟩, 7, TX7, rfl, rfl⟩
theorem cf7_fault_178 : CfV M7_fault M7_faultOf 178 0 20 := ⟨cal7_faultOf, vir7_faultOf, tb_of 913 (by decide +kernel) rfl, ⟨by decide, by decide⟩, 7, TX7, rfl, rfl⟩
theorem cf7_faultOf_158 : CfV M7_faultOf M7_sign 158 0 20 := ⟨cal7_sign, vir7_sign, tb_of 921 (by decide +kernel) rfl, ⟨by decide, by decide⟩, 7, TX7, rfl, rfl⟩
theorem cf7_faultOf_173 : CfV M7_faultOf M7_readOne 173 0 20 := ⟨cal7_readOne, vir7_readOne, tb_of 917 (by decide +kernel) rfl, ⟨by decide, by decide⟩, 7, TX7, rfl, rfl⟩
theorem cf7_gone_46 : CfV M7_gone M7_ofC 46 2 20 := ⟨cal7_ofC, vir7_ofC, tb_of 725 (by decide +kernel) rfl, ⟨by decide, by decide⟩, 7, TX7, rfl, rfl⟩
theorem cf7_goneIn_124 : CfV M7_goneIn M7_isCar 124 1 20 := ⟨cal7_isCar, vir7_isCar, tb_of 777 (by decide +kernel) rfl, ⟨by decide, by decide⟩, 7, TX7, rfl, rfl⟩
theorem cf7_goneIn_127 : CfV M7_goneIn M7_pass 127 1 20 := ⟨cal7_pass, vir7_pass, tb_of 789 (by decide +kernel) rfl, ⟨by decide, by decide⟩, 7, TX7, rfl, rfl⟩
theorem cf7_goneIn_142 : CfV M7_goneIn M7_keep 142 0 20 := ⟨cal7_keep, vir7_keep, tb_of 873 (by decide +kernel) rfl, ⟨by decide, by decide⟩, 7, TX7, rfl, rfl⟩
theorem cf7_goneIn_145 : CfV M7_goneIn M7_comeBack 145 0 20 := ⟨cal7_comeBack, vir7_comeBack, tb_of 877 (by decide +kernel) rfl, ⟨by decide, by decide⟩, 7, TX7, rfl, rfl⟩
theorem cf7_goneIn_58 : CfV M7_goneIn M7_isOn 58 1 20 := ⟨cal7_isOn, vir7_isOn, tb_of 737 (by decide +kernel) rfl, ⟨by decide, by decide⟩, 7, TX7, rfl, rfl⟩
theorem cf7_inside_121 : CfV M7_inside M7_isLoop 121 1 20 := ⟨cal7_isLoop, vir7_isLoop, tb_of 753 (by decide +kernel) rfl, ⟨by decide, by decide⟩, 7, TX7, rfl, rfl⟩
theorem cf7_inside_84 : CfV M7_inside M7_ofL 84 2 20 := ⟨cal7_ofL, vir7_ofL, tb_of 733 (by decide +kernel) rfl, ⟨by decide, by decide⟩, 7, TX7, rfl, rfl⟩
theorem cf7_isCar_54 : CfS M7_isCar M7_in 54 3 := ⟨cal7_in, sta7_in, tb_of 707 (by decide +kernel) rfl, ⟨by decide, by decide⟩⟩
theorem cf7_isFree_54 : CfS M7_isFree M7_in 54 3 := ⟨cal7_in, sta7_in, tb_of 707 (by decide +kernel) rfl, ⟨by decide, by decide⟩⟩
theorem cf7_isLoop_54 : CfS M7_isLoop M7_in 54 3 := ⟨cal7_in, sta7_in, tb_of 707 (by decide +kernel) rfl, ⟨by decide, by decide⟩⟩
theorem cf7_isOn_46 : CfV M7_isOn M7_ofC 46 2 20 := ⟨cal7_ofC, vir7_ofC, tb_of 725 (by decide +kernel) rfl, ⟨by decide, by decide⟩, 7, TX7, rfl, rfl⟩
theorem cf7_isOver_46 : CfV M7_isOver M7_ofC 46 2 20 := ⟨cal7_ofC, vir7_ofC, tb_of 725 (by decide +kernel) rfl, ⟨by decide, by decide⟩, 7, TX7, rfl, rfl⟩
theorem cf7_isOver_50 : CfV M7_isOver M7_lastCell 50 1 20 := ⟨cal7_lastCell, vir7_lastCell, tb_of 741 (by decide +kernel) rfl, ⟨by decide, by decide⟩, 7, TX7, rfl, rfl⟩
theorem cf7_isOver_58 : CfV M7_isOver M7_isOn 58 1 20 := ⟨cal7_isOn, vir7_isOn, tb_of 737 (by decide +kernel) rfl, ⟨by decide, by decide⟩, 7, TX7, rfl, rfl⟩
theorem cf7_isOver_84 : CfV M7_isOver M7_ofL 84 2 20 := ⟨cal7_ofL, vir7_ofL, tb_of 733 (by decide +kernel) rfl, ⟨by decide, by decide⟩, 7, TX7, rfl, rfl⟩
theorem cf7_lastCell_46 : CfV M7_lastCell M7_ofC 46 2 20 := ⟨cal7_ofC, vir7_ofC, tb_of 725 (by decide +kernel) rfl, ⟨by decide, by decide⟩, 7, TX7, rfl, rfl⟩
theorem cf7_layCells_58 : CfV M7_layCells M7_isOn 58 1 20 := ⟨cal7_isOn, vir7_isOn, tb_of 737 (by decide +kernel) rfl, ⟨by decide, by decide⟩, 7, TX7, rfl, rfl⟩
theorem cf7_layCells_62 : CfV M7_layCells M7_mark 62 2 20 := ⟨cal7_mark, vir7_mark, tb_of 765 (by decide +kernel) rfl, ⟨by decide, by decide⟩, 7, TX7, rfl, rfl⟩
theorem cf7_listen_84 : CfV M7_listen M7_ofL 84 2 20 := ⟨cal7_ofL, vir7_ofL, tb_of 733 (by decide +kernel) rfl, ⟨by decide, by decide⟩, 7, TX7, rfl, rfl⟩
theorem cf7_listen_93 : CfV M7_listen M7_bookL 93 3 20 := ⟨cal7_bookL, vir7_bookL, tb_of 721 (by decide +kernel) rfl, ⟨by decide, by decide⟩, 7, TX7, rfl, rfl⟩
theorem cf7_listen_99 : CfV M7_listen M7_strength 99 1 20 := ⟨cal7_strength, vir7_strength, tb_of 821 (by decide +kernel) rfl, ⟨by decide, by decide⟩, 7, TX7, rfl, rfl⟩
theorem cf7_loop_115 : CfV M7_loop M7_record 115 0 20 := ⟨cal7_record, vir7_record, tb_of 710 (by decide +kernel) rfl, ⟨by decide, by decide⟩, 7, TX7, rfl, rfl⟩
theorem cf7_loop_118 : CfS M7_loop M7_areBounds 118 2 := ⟨cal7_areBounds, sta7_areBounds, tb_of 718 (by decide +kernel) rfl, ⟨by decide, by decide⟩⟩
theorem cf7_loop_46 : CfV M7_loop M7_ofC 46 2 20 := ⟨cal7_ofC, vir7_ofC, tb_of 725 (by decide +kernel) rfl, ⟨by decide, by decide⟩, 7, TX7, rfl, rfl⟩
theorem cf7_loop_54 : CfS M7_loop M7_in 54 3 := ⟨cal7_in, sta7_in, tb_of 707 (by decide +kernel) rfl, ⟨by decide, by decide⟩⟩
theorem cf7_loop_73 : CfV M7_loop M7_bookC 73 3 20 := ⟨cal7_bookC, vir7_bookC, tb_of 745 (by decide +kernel) rfl, ⟨by decide, by decide⟩, 7, TX7, rfl, rfl⟩
theorem cf7_loop_87 : CfV M7_loop M7_isOver 87 2 20 := ⟨cal7_isOver, vir7_isOver, tb_of 729 (by decide +kernel) rfl, ⟨by decide, by decide⟩, 7, TX7, rfl, rfl⟩
theorem cf7_loop_93 : CfV M7_loop M7_bookL 93 3 20 := ⟨cal7_bookL, vir7_bookL, tb_of 721 (by decide +kernel) rfl, ⟨by decide, by decide⟩, 7, TX7, rfl, rfl⟩
theorem cf7_mark_46 : CfV M7_mark M7_ofC 46 2 20 := ⟨cal7_ofC, vir7_ofC, tb_of 725 (by decide +kernel) rfl, ⟨by decide, by decide⟩, 7, TX7, rfl, rfl⟩
theorem cf7_mark_50 : CfV M7_mark M7_lastCell 50 1 20 := ⟨cal7_lastCell, vir7_lastCell, tb_of 741 (by decide +kernel) rfl, ⟨by decide, by decide⟩, 7, TX7, rfl, rfl⟩
theorem cf7_mark_54 : CfS M7_mark M7_in 54 3 := ⟨cal7_in, sta7_in, tb_of 707 (by decide +kernel) rfl, ⟨by decide, by decide⟩⟩
theorem cf7_metal_46 : CfV M7_metal M7_ofC 46 2 20 := ⟨cal7_ofC, vir7_ofC, tb_of 725 (by decide +kernel) rfl, ⟨by decide, by decide⟩, 7, TX7, rfl, rfl⟩
theorem cf7_metal_84 : CfV M7_metal M7_ofL 84 2 20 := ⟨cal7_ofL, vir7_ofL, tb_of 733 (by decide +kernel) rfl, ⟨by decide, by decide⟩, 7, TX7, rfl, rfl⟩
theorem cf7_move_46 : CfV M7_move M7_ofC 46 2 20 := ⟨cal7_ofC, vir7_ofC, tb_of 725 (by decide +kernel) rfl, ⟨by decide, by decide⟩, 7, TX7, rfl, rfl⟩
theorem cf7_move_50 : CfV M7_move M7_lastCell 50 1 20 := ⟨cal7_lastCell, vir7_lastCell, tb_of 741 (by decide +kernel) rfl, ⟨by decide, by decide⟩, 7, TX7, rfl, rfl⟩
theorem cf7_move_58 : CfV M7_move M7_isOn 58 1 20 := ⟨cal7_isOn, vir7_isOn, tb_of 737 (by decide +kernel) rfl, ⟨by decide, by decide⟩, 7, TX7, rfl, rfl⟩
theorem cf7_move_62 : CfV M7_move M7_mark 62 2 20 := ⟨cal7_mark, vir7_mark, tb_of 765 (by decide +kernel) rfl, ⟨by decide, by decide⟩, 7, TX7, rfl, rfl⟩
theorem cf7_move_66 : CfV M7_move M7_isFree 66 2 20 := ⟨cal7_isFree, vir7_isFree, tb_of 769 (by decide +kernel) rfl, ⟨by decide, by decide⟩, 7, TX7, rfl, rfl⟩
theorem cf7_move_70 : CfV M7_move M7_canChange 70 1 20 := ⟨cal7_canChange, vir7_canChange, tb_of 801 (by decide +kernel) rfl, ⟨by decide, by decide⟩, 7, TX7, rfl, rfl⟩
theorem cf7_move_73 : CfV M7_move M7_bookC 73 3 20 := ⟨cal7_bookC, vir7_bookC, tb_of 745 (by decide +kernel) rfl, ⟨by decide, by decide⟩, 7, TX7, rfl, rfl⟩
theorem cf7_moveAll_46 : CfV M7_moveAll M7_ofC 46 2 20 := ⟨cal7_ofC, vir7_ofC, tb_of 725 (by decide +kernel) rfl, ⟨by decide, by decide⟩, 7, TX7, rfl, rfl⟩
theorem cf7_moveAll_58 : CfV M7_moveAll M7_isOn 58 1 20 := ⟨cal7_isOn, vir7_isOn, tb_of 737 (by decide +kernel) rfl, ⟨by decide, by decide⟩, 7, TX7, rfl, rfl⟩
theorem cf7_moveAll_77 : CfV M7_moveAll M7_layCells 77 0 20 := ⟨cal7_layCells, vir7_layCells, tb_of 761 (by decide +kernel) rfl, ⟨by decide, by decide⟩, 7, TX7, rfl, rfl⟩
theorem cf7_moveAll_80 : CfV M7_moveAll M7_move 80 1 20 := ⟨cal7_move, vir7_move, tb_of 797 (by decide +kernel) rfl, ⟨by decide, by decide⟩, 7, TX7, rfl, rfl⟩
theorem cf7_number_158 : CfV M7_number M7_sign 158 0 20 := ⟨cal7_sign, vir7_sign, tb_of 921 (by decide +kernel) rfl, ⟨by decide, by decide⟩, 7, TX7, rfl, rfl⟩
theorem cf7_number_164 : CfV M7_number M7_one 164 2 20 := ⟨cal7_one, vir7_one, tb_of 925 (by decide +kernel) rfl, ⟨by decide, by decide⟩, 7, TX7, rfl, rfl⟩
theorem cf7_number_54 : CfS M7_number M7_in 54 3 := ⟨cal7_in, sta7_in, tb_of 707 (by decide +kernel) rfl, ⟨by decide, by decide⟩⟩
theorem cf7_ofCar_124 : CfV M7_ofCar M7_isCar 124 1 20 := ⟨cal7_isCar, vir7_isCar, tb_of 777 (by decide +kernel) rfl, ⟨by decide, by decide⟩, 7, TX7, rfl, rfl⟩
theorem cf7_ofCar_46 : CfV M7_ofCar M7_ofC 46 2 20 := ⟨cal7_ofC, vir7_ofC, tb_of 725 (by decide +kernel) rfl, ⟨by decide, by decide⟩, 7, TX7, rfl, rfl⟩
theorem cf7_ofCar_54 : CfS M7_ofCar M7_in 54 3 := ⟨cal7_in, sta7_in, tb_of 707 (by decide +kernel) rfl, ⟨by decide, by decide⟩⟩
theorem cf7_ofCar_90 : CfV M7_ofCar M7_overBy 90 1 20 := ⟨cal7_overBy, vir7_overBy, tb_of 809 (by decide +kernel) rfl, ⟨by decide, by decide⟩, 7, TX7, rfl, rfl⟩
theorem cf7_ofLoop_121 : CfV M7_ofLoop M7_isLoop 121 1 20 := ⟨cal7_isLoop, vir7_isLoop, tb_of 753 (by decide +kernel) rfl, ⟨by decide, by decide⟩, 7, TX7, rfl, rfl⟩
theorem cf7_ofLoop_54 : CfS M7_ofLoop M7_in 54 3 := ⟨cal7_in, sta7_in, tb_of 707 (by decide +kernel) rfl, ⟨by decide, by decide⟩⟩
theorem cf7_ofLoop_77 : CfV M7_ofLoop M7_layCells 77 0 20 := ⟨cal7_layCells, vir7_layCells, tb_of 761 (by decide +kernel) rfl, ⟨by decide, by decide⟩, 7, TX7, rfl, rfl⟩
theorem cf7_ofLoop_84 : CfV M7_ofLoop M7_ofL 84 2 20 := ⟨cal7_ofL, vir7_ofL, tb_of 733 (by decide +kernel) rfl, ⟨by decide, by decide⟩, 7, TX7, rfl, rfl⟩
theorem cf7_ofLoop_99 : CfV M7_ofLoop M7_strength 99 1 20 := ⟨cal7_strength, vir7_strength, tb_of 821 (by decide +kernel) rfl, ⟨by decide, by decide⟩, 7, TX7, rfl, rfl⟩
theorem cf7_one_158 : CfV M7_one M7_sign 158 0 20 := ⟨cal7_sign, vir7_sign, tb_of 921 (by decide +kernel) rfl, ⟨by decide, by decide⟩, 7, TX7, rfl, rfl⟩
theorem cf7_one_54 : CfS M7_one M7_in 54 3 := ⟨cal7_in, sta7_in, tb_of 707 (by decide +kernel) rfl, ⟨by decide, by decide⟩⟩
theorem cf7_overBy_87 : CfV M7_overBy M7_isOver 87 2 20 := ⟨cal7_isOver, vir7_isOver, tb_of 729 (by decide +kernel) rfl, ⟨by decide, by decide⟩, 7, TX7, rfl, rfl⟩
theorem cf7_pass_102 : CfV M7_pass M7_moveAll 102 0 20 := ⟨cal7_moveAll, vir7_moveAll, tb_of 793 (by decide +kernel) rfl, ⟨by decide, by decide⟩, 7, TX7, rfl, rfl⟩
theorem cf7_pass_105 : CfV M7_pass M7_passAll 105 0 20 := ⟨cal7_passAll, vir7_passAll, tb_of 805 (by decide +kernel) rfl, ⟨by decide, by decide⟩, 7, TX7, rfl, rfl⟩
theorem cf7_pass_108 : CfV M7_pass M7_listener 108 0 20 := ⟨cal7_listener, vir7_listener, tb_of 813 (by decide +kernel) rfl, ⟨by decide, by decide⟩, 7, TX7, rfl, rfl⟩
theorem cf7_pass_112 : CfV M7_pass M7_listen 112 1 20 := ⟨cal7_listen, vir7_listen, tb_of 817 (by decide +kernel) rfl, ⟨by decide, by decide⟩, 7, TX7, rfl, rfl⟩
theorem cf7_passAll_46 : CfV M7_passAll M7_ofC 46 2 20 := ⟨cal7_ofC, vir7_ofC, tb_of 725 (by decide +kernel) rfl, ⟨by decide, by decide⟩, 7, TX7, rfl, rfl⟩
theorem cf7_passAll_73 : CfV M7_passAll M7_bookC 73 3 20 := ⟨cal7_bookC, vir7_bookC, tb_of 745 (by decide +kernel) rfl, ⟨by decide, by decide⟩, 7, TX7, rfl, rfl⟩
theorem cf7_passAll_84 : CfV M7_passAll M7_ofL 84 2 20 := ⟨cal7_ofL, vir7_ofL, tb_of 733 (by decide +kernel) rfl, ⟨by decide, by decide⟩, 7, TX7, rfl, rfl⟩
theorem cf7_passAll_90 : CfV M7_passAll M7_overBy 90 1 20 := ⟨cal7_overBy, vir7_overBy, tb_of 809 (by decide +kernel) rfl, ⟨by decide, by decide⟩, 7, TX7, rfl, rfl⟩
theorem cf7_passAll_93 : CfV M7_passAll M7_bookL 93 3 20 := ⟨cal7_bookL, vir7_bookL, tb_of 721 (by decide +kernel) rfl, ⟨by decide, by decide⟩, 7, TX7, rfl, rfl⟩
theorem cf7_put_54 : CfS M7_put M7_in 54 3 := ⟨cal7_in, sta7_in, tb_of 707 (by decide +kernel) rfl, ⟨by decide, by decide⟩⟩
theorem cf7_readOne_158 : CfV M7_readOne M7_sign 158 0 20 := ⟨cal7_sign, vir7_sign, tb_of 921 (by decide +kernel) rfl, ⟨by decide, by decide⟩, 7, TX7, rfl, rfl⟩
theorem cf7_readOne_164 : CfV M7_readOne M7_one 164 2 20 := ⟨cal7_one, vir7_one, tb_of 925 (by decide +kernel) rfl, ⟨by decide, by decide⟩, 7, TX7, rfl, rfl⟩
theorem cf7_readOne_170 : CfV M7_readOne M7_number 170 0 20 := ⟨cal7_number, vir7_number, tb_of 929 (by decide +kernel) rfl, ⟨by decide, by decide⟩, 7, TX7, rfl, rfl⟩
theorem cf7_restore_115 : CfV M7_restore M7_record 115 0 20 := ⟨cal7_record, vir7_record, tb_of 710 (by decide +kernel) rfl, ⟨by decide, by decide⟩, 7, TX7, rfl, rfl⟩
theorem cf7_restore_54 : CfS M7_restore M7_in 54 3 := ⟨cal7_in, sta7_in, tb_of 707 (by decide +kernel) rfl, ⟨by decide, by decide⟩⟩
theorem cf7_save_54 : CfS M7_save M7_in 54 3 := ⟨cal7_in, sta7_in, tb_of 707 (by decide +kernel) rfl, ⟨by decide, by decide⟩⟩
theorem cf7_set_115 : CfV M7_set M7_record 115 0 20 := ⟨cal7_record, vir7_record, tb_of 710 (by decide +kernel) rfl, ⟨by decide, by decide⟩, 7, TX7, rfl, rfl⟩
theorem cf7_set_54 : CfS M7_set M7_in 54 3 := ⟨cal7_in, sta7_in, tb_of 707 (by decide +kernel) rfl, ⟨by decide, by decide⟩⟩
theorem cf7_speed_115 : CfV M7_speed M7_record 115 0 20 := ⟨cal7_record, vir7_record, tb_of 710 (by decide +kernel) rfl, ⟨by decide, by decide⟩, 7, TX7, rfl, rfl⟩
theorem cf7_speed_124 : CfV M7_speed M7_isCar 124 1 20 := ⟨cal7_isCar, vir7_isCar, tb_of 777 (by decide +kernel) rfl, ⟨by decide, by decide⟩, 7, TX7, rfl, rfl⟩
theorem cf7_speed_46 : CfV M7_speed M7_ofC 46 2 20 := ⟨cal7_ofC, vir7_ofC, tb_of 725 (by decide +kernel) rfl, ⟨by decide, by decide⟩, 7, TX7, rfl, rfl⟩
theorem cf7_speed_54 : CfS M7_speed M7_in 54 3 := ⟨cal7_in, sta7_in, tb_of 707 (by decide +kernel) rfl, ⟨by decide, by decide⟩⟩
theorem cf7_speed_58 : CfV M7_speed M7_isOn 58 1 20 := ⟨cal7_isOn, vir7_isOn, tb_of 737 (by decide +kernel) rfl, ⟨by decide, by decide⟩, 7, TX7, rfl, rfl⟩
theorem cf7_speed_73 : CfV M7_speed M7_bookC 73 3 20 := ⟨cal7_bookC, vir7_bookC, tb_of 745 (by decide +kernel) rfl, ⟨by decide, by decide⟩, 7, TX7, rfl, rfl⟩
theorem cf7_strength_84 : CfV M7_strength M7_ofL 84 2 20 := ⟨cal7_ofL, vir7_ofL, tb_of 733 (by decide +kernel) rfl, ⟨by decide, by decide⟩, 7, TX7, rfl, rfl⟩
theorem cf7_strength_96 : CfV M7_strength M7_metal 96 2 20 := ⟨cal7_metal, vir7_metal, tb_of 825 (by decide +kernel) rfl, ⟨by decide, by decide⟩, 7, TX7, rfl, rfl⟩
theorem cf7_sum_84 : CfV M7_sum M7_ofL 84 2 20 := ⟨cal7_ofL, vir7_ofL, tb_of 733 (by decide +kernel) rfl, ⟨by decide, by decide⟩, 7, TX7, rfl, rfl⟩
theorem cf7_ticks_115 : CfV M7_ticks M7_record 115 0 20 := ⟨cal7_record, vir7_record, tb_of 710 (by decide +kernel) rfl, ⟨by decide, by decide⟩, 7, TX7, rfl, rfl⟩
theorem cf7_ticks_127 : CfV M7_ticks M7_pass 127 1 20 := ⟨cal7_pass, vir7_pass, tb_of 789 (by decide +kernel) rfl, ⟨by decide, by decide⟩, 7, TX7, rfl, rfl⟩
theorem cf7_ticks_54 : CfS M7_ticks M7_in 54 3 := ⟨cal7_in, sta7_in, tb_of 707 (by decide +kernel) rfl, ⟨by decide, by decide⟩⟩
theorem cf7_want_115 : CfV M7_want M7_record 115 0 20 := ⟨cal7_record, vir7_record, tb_of 710 (by decide +kernel) rfl, ⟨by decide, by decide⟩, 7, TX7, rfl, rfl⟩
theorem cf7_want_124 : CfV M7_want M7_isCar 124 1 20 := ⟨cal7_isCar, vir7_isCar, tb_of 777 (by decide +kernel) rfl, ⟨by decide, by decide⟩, 7, TX7, rfl, rfl⟩
theorem cf7_want_46 : CfV M7_want M7_ofC 46 2 20 := ⟨cal7_ofC, vir7_ofC, tb_of 725 (by decide +kernel) rfl, ⟨by decide, by decide⟩, 7, TX7, rfl, rfl⟩
theorem cf7_want_58 : CfV M7_want M7_isOn 58 1 20 := ⟨cal7_isOn, vir7_isOn, tb_of 737 (by decide +kernel) rfl, ⟨by decide, by decide⟩, 7, TX7, rfl, rfl⟩
theorem cf7_want_73 : CfV M7_want M7_bookC 73 3 20 := ⟨cal7_bookC, vir7_bookC, tb_of 745 (by decide +kernel) rfl, ⟨by decide, by decide⟩, 7, TX7, rfl, rfl⟩
theorem f0_15 : FldF RX0 15 5 1 := ⟨0, RX0, TX0, cls0, by decide, tb_of 86 (by decide +kernel) rfl, rfl⟩
theorem f0_18 : FldF RX0 18 5 2 := ⟨0, RX0, TX0, cls0, by decide, tb_of 89 (by decide +kernel) rfl, rfl⟩
theorem f0_21 : FldF RX0 21 5 3 := ⟨0, RX0, TX0, cls0, by decide, tb_of 92 (by decide +kernel) rfl, rfl⟩
theorem f0_24 : FldF RX0 24 5 4 := ⟨0, RX0, TX0, cls0, by decide, tb_of 94 (by decide +kernel) rfl, rfl⟩
theorem f0_27 : FldF RX0 27 5 5 := ⟨0, RX0, TX0, cls0, by decide, tb_of 96 (by decide +kernel) rfl, rfl⟩
theorem f0_30 : FldF RX0 30 5 6 := ⟨0, RX0, TX0, cls0, by decide, tb_of 98 (by decide +kernel) rfl, rfl⟩
theorem f0_34 : FldF RX0 34 5 7 := ⟨0, RX0, TX0, cls0, by decide, tb_of 101 (by decide +kernel) rfl, rfl⟩
theorem f0_37 : FldF RX0 37 5 8 := ⟨0, RX0, TX0, cls0, by decide, tb_of 103 (by decide +kernel) rfl, rfl⟩
theorem f0_40 : FldF RX0 40 5 9 := ⟨0, RX0, TX0, cls0, by decide, tb_of 105 (by decide +kernel) rfl, rfl⟩
theorem f0_43 : FldF RX0 43 5 10 := ⟨0, RX0, TX0, cls0, by decide, tb_of 107 (by decide +kernel) rfl, rfl⟩
theorem f1_11 : FldF RX1 11 11 0 := ⟨1, RX1, TX1, cls1, by decide, tb_of 236 (by decide +kernel) rfl, rfl⟩
theorem f1_26 : FldF RX1 26 11 1 := ⟨1, RX1, TX1, cls1, by decide, tb_of 237 (by decide +kernel) rfl, rfl⟩
theorem f1_30 : FldF RX1 30 11 2 := ⟨1, RX1, TX1, cls1, by decide, tb_of 238 (by decide +kernel) rfl, rfl⟩
theorem f2_15 : FldF RX2 15 6 1 := ⟨2, RX2, TX2, cls2, by decide, tb_of 140 (by decide +kernel) rfl, rfl⟩
theorem f2_18 : FldF RX2 18 6 2 := ⟨2, RX2, TX2, cls2, by decide, tb_of 142 (by decide +kernel) rfl, rfl⟩
theorem f2_21 : FldF RX2 21 6 3 := ⟨2, RX2, TX2, cls2, by decide, tb_of 144 (by decide +kernel) rfl, rfl⟩
theorem f2_24 : FldF RX2 24 6 4 := ⟨2, RX2, TX2, cls2, by decide, tb_of 147 (by decide +kernel) rfl, rfl⟩
theorem f2_27 : FldF RX2 27 6 5 := ⟨2, RX2, TX2, cls2, by decide, tb_of 150 (by decide +kernel) rfl, rfl⟩
theorem f2_31 : FldF RX2 31 6 6 := ⟨2, RX2, TX2, cls2, by decide, tb_of 151 (by decide +kernel) rfl, rfl⟩
theorem f2_34 : FldF RX2 34 6 7 := ⟨2, RX2, TX2, cls2, by decide, tb_of 153 (by decide +kernel) rfl, rfl⟩
theorem f2_37 : FldF RX2 37 6 8 := ⟨2, RX2, TX2, cls2, by decide, tb_of 156 (by decide +kernel) rfl, rfl⟩
theorem f2_40 : FldF RX2 40 5 2 := ⟨0, RX0, TX0, cls0, by decide, tb_of 90 (by decide +kernel) rfl, rfl⟩
theorem f2_45 : FldF RX2 45 5 3 := ⟨0, RX0, TX0, cls0, by decide, tb_of 93 (by decide +kernel) rfl, rfl⟩
theorem f2_48 : FldF RX2 48 5 1 := ⟨0, RX0, TX0, cls0, by decide, tb_of 87 (by decide +kernel) rfl, rfl⟩
theorem f2_9 : FldF RX2 9 6 0 := ⟨2, RX2, TX2, cls2, by decide, tb_of 138 (by decide +kernel) rfl, rfl⟩
theorem f3_19 : FldF RX3 19 9 1 := ⟨3, RX3, TX3, cls3, by decide, tb_of 219 (by decide +kernel) rfl, rfl⟩
theorem f3_9 : FldF RX3 9 9 0 := ⟨3, RX3, TX3, cls3, by decide, tb_of 218 (by decide +kernel) rfl, rfl⟩
theorem f4_106 : FldF RX4 106 5 6 := ⟨0, RX0, TX0, cls0, by decide, tb_of 99 (by decide +kernel) rfl, rfl⟩
theorem f4_11 : FldF RX4 11 0 0 := ⟨4, RX4, TX4, cls4, by decide, tb_of 176 (by decide +kernel) rfl, rfl⟩
theorem f4_110 : FldF RX4 110 5 7 := ⟨0, RX0, TX0, cls0, by decide, tb_of 102 (by decide +kernel) rfl, rfl⟩
theorem f4_113 : FldF RX4 113 5 4 := ⟨0, RX0, TX0, cls0, by decide, tb_of 95 (by decide +kernel) rfl, rfl⟩
theorem f4_147 : FldF RX4 147 5 2 := ⟨0, RX0, TX0, cls0, by decide, tb_of 91 (by decide +kernel) rfl, rfl⟩
theorem f4_156 : FldF RX4 156 5 1 := ⟨0, RX0, TX0, cls0, by decide, tb_of 88 (by decide +kernel) rfl, rfl⟩
theorem f4_159 : FldF RX4 159 5 0 := ⟨0, RX0, TX0, cls0, by decide, tb_of 85 (by decide +kernel) rfl, rfl⟩
theorem f4_165 : FldF RX4 165 5 9 := ⟨0, RX0, TX0, cls0, by decide, tb_of 106 (by decide +kernel) rfl, rfl⟩
theorem f4_168 : FldF RX4 168 5 8 := ⟨0, RX0, TX0, cls0, by decide, tb_of 104 (by decide +kernel) rfl, rfl⟩
theorem f4_178 : FldF RX4 178 6 7 := ⟨2, RX2, TX2, cls2, by decide, tb_of 155 (by decide +kernel) rfl, rfl⟩
theorem f4_181 : FldF RX4 181 6 0 := ⟨2, RX2, TX2, cls2, by decide, tb_of 139 (by decide +kernel) rfl, rfl⟩
theorem f4_186 : FldF RX4 186 6 2 := ⟨2, RX2, TX2, cls2, by decide, tb_of 143 (by decide +kernel) rfl, rfl⟩
theorem f4_189 : FldF RX4 189 6 1 := ⟨2, RX2, TX2, cls2, by decide, tb_of 141 (by decide +kernel) rfl, rfl⟩
theorem f4_19 : FldF RX4 19 0 1 := ⟨4, RX4, TX4, cls4, by decide, tb_of 177 (by decide +kernel) rfl, rfl⟩
theorem f4_192 : FldF RX4 192 5 5 := ⟨0, RX0, TX0, cls0, by decide, tb_of 97 (by decide +kernel) rfl, rfl⟩
theorem f4_23 : FldF RX4 23 0 2 := ⟨4, RX4, TX4, cls4, by decide, tb_of 178 (by decide +kernel) rfl, rfl⟩
theorem f4_27 : FldF RX4 27 0 3 := ⟨4, RX4, TX4, cls4, by decide, tb_of 179 (by decide +kernel) rfl, rfl⟩
theorem f4_30 : FldF RX4 30 0 7 := ⟨4, RX4, TX4, cls4, by decide, tb_of 187 (by decide +kernel) rfl, rfl⟩
theorem f4_34 : FldF RX4 34 0 8 := ⟨4, RX4, TX4, cls4, by decide, tb_of 189 (by decide +kernel) rfl, rfl⟩
theorem f4_41 : FldF RX4 41 0 6 := ⟨4, RX4, TX4, cls4, by decide, tb_of 184 (by decide +kernel) rfl, rfl⟩
theorem f4_44 : FldF RX4 44 0 4 := ⟨4, RX4, TX4, cls4, by decide, tb_of 180 (by decide +kernel) rfl, rfl⟩
theorem f4_47 : FldF RX4 47 0 5 := ⟨4, RX4, TX4, cls4, by decide, tb_of 182 (by decide +kernel) rfl, rfl⟩
theorem f4_85 : FldF RX4 85 5 10 := ⟨0, RX0, TX0, cls0, by decide, tb_of 108 (by decide +kernel) rfl, rfl⟩
theorem f4_88 : FldF RX4 88 6 3 := ⟨2, RX2, TX2, cls2, by decide, tb_of 145 (by decide +kernel) rfl, rfl⟩
theorem f5_11 : FldF RX5 11 13 0 := ⟨5, RX5, TX5, cls5, by decide, tb_of 255 (by decide +kernel) rfl, rfl⟩
theorem f5_17 : FldF RX5 17 13 1 := ⟨5, RX5, TX5, cls5, by decide, tb_of 256 (by decide +kernel) rfl, rfl⟩
theorem f5_30 : FldF RX5 30 0 6 := ⟨4, RX4, TX4, cls4, by decide, tb_of 185 (by decide +kernel) rfl, rfl⟩
theorem f6_12 : FldF RX6 12 7 0 := ⟨6, RX6, TX6, cls6, by decide, tb_of 263 (by decide +kernel) rfl, rfl⟩
theorem f6_120 : FldF RX6 120 0 6 := ⟨4, RX4, TX4, cls4, by decide, tb_of 186 (by decide +kernel) rfl, rfl⟩
theorem f6_124 : FldF RX6 124 0 5 := ⟨4, RX4, TX4, cls4, by decide, tb_of 183 (by decide +kernel) rfl, rfl⟩
theorem f6_127 : FldF RX6 127 0 4 := ⟨4, RX4, TX4, cls4, by decide, tb_of 181 (by decide +kernel) rfl, rfl⟩
theorem f6_139 : FldF RX6 139 9 1 := ⟨3, RX3, TX3, cls3, by decide, tb_of 220 (by decide +kernel) rfl, rfl⟩
theorem f6_142 : FldF RX6 142 11 2 := ⟨1, RX1, TX1, cls1, by decide, tb_of 239 (by decide +kernel) rfl, rfl⟩
theorem f6_145 : FldF RX6 145 0 7 := ⟨4, RX4, TX4, cls4, by decide, tb_of 188 (by decide +kernel) rfl, rfl⟩
theorem f6_148 : FldF RX6 148 0 8 := ⟨4, RX4, TX4, cls4, by decide, tb_of 190 (by decide +kernel) rfl, rfl⟩
theorem f6_151 : FldF RX6 151 6 6 := ⟨2, RX2, TX2, cls2, by decide, tb_of 152 (by decide +kernel) rfl, rfl⟩
theorem f6_16 : FldF RX6 16 7 1 := ⟨6, RX6, TX6, cls6, by decide, tb_of 264 (by decide +kernel) rfl, rfl⟩
theorem f6_169 : FldF RX6 169 6 4 := ⟨2, RX2, TX2, cls2, by decide, tb_of 149 (by decide +kernel) rfl, rfl⟩
theorem f6_179 : FldF RX6 179 6 7 := ⟨2, RX2, TX2, cls2, by decide, tb_of 154 (by decide +kernel) rfl, rfl⟩
theorem f6_199 : FldF RX6 199 5 6 := ⟨0, RX0, TX0, cls0, by decide, tb_of 100 (by decide +kernel) rfl, rfl⟩
theorem f6_22 : FldF RX6 22 7 2 := ⟨6, RX6, TX6, cls6, by decide, tb_of 265 (by decide +kernel) rfl, rfl⟩
theorem f6_26 : FldF RX6 26 7 3 := ⟨6, RX6, TX6, cls6, by decide, tb_of 266 (by decide +kernel) rfl, rfl⟩
theorem f6_33 : FldF RX6 33 7 4 := ⟨6, RX6, TX6, cls6, by decide, tb_of 267 (by decide +kernel) rfl, rfl⟩
theorem f6_40 : FldF RX6 40 7 5 := ⟨6, RX6, TX6, cls6, by decide, tb_of 268 (by decide +kernel) rfl, rfl⟩
theorem f6_47 : FldF RX6 47 7 6 := ⟨6, RX6, TX6, cls6, by decide, tb_of 269 (by decide +kernel) rfl, rfl⟩
theorem f7_13 : FldF RX7 13 20 1 := ⟨7, RX7, TX7, cls7, by decide, tb_of 658 (by decide +kernel) rfl, rfl⟩
theorem f7_139 : FldF RX7 139 20 7 := ⟨7, RX7, TX7, cls7, by decide, tb_of 664 (by decide +kernel) rfl, rfl⟩
theorem f7_155 : FldF RX7 155 20 13 := ⟨7, RX7, TX7, cls7, by decide, tb_of 670 (by decide +kernel) rfl, rfl⟩
theorem f7_16 : FldF RX7 16 20 2 := ⟨7, RX7, TX7, cls7, by decide, tb_of 659 (by decide +kernel) rfl, rfl⟩
theorem f7_161 : FldF RX7 161 20 14 := ⟨7, RX7, TX7, cls7, by decide, tb_of 671 (by decide +kernel) rfl, rfl⟩
theorem f7_167 : FldF RX7 167 20 12 := ⟨7, RX7, TX7, cls7, by decide, tb_of 669 (by decide +kernel) rfl, rfl⟩
theorem f7_19 : FldF RX7 19 20 4 := ⟨7, RX7, TX7, cls7, by decide, tb_of 661 (by decide +kernel) rfl, rfl⟩
theorem f7_22 : FldF RX7 22 20 5 := ⟨7, RX7, TX7, cls7, by decide, tb_of 662 (by decide +kernel) rfl, rfl⟩
theorem f7_26 : FldF RX7 26 20 6 := ⟨7, RX7, TX7, cls7, by decide, tb_of 663 (by decide +kernel) rfl, rfl⟩
theorem f7_29 : FldF RX7 29 20 9 := ⟨7, RX7, TX7, cls7, by decide, tb_of 666 (by decide +kernel) rfl, rfl⟩
theorem f7_32 : FldF RX7 32 20 10 := ⟨7, RX7, TX7, cls7, by decide, tb_of 667 (by decide +kernel) rfl, rfl⟩
theorem f7_35 : FldF RX7 35 20 11 := ⟨7, RX7, TX7, cls7, by decide, tb_of 668 (by decide +kernel) rfl, rfl⟩
theorem f7_38 : FldF RX7 38 20 8 := ⟨7, RX7, TX7, cls7, by decide, tb_of 665 (by decide +kernel) rfl, rfl⟩
theorem f7_42 : FldF RX7 42 20 3 := ⟨7, RX7, TX7, cls7, by decide, tb_of 660 (by decide +kernel) rfl, rfl⟩
theorem f7_7 : FldF RX7 7 20 0 := ⟨7, RX7, TX7, cls7, by decide, tb_of 657 (by decide +kernel) rfl, rfl⟩
theorem ml1_33 : Jvm.Cond.methodLink RX1 33 Lib.Math.min.name ∈ TB := tb_of 332 (by decide +kernel) rfl
theorem ml4_202 : Jvm.Cond.methodLink RX4 202 Lib.Math.abs.name ∈ TB := tb_of 559 (by decide +kernel) rfl
theorem ml6_182 : Jvm.Cond.methodLink RX6 182 Lib.Math.abs.name ∈ TB := tb_of 547 (by decide +kernel) rfl
theorem p0_15 : PutF RX0 15 5 1 .int := ⟨0, RX0, TX0, cls0, by decide, tb_of 86 (by decide +kernel) rfl, rfl, rfl, by decide +kernel⟩
theorem p0_18 : PutF RX0 18 5 2 .int := ⟨0, RX0, TX0, cls0, by decide, tb_of 89 (by decide +kernel) rfl, rfl, rfl, by decide +kernel⟩
theorem p0_21 : PutF RX0 21 5 3 .int := ⟨0, RX0, TX0, cls0, by decide, tb_of 92 (by decide +kernel) rfl, rfl, rfl, by decide +kernel⟩
theorem p0_24 : PutF RX0 24 5 4 .int := ⟨0, RX0, TX0, cls0, by decide, tb_of 94 (by decide +kernel) rfl, rfl, rfl, by decide +kernel⟩
theorem p0_27 : PutF RX0 27 5 5 .int := ⟨0, RX0, TX0, cls0, by decide, tb_of 96 (by decide +kernel) rfl, rfl, rfl, by decide +kernel⟩
theorem p0_30 : PutF RX0 30 5 6 .boolean := ⟨0, RX0, TX0, cls0, by decide, tb_of 98 (by decide +kernel) rfl, rfl, rfl, by decide +kernel⟩
theorem p0_34 : PutF RX0 34 5 7 .boolean := ⟨0, RX0, TX0, cls0, by decide, tb_of 101 (by decide +kernel) rfl, rfl, rfl, by decide +kernel⟩
theorem p0_37 : PutF RX0 37 5 8 .int := ⟨0, RX0, TX0, cls0, by decide, tb_of 103 (by decide +kernel) rfl, rfl, rfl, by decide +kernel⟩
theorem p0_40 : PutF RX0 40 5 9 .int := ⟨0, RX0, TX0, cls0, by decide, tb_of 105 (by decide +kernel) rfl, rfl, rfl, by decide +kernel⟩
theorem p0_43 : PutF RX0 43 5 10 .int := ⟨0, RX0, TX0, cls0, by decide, tb_of 107 (by decide +kernel) rfl, rfl, rfl, by decide +kernel⟩
theorem p1_26 : PutF RX1 26 11 1 .int := ⟨1, RX1, TX1, cls1, by decide, tb_of 237 (by decide +kernel) rfl, rfl, rfl, by decide +kernel⟩
theorem p1_30 : PutF RX1 30 11 2 .int := ⟨1, RX1, TX1, cls1, by decide, tb_of 238 (by decide +kernel) rfl, rfl, rfl, by decide +kernel⟩
theorem p2_15 : PutF RX2 15 6 1 .int := ⟨2, RX2, TX2, cls2, by decide, tb_of 140 (by decide +kernel) rfl, rfl, rfl, by decide +kernel⟩
theorem p2_18 : PutF RX2 18 6 2 .int := ⟨2, RX2, TX2, cls2, by decide, tb_of 142 (by decide +kernel) rfl, rfl, rfl, by decide +kernel⟩
theorem p2_21 : PutF RX2 21 6 3 .int := ⟨2, RX2, TX2, cls2, by decide, tb_of 144 (by decide +kernel) rfl, rfl, rfl, by decide +kernel⟩
theorem p2_24 : PutF RX2 24 6 4 .int := ⟨2, RX2, TX2, cls2, by decide, tb_of 147 (by decide +kernel) rfl, rfl, rfl, by decide +kernel⟩
theorem p2_27 : PutF RX2 27 6 5 .boolean := ⟨2, RX2, TX2, cls2, by decide, tb_of 150 (by decide +kernel) rfl, rfl, rfl, by decide +kernel⟩
theorem p2_31 : PutF RX2 31 6 6 .int := ⟨2, RX2, TX2, cls2, by decide, tb_of 151 (by decide +kernel) rfl, rfl, rfl, by decide +kernel⟩
theorem p2_34 : PutF RX2 34 6 7 .int := ⟨2, RX2, TX2, cls2, by decide, tb_of 153 (by decide +kernel) rfl, rfl, rfl, by decide +kernel⟩
theorem p2_37 : PutF RX2 37 6 8 .int := ⟨2, RX2, TX2, cls2, by decide, tb_of 156 (by decide +kernel) rfl, rfl, rfl, by decide +kernel⟩
theorem p2_9 : PutF RX2 9 6 0 .int := ⟨2, RX2, TX2, cls2, by decide, tb_of 138 (by decide +kernel) rfl, rfl, rfl, by decide +kernel⟩
theorem p3_19 : PutF RX3 19 9 1 .int := ⟨3, RX3, TX3, cls3, by decide, tb_of 219 (by decide +kernel) rfl, rfl, rfl, by decide +kernel⟩
theorem p4_106 : PutF RX4 106 5 6 .boolean := ⟨0, RX0, TX0, cls0, by decide, tb_of 99 (by decide +kernel) rfl, rfl, rfl, by decide +kernel⟩
theorem p4_110 : PutF RX4 110 5 7 .boolean := ⟨0, RX0, TX0, cls0, by decide, tb_of 102 (by decide +kernel) rfl, rfl, rfl, by decide +kernel⟩
theorem p4_113 : PutF RX4 113 5 4 .int := ⟨0, RX0, TX0, cls0, by decide, tb_of 95 (by decide +kernel) rfl, rfl, rfl, by decide +kernel⟩
theorem p4_147 : PutF RX4 147 5 2 .int := ⟨0, RX0, TX0, cls0, by decide, tb_of 91 (by decide +kernel) rfl, rfl, rfl, by decide +kernel⟩
theorem p4_156 : PutF RX4 156 5 1 .int := ⟨0, RX0, TX0, cls0, by decide, tb_of 88 (by decide +kernel) rfl, rfl, rfl, by decide +kernel⟩
theorem p4_165 : PutF RX4 165 5 9 .int := ⟨0, RX0, TX0, cls0, by decide, tb_of 106 (by decide +kernel) rfl, rfl, rfl, by decide +kernel⟩
theorem p4_168 : PutF RX4 168 5 8 .int := ⟨0, RX0, TX0, cls0, by decide, tb_of 104 (by decide +kernel) rfl, rfl, rfl, by decide +kernel⟩
theorem p4_178 : PutF RX4 178 6 7 .int := ⟨2, RX2, TX2, cls2, by decide, tb_of 155 (by decide +kernel) rfl, rfl, rfl, by decide +kernel⟩
theorem p4_30 : PutF RX4 30 0 7 .int := ⟨4, RX4, TX4, cls4, by decide, tb_of 187 (by decide +kernel) rfl, rfl, rfl, by decide +kernel⟩
theorem p4_34 : PutF RX4 34 0 8 .int := ⟨4, RX4, TX4, cls4, by decide, tb_of 189 (by decide +kernel) rfl, rfl, rfl, by decide +kernel⟩
theorem p4_41 : PutF RX4 41 0 6 .int := ⟨4, RX4, TX4, cls4, by decide, tb_of 184 (by decide +kernel) rfl, rfl, rfl, by decide +kernel⟩
theorem p4_44 : PutF RX4 44 0 4 .int := ⟨4, RX4, TX4, cls4, by decide, tb_of 180 (by decide +kernel) rfl, rfl, rfl, by decide +kernel⟩
theorem p4_47 : PutF RX4 47 0 5 .int := ⟨4, RX4, TX4, cls4, by decide, tb_of 182 (by decide +kernel) rfl, rfl, rfl, by decide +kernel⟩
theorem p4_85 : PutF RX4 85 5 10 .int := ⟨0, RX0, TX0, cls0, by decide, tb_of 108 (by decide +kernel) rfl, rfl, rfl, by decide +kernel⟩
theorem p4_88 : PutF RX4 88 6 3 .int := ⟨2, RX2, TX2, cls2, by decide, tb_of 145 (by decide +kernel) rfl, rfl, rfl, by decide +kernel⟩
theorem p4_91 : PutF RX4 91 6 4 .int := ⟨2, RX2, TX2, cls2, by decide, tb_of 148 (by decide +kernel) rfl, rfl, rfl, by decide +kernel⟩
theorem p6_148 : PutF RX6 148 0 8 .int := ⟨4, RX4, TX4, cls4, by decide, tb_of 190 (by decide +kernel) rfl, rfl, rfl, by decide +kernel⟩
theorem p6_190 : PutF RX6 190 6 3 .int := ⟨2, RX2, TX2, cls2, by decide, tb_of 146 (by decide +kernel) rfl, rfl, rfl, by decide +kernel⟩
theorem p7_139 : PutF RX7 139 20 7 .int := ⟨7, RX7, TX7, cls7, by decide, tb_of 664 (by decide +kernel) rfl, rfl, rfl, by decide +kernel⟩
theorem p7_155 : PutF RX7 155 20 13 .int := ⟨7, RX7, TX7, cls7, by decide, tb_of 670 (by decide +kernel) rfl, rfl, rfl, by decide +kernel⟩
theorem p7_161 : PutF RX7 161 20 14 .boolean := ⟨7, RX7, TX7, cls7, by decide, tb_of 671 (by decide +kernel) rfl, rfl, rfl, by decide +kernel⟩
theorem p7_167 : PutF RX7 167 20 12 .int := ⟨7, RX7, TX7, cls7, by decide, tb_of 669 (by decide +kernel) rfl, rfl, rfl, by decide +kernel⟩
theorem p7_38 : PutF RX7 38 20 8 .boolean := ⟨7, RX7, TX7, cls7, by decide, tb_of 665 (by decide +kernel) rfl, rfl, rfl, by decide +kernel⟩
theorem p7_42 : PutF RX7 42 20 3 .int := ⟨7, RX7, TX7, cls7, by decide, tb_of 660 (by decide +kernel) rfl, rfl, rfl, by decide +kernel⟩
end
