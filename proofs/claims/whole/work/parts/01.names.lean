-- ===== PART A: goes FIRST, ahead of the names: the tables' words, and 'selects' of the private methods out of them =====
/-- a private method of a class that the tables say can be made, by its rows of tables_1 -/
def lw_okq (q : MethodName × Nat) : Prop := (q.1.cls ≠ "java/lang/invoke/MethodHandle" ∧ q.1.cls ≠ "java/lang/invoke/VarHandle") ∧ Cond.instantiable q.1.cls q.2 ∈ tables_1 ∧ Cond.privateMethod q.1 ∈ tables_1 ∧ Cond.instanceMethod q.1 ∈ tables_1
theorem lw_p0 : lw_okq (⟨"LoopListeners$History", "notedState", "()LLoopListeners$Road;"⟩, 3) := ⟨⟨by decide +kernel, by decide +kernel⟩, List.mem_of_getElem? (i := 177) (by decide +kernel), List.mem_of_getElem? (i := 243) (by decide +kernel), List.mem_of_getElem? (i := 244) (by decide +kernel)⟩
theorem lw_p1 : lw_okq (⟨"LoopListeners", "recorded", "(I)I"⟩, 7) := ⟨⟨by decide +kernel, by decide +kernel⟩, List.mem_of_getElem? (i := 11) (by decide +kernel), List.mem_of_getElem? (i := 274) (by decide +kernel), List.mem_of_getElem? (i := 275) (by decide +kernel)⟩
theorem lw_p2 : lw_okq (⟨"LoopListeners$Road", "markCarsOver", "(LLoopListeners$Loop;I)V"⟩, 9) := ⟨⟨by decide +kernel, by decide +kernel⟩, List.mem_of_getElem? (i := 19) (by decide +kernel), List.mem_of_getElem? (i := 301) (by decide +kernel), List.mem_of_getElem? (i := 302) (by decide +kernel)⟩
theorem lw_p3 : lw_okq (⟨"LoopListeners$Road", "take", "(III)V"⟩, 9) := ⟨⟨by decide +kernel, by decide +kernel⟩, List.mem_of_getElem? (i := 19) (by decide +kernel), List.mem_of_getElem? (i := 333) (by decide +kernel), List.mem_of_getElem? (i := 334) (by decide +kernel)⟩
theorem lw_p4 : lw_okq (⟨"LoopListeners$Road", "orderMovers", "()I"⟩, 9) := ⟨⟨by decide +kernel, by decide +kernel⟩, List.mem_of_getElem? (i := 19) (by decide +kernel), List.mem_of_getElem? (i := 372) (by decide +kernel), List.mem_of_getElem? (i := 373) (by decide +kernel)⟩
theorem lw_p5 : lw_okq (⟨"LoopListeners$Road", "insertMover", "(LLoopListeners$Car;I)V"⟩, 9) := ⟨⟨by decide +kernel, by decide +kernel⟩, List.mem_of_getElem? (i := 19) (by decide +kernel), List.mem_of_getElem? (i := 376) (by decide +kernel), List.mem_of_getElem? (i := 377) (by decide +kernel)⟩
theorem lw_p6 : lw_okq (⟨"LoopListeners$Road", "moveCar", "(LLoopListeners$Car;)V"⟩, 9) := ⟨⟨by decide +kernel, by decide +kernel⟩, List.mem_of_getElem? (i := 19) (by decide +kernel), List.mem_of_getElem? (i := 380) (by decide +kernel), List.mem_of_getElem? (i := 381) (by decide +kernel)⟩
theorem lw_p7 : lw_okq (⟨"LoopListeners$Road", "isFreeBeside", "(LLoopListeners$Car;)Z"⟩, 9) := ⟨⟨by decide +kernel, by decide +kernel⟩, List.mem_of_getElem? (i := 19) (by decide +kernel), List.mem_of_getElem? (i := 384) (by decide +kernel), List.mem_of_getElem? (i := 385) (by decide +kernel)⟩
theorem lw_p8 : lw_okq (⟨"LoopListeners$Road", "changeLane", "(LLoopListeners$Car;)V"⟩, 9) := ⟨⟨by decide +kernel, by decide +kernel⟩, List.mem_of_getElem? (i := 19) (by decide +kernel), List.mem_of_getElem? (i := 392) (by decide +kernel), List.mem_of_getElem? (i := 393) (by decide +kernel)⟩
theorem lw_p9 : lw_okq (⟨"LoopListeners$Road", "notePassings", "()V"⟩, 9) := ⟨⟨by decide +kernel, by decide +kernel⟩, List.mem_of_getElem? (i := 19) (by decide +kernel), List.mem_of_getElem? (i := 396) (by decide +kernel), List.mem_of_getElem? (i := 397) (by decide +kernel)⟩
theorem lw_p10 : lw_okq (⟨"LoopListeners$Road", "countPassings", "(I)V"⟩, 9) := ⟨⟨by decide +kernel, by decide +kernel⟩, List.mem_of_getElem? (i := 19) (by decide +kernel), List.mem_of_getElem? (i := 404) (by decide +kernel), List.mem_of_getElem? (i := 405) (by decide +kernel)⟩
theorem lw_p11 : lw_okq (⟨"LoopListeners$Road", "metalIn", "(ILLoopListeners$Loop;)I"⟩, 9) := ⟨⟨by decide +kernel, by decide +kernel⟩, List.mem_of_getElem? (i := 19) (by decide +kernel), List.mem_of_getElem? (i := 412) (by decide +kernel), List.mem_of_getElem? (i := 413) (by decide +kernel)⟩
theorem lw_p12 : lw_okq (⟨"LoopListeners", "hearTrial", "(ILLoopListeners$Loop;I)I"⟩, 7) := ⟨⟨by decide +kernel, by decide +kernel⟩, List.mem_of_getElem? (i := 11) (by decide +kernel), List.mem_of_getElem? (i := 486) (by decide +kernel), List.mem_of_getElem? (i := 487) (by decide +kernel)⟩
theorem lw_p13 : lw_okq (⟨"LoopListeners", "countedWith", "(LLoopListeners$Loop;II)I"⟩, 7) := ⟨⟨by decide +kernel, by decide +kernel⟩, List.mem_of_getElem? (i := 11) (by decide +kernel), List.mem_of_getElem? (i := 491) (by decide +kernel), List.mem_of_getElem? (i := 492) (by decide +kernel)⟩
theorem lw_p14 : lw_okq (⟨"LoopListeners", "obey", "(I)I"⟩, 7) := ⟨⟨by decide +kernel, by decide +kernel⟩, List.mem_of_getElem? (i := 11) (by decide +kernel), List.mem_of_getElem? (i := 558) (by decide +kernel), List.mem_of_getElem? (i := 559) (by decide +kernel)⟩
theorem lw_p15 : lw_okq (⟨"LoopListeners$Slots", "isSlot", "(I)Z"⟩, 2) := ⟨⟨by decide +kernel, by decide +kernel⟩, List.mem_of_getElem? (i := 197) (by decide +kernel), List.mem_of_getElem? (i := 588) (by decide +kernel), List.mem_of_getElem? (i := 589) (by decide +kernel)⟩
def lw_privs_1 : List (MethodName × Nat) := [(⟨"LoopListeners$History", "notedState", "()LLoopListeners$Road;"⟩, 3), (⟨"LoopListeners", "recorded", "(I)I"⟩, 7), (⟨"LoopListeners$Road", "markCarsOver", "(LLoopListeners$Loop;I)V"⟩, 9), (⟨"LoopListeners$Road", "take", "(III)V"⟩, 9), (⟨"LoopListeners$Road", "orderMovers", "()I"⟩, 9), (⟨"LoopListeners$Road", "insertMover", "(LLoopListeners$Car;I)V"⟩, 9), (⟨"LoopListeners$Road", "moveCar", "(LLoopListeners$Car;)V"⟩, 9), (⟨"LoopListeners$Road", "isFreeBeside", "(LLoopListeners$Car;)Z"⟩, 9), (⟨"LoopListeners$Road", "changeLane", "(LLoopListeners$Car;)V"⟩, 9), (⟨"LoopListeners$Road", "notePassings", "()V"⟩, 9), (⟨"LoopListeners$Road", "countPassings", "(I)V"⟩, 9), (⟨"LoopListeners$Road", "metalIn", "(ILLoopListeners$Loop;)I"⟩, 9), (⟨"LoopListeners", "hearTrial", "(ILLoopListeners$Loop;I)I"⟩, 7), (⟨"LoopListeners", "countedWith", "(LLoopListeners$Loop;II)I"⟩, 7), (⟨"LoopListeners", "obey", "(I)I"⟩, 7), (⟨"LoopListeners$Slots", "isSlot", "(I)Z"⟩, 2)]
theorem lw_r1 : ∀ q ∈ lw_privs_1, lw_okq q := List.forall_mem_cons.mpr ⟨lw_p0, List.forall_mem_cons.mpr ⟨lw_p1, List.forall_mem_cons.mpr ⟨lw_p2, List.forall_mem_cons.mpr ⟨lw_p3, List.forall_mem_cons.mpr ⟨lw_p4, List.forall_mem_cons.mpr ⟨lw_p5, List.forall_mem_cons.mpr ⟨lw_p6, List.forall_mem_cons.mpr ⟨lw_p7, List.forall_mem_cons.mpr ⟨lw_p8, List.forall_mem_cons.mpr ⟨lw_p9, List.forall_mem_cons.mpr ⟨lw_p10, List.forall_mem_cons.mpr ⟨lw_p11, List.forall_mem_cons.mpr ⟨lw_p12, List.forall_mem_cons.mpr ⟨lw_p13, List.forall_mem_cons.mpr ⟨lw_p14, List.forall_mem_cons.mpr ⟨lw_p15, fun _ h => absurd h List.not_mem_nil⟩⟩⟩⟩⟩⟩⟩⟩⟩⟩⟩⟩⟩⟩⟩⟩
theorem lw_p16 : lw_okq (⟨"LoopListenersModel", "record", "()V"⟩, 15) := ⟨⟨by decide +kernel, by decide +kernel⟩, List.mem_of_getElem? (i := 601) (by decide +kernel), List.mem_of_getElem? (i := 660) (by decide +kernel), List.mem_of_getElem? (i := 661) (by decide +kernel)⟩
theorem lw_p17 : lw_okq (⟨"LoopListenersModel", "bookL", "(III)V"⟩, 15) := ⟨⟨by decide +kernel, by decide +kernel⟩, List.mem_of_getElem? (i := 601) (by decide +kernel), List.mem_of_getElem? (i := 671) (by decide +kernel), List.mem_of_getElem? (i := 672) (by decide +kernel)⟩
theorem lw_p18 : lw_okq (⟨"LoopListenersModel", "ofC", "(II)I"⟩, 15) := ⟨⟨by decide +kernel, by decide +kernel⟩, List.mem_of_getElem? (i := 601) (by decide +kernel), List.mem_of_getElem? (i := 675) (by decide +kernel), List.mem_of_getElem? (i := 676) (by decide +kernel)⟩
theorem lw_p19 : lw_okq (⟨"LoopListenersModel", "isOver", "(II)Z"⟩, 15) := ⟨⟨by decide +kernel, by decide +kernel⟩, List.mem_of_getElem? (i := 601) (by decide +kernel), List.mem_of_getElem? (i := 679) (by decide +kernel), List.mem_of_getElem? (i := 680) (by decide +kernel)⟩
theorem lw_p20 : lw_okq (⟨"LoopListenersModel", "ofL", "(II)I"⟩, 15) := ⟨⟨by decide +kernel, by decide +kernel⟩, List.mem_of_getElem? (i := 601) (by decide +kernel), List.mem_of_getElem? (i := 683) (by decide +kernel), List.mem_of_getElem? (i := 684) (by decide +kernel)⟩
theorem lw_p21 : lw_okq (⟨"LoopListenersModel", "isOn", "(I)Z"⟩, 15) := ⟨⟨by decide +kernel, by decide +kernel⟩, List.mem_of_getElem? (i := 601) (by decide +kernel), List.mem_of_getElem? (i := 687) (by decide +kernel), List.mem_of_getElem? (i := 688) (by decide +kernel)⟩
theorem lw_p22 : lw_okq (⟨"LoopListenersModel", "lastCell", "(I)I"⟩, 15) := ⟨⟨by decide +kernel, by decide +kernel⟩, List.mem_of_getElem? (i := 601) (by decide +kernel), List.mem_of_getElem? (i := 691) (by decide +kernel), List.mem_of_getElem? (i := 692) (by decide +kernel)⟩
theorem lw_p23 : lw_okq (⟨"LoopListenersModel", "bookC", "(III)V"⟩, 15) := ⟨⟨by decide +kernel, by decide +kernel⟩, List.mem_of_getElem? (i := 601) (by decide +kernel), List.mem_of_getElem? (i := 695) (by decide +kernel), List.mem_of_getElem? (i := 696) (by decide +kernel)⟩
theorem lw_p24 : lw_okq (⟨"LoopListenersModel", "isLoop", "(I)Z"⟩, 15) := ⟨⟨by decide +kernel, by decide +kernel⟩, List.mem_of_getElem? (i := 601) (by decide +kernel), List.mem_of_getElem? (i := 703) (by decide +kernel), List.mem_of_getElem? (i := 704) (by decide +kernel)⟩
theorem lw_p25 : lw_okq (⟨"LoopListenersModel", "layCells", "()V"⟩, 15) := ⟨⟨by decide +kernel, by decide +kernel⟩, List.mem_of_getElem? (i := 601) (by decide +kernel), List.mem_of_getElem? (i := 711) (by decide +kernel), List.mem_of_getElem? (i := 712) (by decide +kernel)⟩
theorem lw_p26 : lw_okq (⟨"LoopListenersModel", "mark", "(II)V"⟩, 15) := ⟨⟨by decide +kernel, by decide +kernel⟩, List.mem_of_getElem? (i := 601) (by decide +kernel), List.mem_of_getElem? (i := 715) (by decide +kernel), List.mem_of_getElem? (i := 716) (by decide +kernel)⟩
theorem lw_p27 : lw_okq (⟨"LoopListenersModel", "isFree", "(II)Z"⟩, 15) := ⟨⟨by decide +kernel, by decide +kernel⟩, List.mem_of_getElem? (i := 601) (by decide +kernel), List.mem_of_getElem? (i := 719) (by decide +kernel), List.mem_of_getElem? (i := 720) (by decide +kernel)⟩
theorem lw_p28 : lw_okq (⟨"LoopListenersModel", "isCar", "(I)Z"⟩, 15) := ⟨⟨by decide +kernel, by decide +kernel⟩, List.mem_of_getElem? (i := 601) (by decide +kernel), List.mem_of_getElem? (i := 727) (by decide +kernel), List.mem_of_getElem? (i := 728) (by decide +kernel)⟩
theorem lw_p29 : lw_okq (⟨"LoopListenersModel", "pass", "(I)V"⟩, 15) := ⟨⟨by decide +kernel, by decide +kernel⟩, List.mem_of_getElem? (i := 601) (by decide +kernel), List.mem_of_getElem? (i := 739) (by decide +kernel), List.mem_of_getElem? (i := 740) (by decide +kernel)⟩
theorem lw_p30 : lw_okq (⟨"LoopListenersModel", "moveAll", "()V"⟩, 15) := ⟨⟨by decide +kernel, by decide +kernel⟩, List.mem_of_getElem? (i := 601) (by decide +kernel), List.mem_of_getElem? (i := 743) (by decide +kernel), List.mem_of_getElem? (i := 744) (by decide +kernel)⟩
theorem lw_p31 : lw_okq (⟨"LoopListenersModel", "move", "(I)V"⟩, 15) := ⟨⟨by decide +kernel, by decide +kernel⟩, List.mem_of_getElem? (i := 601) (by decide +kernel), List.mem_of_getElem? (i := 747) (by decide +kernel), List.mem_of_getElem? (i := 748) (by decide +kernel)⟩
def lw_privs_2 : List (MethodName × Nat) := [(⟨"LoopListenersModel", "record", "()V"⟩, 15), (⟨"LoopListenersModel", "bookL", "(III)V"⟩, 15), (⟨"LoopListenersModel", "ofC", "(II)I"⟩, 15), (⟨"LoopListenersModel", "isOver", "(II)Z"⟩, 15), (⟨"LoopListenersModel", "ofL", "(II)I"⟩, 15), (⟨"LoopListenersModel", "isOn", "(I)Z"⟩, 15), (⟨"LoopListenersModel", "lastCell", "(I)I"⟩, 15), (⟨"LoopListenersModel", "bookC", "(III)V"⟩, 15), (⟨"LoopListenersModel", "isLoop", "(I)Z"⟩, 15), (⟨"LoopListenersModel", "layCells", "()V"⟩, 15), (⟨"LoopListenersModel", "mark", "(II)V"⟩, 15), (⟨"LoopListenersModel", "isFree", "(II)Z"⟩, 15), (⟨"LoopListenersModel", "isCar", "(I)Z"⟩, 15), (⟨"LoopListenersModel", "pass", "(I)V"⟩, 15), (⟨"LoopListenersModel", "moveAll", "()V"⟩, 15), (⟨"LoopListenersModel", "move", "(I)V"⟩, 15)]
theorem lw_r2 : ∀ q ∈ lw_privs_2, lw_okq q := List.forall_mem_cons.mpr ⟨lw_p16, List.forall_mem_cons.mpr ⟨lw_p17, List.forall_mem_cons.mpr ⟨lw_p18, List.forall_mem_cons.mpr ⟨lw_p19, List.forall_mem_cons.mpr ⟨lw_p20, List.forall_mem_cons.mpr ⟨lw_p21, List.forall_mem_cons.mpr ⟨lw_p22, List.forall_mem_cons.mpr ⟨lw_p23, List.forall_mem_cons.mpr ⟨lw_p24, List.forall_mem_cons.mpr ⟨lw_p25, List.forall_mem_cons.mpr ⟨lw_p26, List.forall_mem_cons.mpr ⟨lw_p27, List.forall_mem_cons.mpr ⟨lw_p28, List.forall_mem_cons.mpr ⟨lw_p29, List.forall_mem_cons.mpr ⟨lw_p30, List.forall_mem_cons.mpr ⟨lw_p31, fun _ h => absurd h List.not_mem_nil⟩⟩⟩⟩⟩⟩⟩⟩⟩⟩⟩⟩⟩⟩⟩⟩
theorem lw_p32 : lw_okq (⟨"LoopListenersModel", "canChange", "(I)Z"⟩, 15) := ⟨⟨by decide +kernel, by decide +kernel⟩, List.mem_of_getElem? (i := 601) (by decide +kernel), List.mem_of_getElem? (i := 751) (by decide +kernel), List.mem_of_getElem? (i := 752) (by decide +kernel)⟩
theorem lw_p33 : lw_okq (⟨"LoopListenersModel", "passAll", "()V"⟩, 15) := ⟨⟨by decide +kernel, by decide +kernel⟩, List.mem_of_getElem? (i := 601) (by decide +kernel), List.mem_of_getElem? (i := 755) (by decide +kernel), List.mem_of_getElem? (i := 756) (by decide +kernel)⟩
theorem lw_p34 : lw_okq (⟨"LoopListenersModel", "overBy", "(I)I"⟩, 15) := ⟨⟨by decide +kernel, by decide +kernel⟩, List.mem_of_getElem? (i := 601) (by decide +kernel), List.mem_of_getElem? (i := 759) (by decide +kernel), List.mem_of_getElem? (i := 760) (by decide +kernel)⟩
theorem lw_p35 : lw_okq (⟨"LoopListenersModel", "listener", "()I"⟩, 15) := ⟨⟨by decide +kernel, by decide +kernel⟩, List.mem_of_getElem? (i := 601) (by decide +kernel), List.mem_of_getElem? (i := 763) (by decide +kernel), List.mem_of_getElem? (i := 764) (by decide +kernel)⟩
theorem lw_p36 : lw_okq (⟨"LoopListenersModel", "listen", "(I)V"⟩, 15) := ⟨⟨by decide +kernel, by decide +kernel⟩, List.mem_of_getElem? (i := 601) (by decide +kernel), List.mem_of_getElem? (i := 767) (by decide +kernel), List.mem_of_getElem? (i := 768) (by decide +kernel)⟩
theorem lw_p37 : lw_okq (⟨"LoopListenersModel", "strength", "(I)I"⟩, 15) := ⟨⟨by decide +kernel, by decide +kernel⟩, List.mem_of_getElem? (i := 601) (by decide +kernel), List.mem_of_getElem? (i := 771) (by decide +kernel), List.mem_of_getElem? (i := 772) (by decide +kernel)⟩
theorem lw_p38 : lw_okq (⟨"LoopListenersModel", "metal", "(II)I"⟩, 15) := ⟨⟨by decide +kernel, by decide +kernel⟩, List.mem_of_getElem? (i := 601) (by decide +kernel), List.mem_of_getElem? (i := 775) (by decide +kernel), List.mem_of_getElem? (i := 776) (by decide +kernel)⟩
theorem lw_p39 : lw_okq (⟨"LoopListenersModel", "errorOf", "(I)I"⟩, 15) := ⟨⟨by decide +kernel, by decide +kernel⟩, List.mem_of_getElem? (i := 601) (by decide +kernel), List.mem_of_getElem? (i := 791) (by decide +kernel), List.mem_of_getElem? (i := 792) (by decide +kernel)⟩
theorem lw_p40 : lw_okq (⟨"LoopListenersModel", "gone", "()I"⟩, 15) := ⟨⟨by decide +kernel, by decide +kernel⟩, List.mem_of_getElem? (i := 601) (by decide +kernel), List.mem_of_getElem? (i := 803) (by decide +kernel), List.mem_of_getElem? (i := 804) (by decide +kernel)⟩
theorem lw_p41 : lw_okq (⟨"LoopListenersModel", "sum", "(I)I"⟩, 15) := ⟨⟨by decide +kernel, by decide +kernel⟩, List.mem_of_getElem? (i := 601) (by decide +kernel), List.mem_of_getElem? (i := 807) (by decide +kernel), List.mem_of_getElem? (i := 808) (by decide +kernel)⟩
theorem lw_p42 : lw_okq (⟨"LoopListenersModel", "counted", "(III)I"⟩, 15) := ⟨⟨by decide +kernel, by decide +kernel⟩, List.mem_of_getElem? (i := 601) (by decide +kernel), List.mem_of_getElem? (i := 819) (by decide +kernel), List.mem_of_getElem? (i := 820) (by decide +kernel)⟩
theorem lw_p43 : lw_okq (⟨"LoopListenersModel", "keep", "()V"⟩, 15) := ⟨⟨by decide +kernel, by decide +kernel⟩, List.mem_of_getElem? (i := 601) (by decide +kernel), List.mem_of_getElem? (i := 823) (by decide +kernel), List.mem_of_getElem? (i := 824) (by decide +kernel)⟩
theorem lw_p44 : lw_okq (⟨"LoopListenersModel", "comeBack", "()V"⟩, 15) := ⟨⟨by decide +kernel, by decide +kernel⟩, List.mem_of_getElem? (i := 601) (by decide +kernel), List.mem_of_getElem? (i := 827) (by decide +kernel), List.mem_of_getElem? (i := 828) (by decide +kernel)⟩
theorem lw_p45 : lw_okq (⟨"LoopListenersModel", "faultOf", "()I"⟩, 15) := ⟨⟨by decide +kernel, by decide +kernel⟩, List.mem_of_getElem? (i := 601) (by decide +kernel), List.mem_of_getElem? (i := 863) (by decide +kernel), List.mem_of_getElem? (i := 864) (by decide +kernel)⟩
theorem lw_p46 : lw_okq (⟨"LoopListenersModel", "readOne", "()V"⟩, 15) := ⟨⟨by decide +kernel, by decide +kernel⟩, List.mem_of_getElem? (i := 601) (by decide +kernel), List.mem_of_getElem? (i := 867) (by decide +kernel), List.mem_of_getElem? (i := 868) (by decide +kernel)⟩
theorem lw_p47 : lw_okq (⟨"LoopListenersModel", "sign", "()I"⟩, 15) := ⟨⟨by decide +kernel, by decide +kernel⟩, List.mem_of_getElem? (i := 601) (by decide +kernel), List.mem_of_getElem? (i := 871) (by decide +kernel), List.mem_of_getElem? (i := 872) (by decide +kernel)⟩
def lw_privs_3 : List (MethodName × Nat) := [(⟨"LoopListenersModel", "canChange", "(I)Z"⟩, 15), (⟨"LoopListenersModel", "passAll", "()V"⟩, 15), (⟨"LoopListenersModel", "overBy", "(I)I"⟩, 15), (⟨"LoopListenersModel", "listener", "()I"⟩, 15), (⟨"LoopListenersModel", "listen", "(I)V"⟩, 15), (⟨"LoopListenersModel", "strength", "(I)I"⟩, 15), (⟨"LoopListenersModel", "metal", "(II)I"⟩, 15), (⟨"LoopListenersModel", "errorOf", "(I)I"⟩, 15), (⟨"LoopListenersModel", "gone", "()I"⟩, 15), (⟨"LoopListenersModel", "sum", "(I)I"⟩, 15), (⟨"LoopListenersModel", "counted", "(III)I"⟩, 15), (⟨"LoopListenersModel", "keep", "()V"⟩, 15), (⟨"LoopListenersModel", "comeBack", "()V"⟩, 15), (⟨"LoopListenersModel", "faultOf", "()I"⟩, 15), (⟨"LoopListenersModel", "readOne", "()V"⟩, 15), (⟨"LoopListenersModel", "sign", "()I"⟩, 15)]
theorem lw_r3 : ∀ q ∈ lw_privs_3, lw_okq q := List.forall_mem_cons.mpr ⟨lw_p32, List.forall_mem_cons.mpr ⟨lw_p33, List.forall_mem_cons.mpr ⟨lw_p34, List.forall_mem_cons.mpr ⟨lw_p35, List.forall_mem_cons.mpr ⟨lw_p36, List.forall_mem_cons.mpr ⟨lw_p37, List.forall_mem_cons.mpr ⟨lw_p38, List.forall_mem_cons.mpr ⟨lw_p39, List.forall_mem_cons.mpr ⟨lw_p40, List.forall_mem_cons.mpr ⟨lw_p41, List.forall_mem_cons.mpr ⟨lw_p42, List.forall_mem_cons.mpr ⟨lw_p43, List.forall_mem_cons.mpr ⟨lw_p44, List.forall_mem_cons.mpr ⟨lw_p45, List.forall_mem_cons.mpr ⟨lw_p46, List.forall_mem_cons.mpr ⟨lw_p47, fun _ h => absurd h List.not_mem_nil⟩⟩⟩⟩⟩⟩⟩⟩⟩⟩⟩⟩⟩⟩⟩⟩
theorem lw_p48 : lw_okq (⟨"LoopListenersModel", "one", "(II)I"⟩, 15) := ⟨⟨by decide +kernel, by decide +kernel⟩, List.mem_of_getElem? (i := 601) (by decide +kernel), List.mem_of_getElem? (i := 875) (by decide +kernel), List.mem_of_getElem? (i := 876) (by decide +kernel)⟩
theorem lw_p49 : lw_okq (⟨"LoopListenersModel", "number", "()I"⟩, 15) := ⟨⟨by decide +kernel, by decide +kernel⟩, List.mem_of_getElem? (i := 601) (by decide +kernel), List.mem_of_getElem? (i := 879) (by decide +kernel), List.mem_of_getElem? (i := 880) (by decide +kernel)⟩
theorem lw_p50 : lw_okq (⟨"LoopListenersModel", "carry", "(I)I"⟩, 15) := ⟨⟨by decide +kernel, by decide +kernel⟩, List.mem_of_getElem? (i := 601) (by decide +kernel), List.mem_of_getElem? (i := 887) (by decide +kernel), List.mem_of_getElem? (i := 888) (by decide +kernel)⟩
def lw_privs_4 : List (MethodName × Nat) := [(⟨"LoopListenersModel", "one", "(II)I"⟩, 15), (⟨"LoopListenersModel", "number", "()I"⟩, 15), (⟨"LoopListenersModel", "carry", "(I)I"⟩, 15)]
theorem lw_r4 : ∀ q ∈ lw_privs_4, lw_okq q := List.forall_mem_cons.mpr ⟨lw_p48, List.forall_mem_cons.mpr ⟨lw_p49, List.forall_mem_cons.mpr ⟨lw_p50, fun _ h => absurd h List.not_mem_nil⟩⟩⟩
def lw_privs : List (MethodName × Nat) := lw_privs_1 ++ (lw_privs_2 ++ (lw_privs_3 ++ (lw_privs_4)))
def lw_tbl : List Cond := k2_sels lw_privs ++ tables_1
theorem lw_privs_ok : ∀ q ∈ lw_privs, lw_okq q := by
  show ∀ q ∈ lw_privs_1 ++ (lw_privs_2 ++ (lw_privs_3 ++ (lw_privs_4))), lw_okq q
  exact List.forall_mem_append.mpr ⟨lw_r1, List.forall_mem_append.mpr ⟨lw_r2, List.forall_mem_append.mpr ⟨lw_r3, lw_r4⟩⟩⟩
-- ===== end of PART A =====
def RX0 : String := "LoopListeners$Car"
def TX0 : u_T := fun k => match k with
  | 0 => ("LoopListeners$Car", "number", "I", true)
  | 1 => ("LoopListeners$Car", "lane", "I", false)
  | 2 => ("LoopListeners$Car", "front", "I", false)
  | 3 => ("LoopListeners$Car", "length", "I", false)
  | 4 => ("LoopListeners$Car", "speed", "I", false)
  | 5 => ("LoopListeners$Car", "metal", "I", false)
  | 6 => ("LoopListeners$Car", "gone", "Z", false)
  | 7 => ("LoopListeners$Car", "wants", "Z", false)
  | 8 => ("LoopListeners$Car", "changes", "I", false)
  | 9 => ("LoopListeners$Car", "waits", "I", false)
  | _ => ("LoopListeners$Car", "wasOver", "I", false)
def tyX0 : Nat → FieldType := fun k => match k with
  | 0 => .int
  | 1 => .int
  | 2 => .int
  | 3 => .int
  | 4 => .int
  | 5 => .int
  | 6 => .boolean
  | 7 => .boolean
  | 8 => .int
  | 9 => .int
  | _ => .int
theorem nmX0 : ∀ a, a < 11 → ∀ b, b < 11 → a ≠ b → (TX0 a).2.1 ≠ (TX0 b).2.1 := by decide +kernel
theorem tyX0_ok : ∀ k, k < 11 → parseFieldDescriptor (TX0 k).2.2.1 = some (tyX0 k) := by decide +kernel
abbrev cX0_init : ByteArray := prog_2_method_1_code
def yX0_init : MethodName := ⟨RX0, "<init>", "(I)V"⟩
abbrev cX0_arrive : ByteArray := prog_2_method_2_code
def yX0_arrive : MethodName := ⟨RX0, "arrive", "(IIII)V"⟩
abbrev cX0_become : ByteArray := prog_2_method_3_code
def yX0_become : MethodName := ⟨RX0, "become", "(LLoopListeners$Car;)V"⟩
abbrev cX0_last : ByteArray := prog_2_method_4_code
def yX0_last : MethodName := ⟨RX0, "last", "()I"⟩
abbrev cX0_about : ByteArray := prog_2_method_5_code
def yX0_about : MethodName := ⟨RX0, "about", "(I)I"⟩
def RX1 : String := "LoopListeners$History"
def TX1 : u_T := fun k => match k with
  | 0 => ("LoopListeners$History", "states", "[LLoopListeners$Road;", true)
  | 1 => ("LoopListeners$History", "noted", "I", false)
  | _ => ("LoopListeners$History", "kept", "I", false)
def tyX1 : Nat → FieldType := fun k => match k with
  | 0 => .array (.object "LoopListeners$Road")
  | 1 => .int
  | _ => .int
theorem nmX1 : ∀ a, a < 3 → ∀ b, b < 3 → a ≠ b → (TX1 a).2.1 ≠ (TX1 b).2.1 := by decide +kernel
theorem tyX1_ok : ∀ k, k < 3 → parseFieldDescriptor (TX1 k).2.2.1 = some (tyX1 k) := by decide +kernel
abbrev cX1_init : ByteArray := prog_3_method_1_code
def yX1_init : MethodName := ⟨RX1, "<init>", "()V"⟩
abbrev cX1_note : ByteArray := prog_3_method_2_code
def yX1_note : MethodName := ⟨RX1, "note", "(LLoopListeners$Road;)V"⟩
abbrev cX1_keep : ByteArray := prog_3_method_3_code
def yX1_keep : MethodName := ⟨RX1, "keep", "()V"⟩
abbrev cX1_stepBack : ByteArray := prog_3_method_4_code
def yX1_stepBack : MethodName := ⟨RX1, "stepBack", "(LLoopListeners$Road;)I"⟩
abbrev cX1_notedState : ByteArray := prog_3_method_5_code
def yX1_notedState : MethodName := ⟨RX1, "notedState", "()LLoopListeners$Road;"⟩
def RX2 : String := "LoopListeners$Loop"
def TX2 : u_T := fun k => match k with
  | 0 => ("LoopListeners$Loop", "lane", "I", false)
  | 1 => ("LoopListeners$Loop", "first", "I", false)
  | 2 => ("LoopListeners$Loop", "cells", "I", false)
  | 3 => ("LoopListeners$Loop", "upper", "I", false)
  | 4 => ("LoopListeners$Loop", "lower", "I", false)
  | 5 => ("LoopListeners$Loop", "on", "Z", false)
  | 6 => ("LoopListeners$Loop", "counted", "I", false)
  | 7 => ("LoopListeners$Loop", "passings", "I", false)
  | _ => ("LoopListeners$Loop", "listened", "I", false)
def tyX2 : Nat → FieldType := fun k => match k with
  | 0 => .int
  | 1 => .int
  | 2 => .int
  | 3 => .int
  | 4 => .int
  | 5 => .boolean
  | 6 => .int
  | 7 => .int
  | _ => .int
theorem nmX2 : ∀ a, a < 9 → ∀ b, b < 9 → a ≠ b → (TX2 a).2.1 ≠ (TX2 b).2.1 := by decide +kernel
theorem tyX2_ok : ∀ k, k < 9 → parseFieldDescriptor (TX2 k).2.2.1 = some (tyX2 k) := by decide +kernel
abbrev cX2_init : ByteArray := prog_4_method_1_code
def yX2_init : MethodName := ⟨RX2, "<init>", "()V"⟩
abbrev cX2_lay : ByteArray := prog_4_method_2_code
def yX2_lay : MethodName := ⟨RX2, "lay", "(IIIII)V"⟩
abbrev cX2_become : ByteArray := prog_4_method_3_code
def yX2_become : MethodName := ⟨RX2, "become", "(LLoopListeners$Loop;)V"⟩
abbrev cX2_isUnder : ByteArray := prog_4_method_4_code
def yX2_isUnder : MethodName := ⟨RX2, "isUnder", "(LLoopListeners$Car;)Z"⟩
abbrev cX2_hear : ByteArray := prog_4_method_5_code
def yX2_hear : MethodName := ⟨RX2, "hear", "(I)V"⟩
abbrev cX2_falselyCounted : ByteArray := prog_4_method_6_code
def yX2_falselyCounted : MethodName := ⟨RX2, "falselyCounted", "()I"⟩
abbrev cX2_about : ByteArray := prog_4_method_7_code
def yX2_about : MethodName := ⟨RX2, "about", "(I)I"⟩
def RX3 : String := "LoopListeners$Pad"
def TX3 : u_T := fun k => match k with
  | 0 => ("LoopListeners$Pad", "signs", "[C", true)
  | _ => ("LoopListeners$Pad", "length", "I", false)
def tyX3 : Nat → FieldType := fun k => match k with
  | 0 => .array .char
  | _ => .int
theorem nmX3 : ∀ a, a < 2 → ∀ b, b < 2 → a ≠ b → (TX3 a).2.1 ≠ (TX3 b).2.1 := by decide +kernel
theorem tyX3_ok : ∀ k, k < 2 → parseFieldDescriptor (TX3 k).2.2.1 = some (tyX3 k) := by decide +kernel
abbrev cX3_init : ByteArray := prog_5_method_1_code
def yX3_init : MethodName := ⟨RX3, "<init>", "()V"⟩
abbrev cX3_append : ByteArray := prog_5_method_2_code
def yX3_append : MethodName := ⟨RX3, "append", "(J)I"⟩
abbrev cX3_signsIn : ByteArray := prog_5_method_3_code
def yX3_signsIn : MethodName := ⟨RX3, "signsIn", "(J)I"⟩
abbrev cX3_empty : ByteArray := prog_5_method_4_code
def yX3_empty : MethodName := ⟨RX3, "empty", "()I"⟩
abbrev cX3_signAt : ByteArray := prog_5_method_5_code
def yX3_signAt : MethodName := ⟨RX3, "signAt", "(I)I"⟩
abbrev cX3_digitAt : ByteArray := prog_5_method_6_code
def yX3_digitAt : MethodName := ⟨RX3, "digitAt", "(I)I"⟩
abbrev cX3_numberAt : ByteArray := prog_5_method_7_code
def yX3_numberAt : MethodName := ⟨RX3, "numberAt", "(I)I"⟩
abbrev cX3_beginsOrder : ByteArray := prog_5_method_8_code
def yX3_beginsOrder : MethodName := ⟨RX3, "beginsOrder", "(I)Z"⟩
abbrev cX3_firstFault : ByteArray := prog_5_method_9_code
def yX3_firstFault : MethodName := ⟨RX3, "firstFault", "()I"⟩
abbrev cX3_dueAfter : ByteArray := prog_5_method_10_code
def yX3_dueAfter : MethodName := ⟨RX3, "dueAfter", "(II)I"⟩
def RX4 : String := "LoopListeners$Road"
def TX4 : u_T := fun k => match k with
  | 0 => ("LoopListeners$Road", "cars", "[LLoopListeners$Car;", true)
  | 1 => ("LoopListeners$Road", "loops", "[LLoopListeners$Loop;", true)
  | 2 => ("LoopListeners$Road", "takers", "[I", true)
  | 3 => ("LoopListeners$Road", "movers", "[LLoopListeners$Car;", true)
  | 4 => ("LoopListeners$Road", "carsCame", "I", false)
  | 5 => ("LoopListeners$Road", "loopsLaid", "I", false)
  | 6 => ("LoopListeners$Road", "tick", "I", false)
  | 7 => ("LoopListeners$Road", "across", "I", false)
  | _ => ("LoopListeners$Road", "turn", "I", false)
def tyX4 : Nat → FieldType := fun k => match k with
  | 0 => .array (.object "LoopListeners$Car")
  | 1 => .array (.object "LoopListeners$Loop")
  | 2 => .array .int
  | 3 => .array (.object "LoopListeners$Car")
  | 4 => .int
  | 5 => .int
  | 6 => .int
  | 7 => .int
  | _ => .int
theorem nmX4 : ∀ a, a < 9 → ∀ b, b < 9 → a ≠ b → (TX4 a).2.1 ≠ (TX4 b).2.1 := by decide +kernel
theorem tyX4_ok : ∀ k, k < 9 → parseFieldDescriptor (TX4 k).2.2.1 = some (tyX4 k) := by decide +kernel
abbrev cX4_init : ByteArray := prog_6_method_1_code
def yX4_init : MethodName := ⟨RX4, "<init>", "()V"⟩
abbrev cX4_become : ByteArray := prog_6_method_2_code
def yX4_become : MethodName := ⟨RX4, "become", "(LLoopListeners$Road;)V"⟩
abbrev cX4_carNumbered : ByteArray := prog_6_method_3_code
def yX4_carNumbered : MethodName := ⟨RX4, "carNumbered", "(I)LLoopListeners$Car;"⟩
abbrev cX4_loopNumbered : ByteArray := prog_6_method_4_code
def yX4_loopNumbered : MethodName := ⟨RX4, "loopNumbered", "(I)LLoopListeners$Loop;"⟩
abbrev cX4_changeSetting : ByteArray := prog_6_method_5_code
def yX4_changeSetting : MethodName := ⟨RX4, "changeSetting", "(II)I"⟩
abbrev cX4_layLoop : ByteArray := prog_6_method_6_code
def yX4_layLoop : MethodName := ⟨RX4, "layLoop", "(IIIII)I"⟩
abbrev cX4_markCarsOver : ByteArray := prog_6_method_7_code
def yX4_markCarsOver : MethodName := ⟨RX4, "markCarsOver", "(LLoopListeners$Loop;I)V"⟩
abbrev cX4_changeBounds : ByteArray := prog_6_method_8_code
def yX4_changeBounds : MethodName := ⟨RX4, "changeBounds", "(III)I"⟩
abbrev cX4_admitCar : ByteArray := prog_6_method_9_code
def yX4_admitCar : MethodName := ⟨RX4, "admitCar", "(IIII)I"⟩
abbrev cX4_turnWish : ByteArray := prog_6_method_10_code
def yX4_turnWish : MethodName := ⟨RX4, "turnWish", "(I)I"⟩
abbrev cX4_changeSpeed : ByteArray := prog_6_method_11_code
def yX4_changeSpeed : MethodName := ⟨RX4, "changeSpeed", "(II)I"⟩
abbrev cX4_letPass : ByteArray := prog_6_method_12_code
def yX4_letPass : MethodName := ⟨RX4, "letPass", "(I)I"⟩
abbrev cX4_listener : ByteArray := prog_6_method_13_code
def yX4_listener : MethodName := ⟨RX4, "listener", "()I"⟩
abbrev cX4_passTick : ByteArray := prog_6_method_14_code
def yX4_passTick : MethodName := ⟨RX4, "passTick", "(I)V"⟩
abbrev cX4_orderMovers : ByteArray := prog_6_method_15_code
def yX4_orderMovers : MethodName := ⟨RX4, "orderMovers", "()I"⟩
abbrev cX4_insertMover : ByteArray := prog_6_method_16_code
def yX4_insertMover : MethodName := ⟨RX4, "insertMover", "(LLoopListeners$Car;I)V"⟩
abbrev cX4_moveCar : ByteArray := prog_6_method_17_code
def yX4_moveCar : MethodName := ⟨RX4, "moveCar", "(LLoopListeners$Car;)V"⟩
abbrev cX4_isFreeBeside : ByteArray := prog_6_method_18_code
def yX4_isFreeBeside : MethodName := ⟨RX4, "isFreeBeside", "(LLoopListeners$Car;)Z"⟩
abbrev cX4_changeLane : ByteArray := prog_6_method_19_code
def yX4_changeLane : MethodName := ⟨RX4, "changeLane", "(LLoopListeners$Car;)V"⟩
abbrev cX4_notePassings : ByteArray := prog_6_method_20_code
def yX4_notePassings : MethodName := ⟨RX4, "notePassings", "()V"⟩
abbrev cX4_countPassings : ByteArray := prog_6_method_21_code
def yX4_countPassings : MethodName := ⟨RX4, "countPassings", "(I)V"⟩
abbrev cX4_loopsUnder : ByteArray := prog_6_method_22_code
def yX4_loopsUnder : MethodName := ⟨RX4, "loopsUnder", "(LLoopListeners$Car;)I"⟩
abbrev cX4_strengthOf : ByteArray := prog_6_method_23_code
def yX4_strengthOf : MethodName := ⟨RX4, "strengthOf", "(LLoopListeners$Loop;)I"⟩
abbrev cX4_metalIn : ByteArray := prog_6_method_24_code
def yX4_metalIn : MethodName := ⟨RX4, "metalIn", "(ILLoopListeners$Loop;)I"⟩
abbrev cX4_takerOf : ByteArray := prog_6_method_25_code
def yX4_takerOf : MethodName := ⟨RX4, "takerOf", "(II)I"⟩
abbrev cX4_take : ByteArray := prog_6_method_26_code
def yX4_take : MethodName := ⟨RX4, "take", "(III)V"⟩
abbrev cX4_carsGone : ByteArray := prog_6_method_27_code
def yX4_carsGone : MethodName := ⟨RX4, "carsGone", "()I"⟩
abbrev cX4_sumOfLoops : ByteArray := prog_6_method_28_code
def yX4_sumOfLoops : MethodName := ⟨RX4, "sumOfLoops", "(I)I"⟩
abbrev cX4_allAmounts : ByteArray := prog_6_method_29_code
def yX4_allAmounts : MethodName := ⟨RX4, "allAmounts", "()I"⟩
def RX5 : String := "LoopListeners$Slots"
def TX5 : u_T := fun k => match k with
  | 0 => ("LoopListeners$Slots", "roads", "[LLoopListeners$Road;", true)
  | _ => ("LoopListeners$Slots", "saved", "[Z", true)
def tyX5 : Nat → FieldType := fun k => match k with
  | 0 => .array (.object "LoopListeners$Road")
  | _ => .array .boolean
theorem nmX5 : ∀ a, a < 2 → ∀ b, b < 2 → a ≠ b → (TX5 a).2.1 ≠ (TX5 b).2.1 := by decide +kernel
theorem tyX5_ok : ∀ k, k < 2 → parseFieldDescriptor (TX5 k).2.2.1 = some (tyX5 k) := by decide +kernel
abbrev cX5_init : ByteArray := prog_7_method_1_code
def yX5_init : MethodName := ⟨RX5, "<init>", "()V"⟩
abbrev cX5_keep : ByteArray := prog_7_method_2_code
def yX5_keep : MethodName := ⟨RX5, "keep", "(ILLoopListeners$Road;)I"⟩
abbrev cX5_giveBack : ByteArray := prog_7_method_3_code
def yX5_giveBack : MethodName := ⟨RX5, "giveBack", "(ILLoopListeners$Road;)I"⟩
abbrev cX5_isSlot : ByteArray := prog_7_method_4_code
def yX5_isSlot : MethodName := ⟨RX5, "isSlot", "(I)Z"⟩
def RX6 : String := "LoopListeners"
def TX6 : u_T := fun k => match k with
  | 0 => ("LoopListeners", "now", "LLoopListeners$Road;", true)
  | 1 => ("LoopListeners", "trial", "LLoopListeners$Road;", true)
  | 2 => ("LoopListeners", "trialLoop", "LLoopListeners$Loop;", true)
  | 3 => ("LoopListeners", "heard", "[I", true)
  | 4 => ("LoopListeners", "pad", "LLoopListeners$Pad;", true)
  | 5 => ("LoopListeners", "history", "LLoopListeners$History;", true)
  | _ => ("LoopListeners", "slots", "LLoopListeners$Slots;", true)
def tyX6 : Nat → FieldType := fun k => match k with
  | 0 => .object "LoopListeners$Road"
  | 1 => .object "LoopListeners$Road"
  | 2 => .object "LoopListeners$Loop"
  | 3 => .array .int
  | 4 => .object "LoopListeners$Pad"
  | 5 => .object "LoopListeners$History"
  | _ => .object "LoopListeners$Slots"
theorem nmX6 : ∀ a, a < 7 → ∀ b, b < 7 → a ≠ b → (TX6 a).2.1 ≠ (TX6 b).2.1 := by decide +kernel
theorem tyX6_ok : ∀ k, k < 7 → parseFieldDescriptor (TX6 k).2.2.1 = some (tyX6 k) := by decide +kernel
abbrev cX6_init : ByteArray := prog_1_method_1_code
def yX6_init : MethodName := ⟨RX6, "<init>", "()V"⟩
abbrev cX6_set : ByteArray := prog_1_method_2_code
def yX6_set : MethodName := ⟨RX6, "set", "(II)I"⟩
abbrev cX6_loop : ByteArray := prog_1_method_3_code
def yX6_loop : MethodName := ⟨RX6, "loop", "(IIIII)I"⟩
abbrev cX6_bounds : ByteArray := prog_1_method_4_code
def yX6_bounds : MethodName := ⟨RX6, "bounds", "(III)I"⟩
abbrev cX6_come : ByteArray := prog_1_method_5_code
def yX6_come : MethodName := ⟨RX6, "come", "(IIII)I"⟩
abbrev cX6_want : ByteArray := prog_1_method_6_code
def yX6_want : MethodName := ⟨RX6, "want", "(I)I"⟩
abbrev cX6_speed : ByteArray := prog_1_method_7_code
def yX6_speed : MethodName := ⟨RX6, "speed", "(II)I"⟩
abbrev cX6_ticks : ByteArray := prog_1_method_8_code
def yX6_ticks : MethodName := ⟨RX6, "ticks", "(I)I"⟩
abbrev cX6_recorded : ByteArray := prog_1_method_9_code
def yX6_recorded : MethodName := ⟨RX6, "recorded", "(I)I"⟩
abbrev cX6_ofCar : ByteArray := prog_1_method_10_code
def yX6_ofCar : MethodName := ⟨RX6, "ofCar", "(II)I"⟩
abbrev cX6_ofLoop : ByteArray := prog_1_method_11_code
def yX6_ofLoop : MethodName := ⟨RX6, "ofLoop", "(II)I"⟩
abbrev cX6_error : ByteArray := prog_1_method_12_code
def yX6_error : MethodName := ⟨RX6, "error", "(I)I"⟩
abbrev cX6_carAt : ByteArray := prog_1_method_13_code
def yX6_carAt : MethodName := ⟨RX6, "carAt", "(II)I"⟩
abbrev cX6_count : ByteArray := prog_1_method_14_code
def yX6_count : MethodName := ⟨RX6, "count", "(I)I"⟩
abbrev cX6_inside : ByteArray := prog_1_method_15_code
def yX6_inside : MethodName := ⟨RX6, "inside", "(II)I"⟩
abbrev cX6_countsIn : ByteArray := prog_1_method_16_code
def yX6_countsIn : MethodName := ⟨RX6, "countsIn", "(II)I"⟩
abbrev cX6_countsAlone : ByteArray := prog_1_method_17_code
def yX6_countsAlone : MethodName := ⟨RX6, "countsAlone", "(II)I"⟩
abbrev cX6_bestUpper : ByteArray := prog_1_method_18_code
def yX6_bestUpper : MethodName := ⟨RX6, "bestUpper", "(II)I"⟩
abbrev cX6_hearTrial : ByteArray := prog_1_method_19_code
def yX6_hearTrial : MethodName := ⟨RX6, "hearTrial", "(ILLoopListeners$Loop;I)I"⟩
abbrev cX6_countedWith : ByteArray := prog_1_method_20_code
def yX6_countedWith : MethodName := ⟨RX6, "countedWith", "(LLoopListeners$Loop;II)I"⟩
abbrev cX6_bestTurn : ByteArray := prog_1_method_21_code
def yX6_bestTurn : MethodName := ⟨RX6, "bestTurn", "(I)I"⟩
abbrev cX6_goneIn : ByteArray := prog_1_method_22_code
def yX6_goneIn : MethodName := ⟨RX6, "goneIn", "(I)I"⟩
abbrev cX6_put : ByteArray := prog_1_method_23_code
def yX6_put : MethodName := ⟨RX6, "put", "(J)I"⟩
abbrev cX6_wipe : ByteArray := prog_1_method_24_code
def yX6_wipe : MethodName := ⟨RX6, "wipe", "()I"⟩
abbrev cX6_fault : ByteArray := prog_1_method_25_code
def yX6_fault : MethodName := ⟨RX6, "fault", "()I"⟩
abbrev cX6_carryOut : ByteArray := prog_1_method_26_code
def yX6_carryOut : MethodName := ⟨RX6, "carryOut", "()I"⟩
abbrev cX6_obey : ByteArray := prog_1_method_27_code
def yX6_obey : MethodName := ⟨RX6, "obey", "(I)I"⟩
abbrev cX6_undo : ByteArray := prog_1_method_28_code
def yX6_undo : MethodName := ⟨RX6, "undo", "()I"⟩
abbrev cX6_save : ByteArray := prog_1_method_29_code
def yX6_save : MethodName := ⟨RX6, "save", "(I)I"⟩
abbrev cX6_restore : ByteArray := prog_1_method_30_code
def yX6_restore : MethodName := ⟨RX6, "restore", "(I)I"⟩
abbrev cX6_isWithin : ByteArray := prog_1_method_31_code
def yX6_isWithin : MethodName := ⟨RX6, "isWithin", "(III)Z"⟩
abbrev cX6_isTicks : ByteArray := prog_1_method_32_code
def yX6_isTicks : MethodName := ⟨RX6, "isTicks", "(I)Z"⟩
abbrev cX6_areBounds : ByteArray := prog_1_method_33_code
def yX6_areBounds : MethodName := ⟨RX6, "areBounds", "(II)Z"⟩
def RX7 : String := "LoopListenersModel"
def TX7 : u_T := fun k => match k with
  | 0 => ("LoopListenersModel", "now", "[I", true)
  | 1 => ("LoopListenersModel", "kept", "[I", true)
  | 2 => ("LoopListenersModel", "history", "[I", true)
  | 3 => ("LoopListenersModel", "undos", "I", false)
  | 4 => ("LoopListenersModel", "saved", "[I", true)
  | 5 => ("LoopListenersModel", "isSaved", "[Z", true)
  | 6 => ("LoopListenersModel", "pad", "[I", true)
  | 7 => ("LoopListenersModel", "signs", "I", false)
  | 8 => ("LoopListenersModel", "isInText", "Z", false)
  | 9 => ("LoopListenersModel", "cells", "[I", true)
  | 10 => ("LoopListenersModel", "order", "[I", true)
  | 11 => ("LoopListenersModel", "orders", "[I", true)
  | 12 => ("LoopListenersModel", "read", "I", false)
  | 13 => ("LoopListenersModel", "place", "I", false)
  | _ => ("LoopListenersModel", "isWrong", "Z", false)
def tyX7 : Nat → FieldType := fun k => match k with
  | 0 => .array .int
  | 1 => .array .int
  | 2 => .array .int
  | 3 => .int
  | 4 => .array .int
  | 5 => .array .boolean
  | 6 => .array .int
  | 7 => .int
  | 8 => .boolean
  | 9 => .array .int
  | 10 => .array .int
  | 11 => .array .int
  | 12 => .int
  | 13 => .int
  | _ => .boolean
theorem nmX7 : ∀ a, a < 15 → ∀ b, b < 15 → a ≠ b → (TX7 a).2.1 ≠ (TX7 b).2.1 := by decide +kernel
theorem tyX7_ok : ∀ k, k < 15 → parseFieldDescriptor (TX7 k).2.2.1 = some (tyX7 k) := by decide +kernel
abbrev cX7_init : ByteArray := prog_9_method_1_code
def yX7_init : MethodName := ⟨RX7, "<init>", "()V"⟩
abbrev cX7_in : ByteArray := prog_9_method_2_code
def yX7_in : MethodName := ⟨RX7, "in", "(III)Z"⟩
abbrev cX7_record : ByteArray := prog_9_method_3_code
def yX7_record : MethodName := ⟨RX7, "record", "()V"⟩
abbrev cX7_keep : ByteArray := prog_9_method_4_code
def yX7_keep : MethodName := ⟨RX7, "keep", "()V"⟩
abbrev cX7_comeBack : ByteArray := prog_9_method_5_code
def yX7_comeBack : MethodName := ⟨RX7, "comeBack", "()V"⟩
abbrev cX7_ofC : ByteArray := prog_9_method_6_code
def yX7_ofC : MethodName := ⟨RX7, "ofC", "(II)I"⟩
abbrev cX7_bookC : ByteArray := prog_9_method_7_code
def yX7_bookC : MethodName := ⟨RX7, "bookC", "(III)V"⟩
abbrev cX7_ofL : ByteArray := prog_9_method_8_code
def yX7_ofL : MethodName := ⟨RX7, "ofL", "(II)I"⟩
abbrev cX7_bookL : ByteArray := prog_9_method_9_code
def yX7_bookL : MethodName := ⟨RX7, "bookL", "(III)V"⟩
abbrev cX7_isOn : ByteArray := prog_9_method_10_code
def yX7_isOn : MethodName := ⟨RX7, "isOn", "(I)Z"⟩
abbrev cX7_lastCell : ByteArray := prog_9_method_11_code
def yX7_lastCell : MethodName := ⟨RX7, "lastCell", "(I)I"⟩
abbrev cX7_mark : ByteArray := prog_9_method_12_code
def yX7_mark : MethodName := ⟨RX7, "mark", "(II)V"⟩
abbrev cX7_layCells : ByteArray := prog_9_method_13_code
def yX7_layCells : MethodName := ⟨RX7, "layCells", "()V"⟩
abbrev cX7_isFree : ByteArray := prog_9_method_14_code
def yX7_isFree : MethodName := ⟨RX7, "isFree", "(II)Z"⟩
abbrev cX7_canChange : ByteArray := prog_9_method_15_code
def yX7_canChange : MethodName := ⟨RX7, "canChange", "(I)Z"⟩
abbrev cX7_move : ByteArray := prog_9_method_16_code
def yX7_move : MethodName := ⟨RX7, "move", "(I)V"⟩
abbrev cX7_moveAll : ByteArray := prog_9_method_17_code
def yX7_moveAll : MethodName := ⟨RX7, "moveAll", "()V"⟩
abbrev cX7_isOver : ByteArray := prog_9_method_18_code
def yX7_isOver : MethodName := ⟨RX7, "isOver", "(II)Z"⟩
abbrev cX7_overBy : ByteArray := prog_9_method_19_code
def yX7_overBy : MethodName := ⟨RX7, "overBy", "(I)I"⟩
abbrev cX7_passAll : ByteArray := prog_9_method_20_code
def yX7_passAll : MethodName := ⟨RX7, "passAll", "()V"⟩
abbrev cX7_metal : ByteArray := prog_9_method_21_code
def yX7_metal : MethodName := ⟨RX7, "metal", "(II)I"⟩
abbrev cX7_strength : ByteArray := prog_9_method_22_code
def yX7_strength : MethodName := ⟨RX7, "strength", "(I)I"⟩
abbrev cX7_listen : ByteArray := prog_9_method_23_code
def yX7_listen : MethodName := ⟨RX7, "listen", "(I)V"⟩
abbrev cX7_listener : ByteArray := prog_9_method_24_code
def yX7_listener : MethodName := ⟨RX7, "listener", "()I"⟩
abbrev cX7_pass : ByteArray := prog_9_method_25_code
def yX7_pass : MethodName := ⟨RX7, "pass", "(I)V"⟩
abbrev cX7_set : ByteArray := prog_9_method_26_code
def yX7_set : MethodName := ⟨RX7, "set", "(II)I"⟩
abbrev cX7_areBounds : ByteArray := prog_9_method_27_code
def yX7_areBounds : MethodName := ⟨RX7, "areBounds", "(II)Z"⟩
abbrev cX7_loop : ByteArray := prog_9_method_28_code
def yX7_loop : MethodName := ⟨RX7, "loop", "(IIIII)I"⟩
abbrev cX7_isLoop : ByteArray := prog_9_method_29_code
def yX7_isLoop : MethodName := ⟨RX7, "isLoop", "(I)Z"⟩
abbrev cX7_isCar : ByteArray := prog_9_method_30_code
def yX7_isCar : MethodName := ⟨RX7, "isCar", "(I)Z"⟩
abbrev cX7_bounds : ByteArray := prog_9_method_31_code
def yX7_bounds : MethodName := ⟨RX7, "bounds", "(III)I"⟩
abbrev cX7_come : ByteArray := prog_9_method_32_code
def yX7_come : MethodName := ⟨RX7, "come", "(IIII)I"⟩
abbrev cX7_want : ByteArray := prog_9_method_33_code
def yX7_want : MethodName := ⟨RX7, "want", "(I)I"⟩
abbrev cX7_speed : ByteArray := prog_9_method_34_code
def yX7_speed : MethodName := ⟨RX7, "speed", "(II)I"⟩
abbrev cX7_ticks : ByteArray := prog_9_method_35_code
def yX7_ticks : MethodName := ⟨RX7, "ticks", "(I)I"⟩
abbrev cX7_ofCar : ByteArray := prog_9_method_36_code
def yX7_ofCar : MethodName := ⟨RX7, "ofCar", "(II)I"⟩
abbrev cX7_ofLoop : ByteArray := prog_9_method_37_code
def yX7_ofLoop : MethodName := ⟨RX7, "ofLoop", "(II)I"⟩
abbrev cX7_errorOf : ByteArray := prog_9_method_38_code
def yX7_errorOf : MethodName := ⟨RX7, "errorOf", "(I)I"⟩
abbrev cX7_error : ByteArray := prog_9_method_39_code
def yX7_error : MethodName := ⟨RX7, "error", "(I)I"⟩
abbrev cX7_carAt : ByteArray := prog_9_method_40_code
def yX7_carAt : MethodName := ⟨RX7, "carAt", "(II)I"⟩
abbrev cX7_gone : ByteArray := prog_9_method_41_code
def yX7_gone : MethodName := ⟨RX7, "gone", "()I"⟩
abbrev cX7_sum : ByteArray := prog_9_method_42_code
def yX7_sum : MethodName := ⟨RX7, "sum", "(I)I"⟩
abbrev cX7_count : ByteArray := prog_9_method_43_code
def yX7_count : MethodName := ⟨RX7, "count", "(I)I"⟩
abbrev cX7_inside : ByteArray := prog_9_method_44_code
def yX7_inside : MethodName := ⟨RX7, "inside", "(II)I"⟩
abbrev cX7_counted : ByteArray := prog_9_method_45_code
def yX7_counted : MethodName := ⟨RX7, "counted", "(III)I"⟩
abbrev cX7_countsIn : ByteArray := prog_9_method_46_code
def yX7_countsIn : MethodName := ⟨RX7, "countsIn", "(II)I"⟩
abbrev cX7_countsAlone : ByteArray := prog_9_method_47_code
def yX7_countsAlone : MethodName := ⟨RX7, "countsAlone", "(II)I"⟩
abbrev cX7_amount : ByteArray := prog_9_method_48_code
def yX7_amount : MethodName := ⟨RX7, "amount", "(I)I"⟩
abbrev cX7_bestUpper : ByteArray := prog_9_method_49_code
def yX7_bestUpper : MethodName := ⟨RX7, "bestUpper", "(II)I"⟩
abbrev cX7_bestTurn : ByteArray := prog_9_method_50_code
def yX7_bestTurn : MethodName := ⟨RX7, "bestTurn", "(I)I"⟩
abbrev cX7_goneIn : ByteArray := prog_9_method_51_code
def yX7_goneIn : MethodName := ⟨RX7, "goneIn", "(I)I"⟩
abbrev cX7_sign : ByteArray := prog_9_method_52_code
def yX7_sign : MethodName := ⟨RX7, "sign", "()I"⟩
abbrev cX7_one : ByteArray := prog_9_method_53_code
def yX7_one : MethodName := ⟨RX7, "one", "(II)I"⟩
abbrev cX7_number : ByteArray := prog_9_method_54_code
def yX7_number : MethodName := ⟨RX7, "number", "()I"⟩
abbrev cX7_readOne : ByteArray := prog_9_method_55_code
def yX7_readOne : MethodName := ⟨RX7, "readOne", "()V"⟩
abbrev cX7_faultOf : ByteArray := prog_9_method_56_code
def yX7_faultOf : MethodName := ⟨RX7, "faultOf", "()I"⟩
abbrev cX7_put : ByteArray := prog_9_method_57_code
def yX7_put : MethodName := ⟨RX7, "put", "(J)I"⟩
abbrev cX7_wipe : ByteArray := prog_9_method_58_code
def yX7_wipe : MethodName := ⟨RX7, "wipe", "()I"⟩
abbrev cX7_fault : ByteArray := prog_9_method_59_code
def yX7_fault : MethodName := ⟨RX7, "fault", "()I"⟩
abbrev cX7_carry : ByteArray := prog_9_method_60_code
def yX7_carry : MethodName := ⟨RX7, "carry", "(I)I"⟩
abbrev cX7_carryOut : ByteArray := prog_9_method_61_code
def yX7_carryOut : MethodName := ⟨RX7, "carryOut", "()I"⟩
abbrev cX7_undo : ByteArray := prog_9_method_62_code
def yX7_undo : MethodName := ⟨RX7, "undo", "()I"⟩
abbrev cX7_save : ByteArray := prog_9_method_63_code
def yX7_save : MethodName := ⟨RX7, "save", "(I)I"⟩
abbrev cX7_restore : ByteArray := prog_9_method_64_code
def yX7_restore : MethodName := ⟨RX7, "restore", "(I)I"⟩
def RJ9 : String := "java/lang/Math"
abbrev cJ9_abs_0f7a4 : ByteArray := prog_10_method_59_code
def yJ9_abs_0f7a4 : MethodName := ⟨RJ9, "abs", "(I)I"⟩
abbrev cJ9_min_7cf53 : ByteArray := prog_10_method_69_code
def yJ9_min_7cf53 : MethodName := ⟨RJ9, "min", "(II)I"⟩
def RL : String := "LoopListenersLaw"
abbrev cL_law : ByteArray := code
def yL_law : MethodName := ⟨RL, "law", "([I)Z"⟩
abbrev vwCl : List vw_C := [(RX0, TX0, 11), (RX1, TX1, 3), (RX2, TX2, 9), (RX3, TX3, 2), (RX4, TX4, 9), (RX5, TX5, 2), (RX6, TX6, 7), (RX7, TX7, 15)]
