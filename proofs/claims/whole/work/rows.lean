section
-- ===== PART A: goes FIRST, ahead of the names: the tables' words, and 'selects' of the private methods out of them =====
/-- a private method of a class that the tables say can be made, by its rows of tables_1 -/
def lw_okq (q : MethodName × Nat) : Prop := (q.1.cls ≠ "java/lang/invoke/MethodHandle" ∧ q.1.cls ≠ "java/lang/invoke/VarHandle") ∧ Cond.instantiable q.1.cls q.2 ∈ tables_1 ∧ Cond.privateMethod q.1 ∈ tables_1 ∧ Cond.instanceMethod q.1 ∈ tables_1
theorem lw_p0 : lw_okq (⟨"StreamDesk", "dataFault", "()I"⟩, 13) := ⟨⟨by decide +kernel, by decide +kernel⟩, List.mem_of_getElem? (i := 13) (by decide +kernel), List.mem_of_getElem? (i := 146) (by decide +kernel), List.mem_of_getElem? (i := 147) (by decide +kernel)⟩
theorem lw_p1 : lw_okq (⟨"StreamDesk", "rateOf", "(I)I"⟩, 13) := ⟨⟨by decide +kernel, by decide +kernel⟩, List.mem_of_getElem? (i := 13) (by decide +kernel), List.mem_of_getElem? (i := 177) (by decide +kernel), List.mem_of_getElem? (i := 178) (by decide +kernel)⟩
theorem lw_p2 : lw_okq (⟨"StreamDesk", "senderWith", "(I)LStreamDesk$Sender;"⟩, 13) := ⟨⟨by decide +kernel, by decide +kernel⟩, List.mem_of_getElem? (i := 13) (by decide +kernel), List.mem_of_getElem? (i := 189) (by decide +kernel), List.mem_of_getElem? (i := 190) (by decide +kernel)⟩
theorem lw_p3 : lw_okq (⟨"StreamDesk", "senderNumbered", "(I)LStreamDesk$Sender;"⟩, 13) := ⟨⟨by decide +kernel, by decide +kernel⟩, List.mem_of_getElem? (i := 13) (by decide +kernel), List.mem_of_getElem? (i := 193) (by decide +kernel), List.mem_of_getElem? (i := 194) (by decide +kernel)⟩
theorem lw_p4 : lw_okq (⟨"StreamDesk", "senderThatSent", "()LStreamDesk$Sender;"⟩, 13) := ⟨⟨by decide +kernel, by decide +kernel⟩, List.mem_of_getElem? (i := 13) (by decide +kernel), List.mem_of_getElem? (i := 197) (by decide +kernel), List.mem_of_getElem? (i := 198) (by decide +kernel)⟩
theorem lw_p5 : lw_okq (⟨"StreamDesk$Numbers", "setBy", "(I)V"⟩, 8) := ⟨⟨by decide +kernel, by decide +kernel⟩, List.mem_of_getElem? (i := 263) (by decide +kernel), List.mem_of_getElem? (i := 269) (by decide +kernel), List.mem_of_getElem? (i := 270) (by decide +kernel)⟩
theorem lw_p6 : lw_okq (⟨"StreamDesk$Numbers", "judgeOnProbation", "(I)I"⟩, 8) := ⟨⟨by decide +kernel, by decide +kernel⟩, List.mem_of_getElem? (i := 263) (by decide +kernel), List.mem_of_getElem? (i := 347) (by decide +kernel), List.mem_of_getElem? (i := 348) (by decide +kernel)⟩
theorem lw_p7 : lw_okq (⟨"StreamDesk$Numbers", "judgeBelieved", "(I)I"⟩, 8) := ⟨⟨by decide +kernel, by decide +kernel⟩, List.mem_of_getElem? (i := 263) (by decide +kernel), List.mem_of_getElem? (i := 351) (by decide +kernel), List.mem_of_getElem? (i := 352) (by decide +kernel)⟩
theorem lw_p8 : lw_okq (⟨"StreamDesk$Player", "hold", "(JJ)V"⟩, 9) := ⟨⟨by decide +kernel, by decide +kernel⟩, List.mem_of_getElem? (i := 201) (by decide +kernel), List.mem_of_getElem? (i := 389) (by decide +kernel), List.mem_of_getElem? (i := 390) (by decide +kernel)⟩
theorem lw_p9 : lw_okq (⟨"StreamDesk$Player", "sinceBegin", "(II)J"⟩, 9) := ⟨⟨by decide +kernel, by decide +kernel⟩, List.mem_of_getElem? (i := 201) (by decide +kernel), List.mem_of_getElem? (i := 409) (by decide +kernel), List.mem_of_getElem? (i := 410) (by decide +kernel)⟩
theorem lw_p10 : lw_okq (⟨"StreamDesk$Player", "gapToDue", "(I)I"⟩, 9) := ⟨⟨by decide +kernel, by decide +kernel⟩, List.mem_of_getElem? (i := 201) (by decide +kernel), List.mem_of_getElem? (i := 421) (by decide +kernel), List.mem_of_getElem? (i := 422) (by decide +kernel)⟩
theorem lw_p11 : lw_okq (⟨"StreamDesk$Player", "step", "(II)V"⟩, 9) := ⟨⟨by decide +kernel, by decide +kernel⟩, List.mem_of_getElem? (i := 201) (by decide +kernel), List.mem_of_getElem? (i := 425) (by decide +kernel), List.mem_of_getElem? (i := 426) (by decide +kernel)⟩
theorem lw_p12 : lw_okq (⟨"StreamDesk", "senderReported", "(I)LStreamDesk$Sender;"⟩, 13) := ⟨⟨by decide +kernel, by decide +kernel⟩, List.mem_of_getElem? (i := 13) (by decide +kernel), List.mem_of_getElem? (i := 513) (by decide +kernel), List.mem_of_getElem? (i := 514) (by decide +kernel)⟩
theorem lw_p13 : lw_okq (⟨"StreamDesk", "hearPart", "(I)V"⟩, 13) := ⟨⟨by decide +kernel, by decide +kernel⟩, List.mem_of_getElem? (i := 13) (by decide +kernel), List.mem_of_getElem? (i := 556) (by decide +kernel), List.mem_of_getElem? (i := 557) (by decide +kernel)⟩
theorem lw_p14 : lw_okq (⟨"StreamDesk", "hearLeaving", "(I)V"⟩, 13) := ⟨⟨by decide +kernel, by decide +kernel⟩, List.mem_of_getElem? (i := 13) (by decide +kernel), List.mem_of_getElem? (i := 561) (by decide +kernel), List.mem_of_getElem? (i := 562) (by decide +kernel)⟩
theorem lw_p15 : lw_okq (⟨"StreamDesk", "hearClock", "(I)V"⟩, 13) := ⟨⟨by decide +kernel, by decide +kernel⟩, List.mem_of_getElem? (i := 13) (by decide +kernel), List.mem_of_getElem? (i := 573) (by decide +kernel), List.mem_of_getElem? (i := 574) (by decide +kernel)⟩
def lw_privs_1 : List (MethodName × Nat) := [(⟨"StreamDesk", "dataFault", "()I"⟩, 13), (⟨"StreamDesk", "rateOf", "(I)I"⟩, 13), (⟨"StreamDesk", "senderWith", "(I)LStreamDesk$Sender;"⟩, 13), (⟨"StreamDesk", "senderNumbered", "(I)LStreamDesk$Sender;"⟩, 13), (⟨"StreamDesk", "senderThatSent", "()LStreamDesk$Sender;"⟩, 13), (⟨"StreamDesk$Numbers", "setBy", "(I)V"⟩, 8), (⟨"StreamDesk$Numbers", "judgeOnProbation", "(I)I"⟩, 8), (⟨"StreamDesk$Numbers", "judgeBelieved", "(I)I"⟩, 8), (⟨"StreamDesk$Player", "hold", "(JJ)V"⟩, 9), (⟨"StreamDesk$Player", "sinceBegin", "(II)J"⟩, 9), (⟨"StreamDesk$Player", "gapToDue", "(I)I"⟩, 9), (⟨"StreamDesk$Player", "step", "(II)V"⟩, 9), (⟨"StreamDesk", "senderReported", "(I)LStreamDesk$Sender;"⟩, 13), (⟨"StreamDesk", "hearPart", "(I)V"⟩, 13), (⟨"StreamDesk", "hearLeaving", "(I)V"⟩, 13), (⟨"StreamDesk", "hearClock", "(I)V"⟩, 13)]
theorem lw_r1 : ∀ q ∈ lw_privs_1, lw_okq q := List.forall_mem_cons.mpr ⟨lw_p0, List.forall_mem_cons.mpr ⟨lw_p1, List.forall_mem_cons.mpr ⟨lw_p2, List.forall_mem_cons.mpr ⟨lw_p3, List.forall_mem_cons.mpr ⟨lw_p4, List.forall_mem_cons.mpr ⟨lw_p5, List.forall_mem_cons.mpr ⟨lw_p6, List.forall_mem_cons.mpr ⟨lw_p7, List.forall_mem_cons.mpr ⟨lw_p8, List.forall_mem_cons.mpr ⟨lw_p9, List.forall_mem_cons.mpr ⟨lw_p10, List.forall_mem_cons.mpr ⟨lw_p11, List.forall_mem_cons.mpr ⟨lw_p12, List.forall_mem_cons.mpr ⟨lw_p13, List.forall_mem_cons.mpr ⟨lw_p14, List.forall_mem_cons.mpr ⟨lw_p15, fun _ h => absurd h List.not_mem_nil⟩⟩⟩⟩⟩⟩⟩⟩⟩⟩⟩⟩⟩⟩⟩⟩
theorem lw_p16 : lw_okq (⟨"StreamDesk", "hearBlocks", "(II)V"⟩, 13) := ⟨⟨by decide +kernel, by decide +kernel⟩, List.mem_of_getElem? (i := 13) (by decide +kernel), List.mem_of_getElem? (i := 582) (by decide +kernel), List.mem_of_getElem? (i := 583) (by decide +kernel)⟩
theorem lw_p17 : lw_okq (⟨"StreamDesk", "keepBlock", "(II)V"⟩, 13) := ⟨⟨by decide +kernel, by decide +kernel⟩, List.mem_of_getElem? (i := 13) (by decide +kernel), List.mem_of_getElem? (i := 586) (by decide +kernel), List.mem_of_getElem? (i := 587) (by decide +kernel)⟩
theorem lw_p18 : lw_okq (⟨"StreamDeskModel", "put", "(I)V"⟩, 41) := ⟨⟨by decide +kernel, by decide +kernel⟩, List.mem_of_getElem? (i := 608) (by decide +kernel), List.mem_of_getElem? (i := 746) (by decide +kernel), List.mem_of_getElem? (i := 747) (by decide +kernel)⟩
theorem lw_p19 : lw_okq (⟨"StreamDeskModel", "faultOf", "()I"⟩, 41) := ⟨⟨by decide +kernel, by decide +kernel⟩, List.mem_of_getElem? (i := 608) (by decide +kernel), List.mem_of_getElem? (i := 774) (by decide +kernel), List.mem_of_getElem? (i := 775) (by decide +kernel)⟩
theorem lw_p20 : lw_okq (⟨"StreamDeskModel", "formOf", "()I"⟩, 41) := ⟨⟨by decide +kernel, by decide +kernel⟩, List.mem_of_getElem? (i := 608) (by decide +kernel), List.mem_of_getElem? (i := 778) (by decide +kernel), List.mem_of_getElem? (i := 779) (by decide +kernel)⟩
theorem lw_p21 : lw_okq (⟨"StreamDeskModel", "two", "(I)I"⟩, 41) := ⟨⟨by decide +kernel, by decide +kernel⟩, List.mem_of_getElem? (i := 608) (by decide +kernel), List.mem_of_getElem? (i := 782) (by decide +kernel), List.mem_of_getElem? (i := 783) (by decide +kernel)⟩
theorem lw_p22 : lw_okq (⟨"StreamDeskModel", "four", "(I)I"⟩, 41) := ⟨⟨by decide +kernel, by decide +kernel⟩, List.mem_of_getElem? (i := 608) (by decide +kernel), List.mem_of_getElem? (i := 786) (by decide +kernel), List.mem_of_getElem? (i := 787) (by decide +kernel)⟩
theorem lw_p23 : lw_okq (⟨"StreamDeskModel", "senderOf", "(I)I"⟩, 41) := ⟨⟨by decide +kernel, by decide +kernel⟩, List.mem_of_getElem? (i := 608) (by decide +kernel), List.mem_of_getElem? (i := 790) (by decide +kernel), List.mem_of_getElem? (i := 791) (by decide +kernel)⟩
theorem lw_p24 : lw_okq (⟨"StreamDeskModel", "comes", "(II)I"⟩, 41) := ⟨⟨by decide +kernel, by decide +kernel⟩, List.mem_of_getElem? (i := 608) (by decide +kernel), List.mem_of_getElem? (i := 799) (by decide +kernel), List.mem_of_getElem? (i := 800) (by decide +kernel)⟩
theorem lw_p25 : lw_okq (⟨"StreamDeskModel", "set", "(II)V"⟩, 41) := ⟨⟨by decide +kernel, by decide +kernel⟩, List.mem_of_getElem? (i := 608) (by decide +kernel), List.mem_of_getElem? (i := 803) (by decide +kernel), List.mem_of_getElem? (i := 804) (by decide +kernel)⟩
theorem lw_p26 : lw_okq (⟨"StreamDeskModel", "believes", "(II)Z"⟩, 41) := ⟨⟨by decide +kernel, by decide +kernel⟩, List.mem_of_getElem? (i := 608) (by decide +kernel), List.mem_of_getElem? (i := 809) (by decide +kernel), List.mem_of_getElem? (i := 810) (by decide +kernel)⟩
theorem lw_p27 : lw_okq (⟨"StreamDeskModel", "jitters", "(III)V"⟩, 41) := ⟨⟨by decide +kernel, by decide +kernel⟩, List.mem_of_getElem? (i := 608) (by decide +kernel), List.mem_of_getElem? (i := 815) (by decide +kernel), List.mem_of_getElem? (i := 816) (by decide +kernel)⟩
theorem lw_p28 : lw_okq (⟨"StreamDeskModel", "lays", "(IJII)V"⟩, 41) := ⟨⟨by decide +kernel, by decide +kernel⟩, List.mem_of_getElem? (i := 608) (by decide +kernel), List.mem_of_getElem? (i := 821) (by decide +kernel), List.mem_of_getElem? (i := 822) (by decide +kernel)⟩
theorem lw_p29 : lw_okq (⟨"StreamDeskModel", "waiting", "(I)I"⟩, 41) := ⟨⟨by decide +kernel, by decide +kernel⟩, List.mem_of_getElem? (i := 608) (by decide +kernel), List.mem_of_getElem? (i := 826) (by decide +kernel), List.mem_of_getElem? (i := 827) (by decide +kernel)⟩
theorem lw_p30 : lw_okq (⟨"StreamDeskModel", "begins", "(IJI)V"⟩, 41) := ⟨⟨by decide +kernel, by decide +kernel⟩, List.mem_of_getElem? (i := 608) (by decide +kernel), List.mem_of_getElem? (i := 830) (by decide +kernel), List.mem_of_getElem? (i := 831) (by decide +kernel)⟩
theorem lw_p31 : lw_okq (⟨"StreamDeskModel", "forget", "(I)V"⟩, 41) := ⟨⟨by decide +kernel, by decide +kernel⟩, List.mem_of_getElem? (i := 608) (by decide +kernel), List.mem_of_getElem? (i := 834) (by decide +kernel), List.mem_of_getElem? (i := 835) (by decide +kernel)⟩
def lw_privs_2 : List (MethodName × Nat) := [(⟨"StreamDesk", "hearBlocks", "(II)V"⟩, 13), (⟨"StreamDesk", "keepBlock", "(II)V"⟩, 13), (⟨"StreamDeskModel", "put", "(I)V"⟩, 41), (⟨"StreamDeskModel", "faultOf", "()I"⟩, 41), (⟨"StreamDeskModel", "formOf", "()I"⟩, 41), (⟨"StreamDeskModel", "two", "(I)I"⟩, 41), (⟨"StreamDeskModel", "four", "(I)I"⟩, 41), (⟨"StreamDeskModel", "senderOf", "(I)I"⟩, 41), (⟨"StreamDeskModel", "comes", "(II)I"⟩, 41), (⟨"StreamDeskModel", "set", "(II)V"⟩, 41), (⟨"StreamDeskModel", "believes", "(II)Z"⟩, 41), (⟨"StreamDeskModel", "jitters", "(III)V"⟩, 41), (⟨"StreamDeskModel", "lays", "(IJII)V"⟩, 41), (⟨"StreamDeskModel", "waiting", "(I)I"⟩, 41), (⟨"StreamDeskModel", "begins", "(IJI)V"⟩, 41), (⟨"StreamDeskModel", "forget", "(I)V"⟩, 41)]
theorem lw_r2 : ∀ q ∈ lw_privs_2, lw_okq q := List.forall_mem_cons.mpr ⟨lw_p16, List.forall_mem_cons.mpr ⟨lw_p17, List.forall_mem_cons.mpr ⟨lw_p18, List.forall_mem_cons.mpr ⟨lw_p19, List.forall_mem_cons.mpr ⟨lw_p20, List.forall_mem_cons.mpr ⟨lw_p21, List.forall_mem_cons.mpr ⟨lw_p22, List.forall_mem_cons.mpr ⟨lw_p23, List.forall_mem_cons.mpr ⟨lw_p24, List.forall_mem_cons.mpr ⟨lw_p25, List.forall_mem_cons.mpr ⟨lw_p26, List.forall_mem_cons.mpr ⟨lw_p27, List.forall_mem_cons.mpr ⟨lw_p28, List.forall_mem_cons.mpr ⟨lw_p29, List.forall_mem_cons.mpr ⟨lw_p30, List.forall_mem_cons.mpr ⟨lw_p31, fun _ h => absurd h List.not_mem_nil⟩⟩⟩⟩⟩⟩⟩⟩⟩⟩⟩⟩⟩⟩⟩⟩
theorem lw_p32 : lw_okq (⟨"StreamDeskModel", "happens", "(IIJ)V"⟩, 41) := ⟨⟨by decide +kernel, by decide +kernel⟩, List.mem_of_getElem? (i := 608) (by decide +kernel), List.mem_of_getElem? (i := 838) (by decide +kernel), List.mem_of_getElem? (i := 839) (by decide +kernel)⟩
theorem lw_p33 : lw_okq (⟨"StreamDeskModel", "plays", "(I)I"⟩, 41) := ⟨⟨by decide +kernel, by decide +kernel⟩, List.mem_of_getElem? (i := 608) (by decide +kernel), List.mem_of_getElem? (i := 845) (by decide +kernel), List.mem_of_getElem? (i := 846) (by decide +kernel)⟩
theorem lw_p34 : lw_okq (⟨"StreamDeskModel", "shift", "(II)V"⟩, 41) := ⟨⟨by decide +kernel, by decide +kernel⟩, List.mem_of_getElem? (i := 608) (by decide +kernel), List.mem_of_getElem? (i := 849) (by decide +kernel), List.mem_of_getElem? (i := 850) (by decide +kernel)⟩
theorem lw_p35 : lw_okq (⟨"StreamDeskModel", "isSender", "(I)Z"⟩, 41) := ⟨⟨by decide +kernel, by decide +kernel⟩, List.mem_of_getElem? (i := 608) (by decide +kernel), List.mem_of_getElem? (i := 868) (by decide +kernel), List.mem_of_getElem? (i := 869) (by decide +kernel)⟩
theorem lw_p36 : lw_okq (⟨"StreamDeskModel", "dueOf", "(I)I"⟩, 41) := ⟨⟨by decide +kernel, by decide +kernel⟩, List.mem_of_getElem? (i := 608) (by decide +kernel), List.mem_of_getElem? (i := 873) (by decide +kernel), List.mem_of_getElem? (i := 874) (by decide +kernel)⟩
theorem lw_p37 : lw_okq (⟨"StreamDeskModel", "lostOf", "(I)I"⟩, 41) := ⟨⟨by decide +kernel, by decide +kernel⟩, List.mem_of_getElem? (i := 608) (by decide +kernel), List.mem_of_getElem? (i := 877) (by decide +kernel), List.mem_of_getElem? (i := 878) (by decide +kernel)⟩
theorem lw_p38 : lw_okq (⟨"StreamDeskModel", "putAll", "(II)V"⟩, 41) := ⟨⟨by decide +kernel, by decide +kernel⟩, List.mem_of_getElem? (i := 608) (by decide +kernel), List.mem_of_getElem? (i := 904) (by decide +kernel), List.mem_of_getElem? (i := 905) (by decide +kernel)⟩
theorem lw_p39 : lw_okq (⟨"StreamDeskModel", "putBlock", "(I)V"⟩, 41) := ⟨⟨by decide +kernel, by decide +kernel⟩, List.mem_of_getElem? (i := 608) (by decide +kernel), List.mem_of_getElem? (i := 908) (by decide +kernel), List.mem_of_getElem? (i := 909) (by decide +kernel)⟩
theorem lw_p40 : lw_okq (⟨"StreamDeskModel", "reportFault", "()I"⟩, 41) := ⟨⟨by decide +kernel, by decide +kernel⟩, List.mem_of_getElem? (i := 608) (by decide +kernel), List.mem_of_getElem? (i := 917) (by decide +kernel), List.mem_of_getElem? (i := 918) (by decide +kernel)⟩
theorem lw_p41 : lw_okq (⟨"StreamDeskModel", "partFault", "(I)I"⟩, 41) := ⟨⟨by decide +kernel, by decide +kernel⟩, List.mem_of_getElem? (i := 608) (by decide +kernel), List.mem_of_getElem? (i := 923) (by decide +kernel), List.mem_of_getElem? (i := 924) (by decide +kernel)⟩
theorem lw_p42 : lw_okq (⟨"StreamDeskModel", "endOf", "(I)I"⟩, 41) := ⟨⟨by decide +kernel, by decide +kernel⟩, List.mem_of_getElem? (i := 608) (by decide +kernel), List.mem_of_getElem? (i := 927) (by decide +kernel), List.mem_of_getElem? (i := 928) (by decide +kernel)⟩
theorem lw_p43 : lw_okq (⟨"StreamDeskModel", "hearPart", "(I)V"⟩, 41) := ⟨⟨by decide +kernel, by decide +kernel⟩, List.mem_of_getElem? (i := 608) (by decide +kernel), List.mem_of_getElem? (i := 932) (by decide +kernel), List.mem_of_getElem? (i := 933) (by decide +kernel)⟩
theorem lw_p44 : lw_okq (⟨"StreamDeskModel", "hearBlocks", "(III)V"⟩, 41) := ⟨⟨by decide +kernel, by decide +kernel⟩, List.mem_of_getElem? (i := 608) (by decide +kernel), List.mem_of_getElem? (i := 936) (by decide +kernel), List.mem_of_getElem? (i := 937) (by decide +kernel)⟩
theorem lw_p45 : lw_okq (⟨"StreamDeskModel", "hearLeaving", "(II)V"⟩, 41) := ⟨⟨by decide +kernel, by decide +kernel⟩, List.mem_of_getElem? (i := 608) (by decide +kernel), List.mem_of_getElem? (i := 941) (by decide +kernel), List.mem_of_getElem? (i := 942) (by decide +kernel)⟩
def lw_privs_3 : List (MethodName × Nat) := [(⟨"StreamDeskModel", "happens", "(IIJ)V"⟩, 41), (⟨"StreamDeskModel", "plays", "(I)I"⟩, 41), (⟨"StreamDeskModel", "shift", "(II)V"⟩, 41), (⟨"StreamDeskModel", "isSender", "(I)Z"⟩, 41), (⟨"StreamDeskModel", "dueOf", "(I)I"⟩, 41), (⟨"StreamDeskModel", "lostOf", "(I)I"⟩, 41), (⟨"StreamDeskModel", "putAll", "(II)V"⟩, 41), (⟨"StreamDeskModel", "putBlock", "(I)V"⟩, 41), (⟨"StreamDeskModel", "reportFault", "()I"⟩, 41), (⟨"StreamDeskModel", "partFault", "(I)I"⟩, 41), (⟨"StreamDeskModel", "endOf", "(I)I"⟩, 41), (⟨"StreamDeskModel", "hearPart", "(I)V"⟩, 41), (⟨"StreamDeskModel", "hearBlocks", "(III)V"⟩, 41), (⟨"StreamDeskModel", "hearLeaving", "(II)V"⟩, 41)]
theorem lw_r3 : ∀ q ∈ lw_privs_3, lw_okq q := List.forall_mem_cons.mpr ⟨lw_p32, List.forall_mem_cons.mpr ⟨lw_p33, List.forall_mem_cons.mpr ⟨lw_p34, List.forall_mem_cons.mpr ⟨lw_p35, List.forall_mem_cons.mpr ⟨lw_p36, List.forall_mem_cons.mpr ⟨lw_p37, List.forall_mem_cons.mpr ⟨lw_p38, List.forall_mem_cons.mpr ⟨lw_p39, List.forall_mem_cons.mpr ⟨lw_p40, List.forall_mem_cons.mpr ⟨lw_p41, List.forall_mem_cons.mpr ⟨lw_p42, List.forall_mem_cons.mpr ⟨lw_p43, List.forall_mem_cons.mpr ⟨lw_p44, List.forall_mem_cons.mpr ⟨lw_p45, fun _ h => absurd h List.not_mem_nil⟩⟩⟩⟩⟩⟩⟩⟩⟩⟩⟩⟩⟩⟩
def lw_privs : List (MethodName × Nat) := lw_privs_1 ++ (lw_privs_2 ++ (lw_privs_3))
def lw_tbl : List Cond := k2_sels lw_privs ++ tables_1
theorem lw_privs_ok : ∀ q ∈ lw_privs, lw_okq q := by
  show ∀ q ∈ lw_privs_1 ++ (lw_privs_2 ++ (lw_privs_3)), lw_okq q
  exact List.forall_mem_append.mpr ⟨lw_r1, List.forall_mem_append.mpr ⟨lw_r2, lw_r3⟩⟩
-- ===== end of PART A; then your names; then what follows =====
end
section
/-! the program as tables (by program, wip/whole/gen.py): tags, methods, instructions with what they link -/
abbrev sd_I : Type := Nat × Instr × Nat × Nat × Nat × Nat × Nat × Nat × Int32 × Int64 × List Nat
def sd_nth {α : Type} : List α → Nat → Option α
  | [], _ => none
  | a :: _, 0 => some a
  | _ :: t, n + 1 => sd_nth t n
def sd_R0 : String := "StreamDesk"
def sd_F0 : u_T := fun k => match k with
  | 0 => ("StreamDesk", "packet", "LStreamDesk$Packet;", true)
  | 1 => ("StreamDesk", "log", "LStreamDesk$EventLog;", true)
  | 2 => ("StreamDesk", "rates", "[I", true)
  | 3 => ("StreamDesk", "senders", "[LStreamDesk$Sender;", true)
  | 4 => ("StreamDesk", "heardBlock", "[I", true)
  | 5 => ("StreamDesk", "senderCount", "I", false)
  | 6 => ("StreamDesk", "now", "I", false)
  | 7 => ("StreamDesk", "playDelay", "I", false)
  | 8 => ("StreamDesk", "goodCount", "I", false)
  | 9 => ("StreamDesk", "notYetCount", "I", false)
  | 10 => ("StreamDesk", "faultCount", "I", false)
  | 11 => ("StreamDesk", "reportCount", "I", false)
  | _ => ("StreamDesk", "ownBytes", "I", false)
def sd_Y0 : Nat → FieldType := fun k => match k with
  | 0 => .object "StreamDesk$Packet"
  | 1 => .object "StreamDesk$EventLog"
  | 2 => .array .int
  | 3 => .array (.object "StreamDesk$Sender")
  | 4 => .array .int
  | 5 => .int
  | 6 => .int
  | 7 => .int
  | 8 => .int
  | 9 => .int
  | 10 => .int
  | 11 => .int
  | _ => .int
def sd_R1 : String := "StreamDesk$Packet"
def sd_F1 : u_T := fun k => match k with
  | 0 => ("StreamDesk$Packet", "bytes", "[I", true)
  | _ => ("StreamDesk$Packet", "size", "I", false)
def sd_Y1 : Nat → FieldType := fun k => match k with
  | 0 => .array .int
  | _ => .int
def sd_R2 : String := "StreamDesk$EventLog"
def sd_F2 : u_T := fun k => match k with
  | 0 => ("StreamDesk$EventLog", "kinds", "[I", true)
  | 1 => ("StreamDesk$EventLog", "senderNumbers", "[I", true)
  | 2 => ("StreamDesk$EventLog", "longNumbers", "[J", true)
  | 3 => ("StreamDesk$EventLog", "nows", "[I", true)
  | _ => ("StreamDesk$EventLog", "total", "I", false)
def sd_Y2 : Nat → FieldType := fun k => match k with
  | 0 => .array .int
  | 1 => .array .int
  | 2 => .array .long
  | 3 => .array .int
  | _ => .int
def sd_R3 : String := "StreamDesk$Sender"
def sd_F3 : u_T := fun k => match k with
  | 0 => ("StreamDesk$Sender", "bytes", "I", true)
  | 1 => ("StreamDesk$Sender", "numbers", "LStreamDesk$Numbers;", true)
  | 2 => ("StreamDesk$Sender", "jitter", "LStreamDesk$Jitter;", true)
  | 3 => ("StreamDesk$Sender", "player", "LStreamDesk$Player;", true)
  | 4 => ("StreamDesk$Sender", "left", "Z", false)
  | 5 => ("StreamDesk$Sender", "hasClock", "Z", false)
  | 6 => ("StreamDesk$Sender", "clockMiddle", "I", false)
  | _ => ("StreamDesk$Sender", "clockNow", "I", false)
def sd_Y3 : Nat → FieldType := fun k => match k with
  | 0 => .int
  | 1 => .object "StreamDesk$Numbers"
  | 2 => .object "StreamDesk$Jitter"
  | 3 => .object "StreamDesk$Player"
  | 4 => .boolean
  | 5 => .boolean
  | 6 => .int
  | _ => .int
def sd_R4 : String := "StreamDesk$Numbers"
def sd_F4 : u_T := fun k => match k with
  | 0 => ("StreamDesk$Numbers", "top", "I", false)
  | 1 => ("StreamDesk$Numbers", "rounds", "I", false)
  | 2 => ("StreamDesk$Numbers", "base", "I", false)
  | 3 => ("StreamDesk$Numbers", "odd", "I", false)
  | 4 => ("StreamDesk$Numbers", "probation", "I", false)
  | 5 => ("StreamDesk$Numbers", "got", "I", false)
  | 6 => ("StreamDesk$Numbers", "gotBefore", "I", false)
  | _ => ("StreamDesk$Numbers", "dueBefore", "I", false)
def sd_Y4 : Nat → FieldType := fun k => match k with
  | 0 => .int
  | 1 => .int
  | 2 => .int
  | 3 => .int
  | 4 => .int
  | 5 => .int
  | 6 => .int
  | _ => .int
def sd_R5 : String := "StreamDesk$Jitter"
def sd_F5 : u_T := fun k => match k with
  | 0 => ("StreamDesk$Jitter", "value", "I", false)
  | 1 => ("StreamDesk$Jitter", "kept", "I", false)
  | _ => ("StreamDesk$Jitter", "hasKept", "Z", false)
def sd_Y5 : Nat → FieldType := fun k => match k with
  | 0 => .int
  | 1 => .int
  | _ => .boolean
def sd_R6 : String := "StreamDesk$Player"
def sd_F6 : u_T := fun k => match k with
  | 0 => ("StreamDesk$Player", "log", "LStreamDesk$EventLog;", true)
  | 1 => ("StreamDesk$Player", "senderNumber", "I", true)
  | 2 => ("StreamDesk$Player", "notes", "[I", true)
  | 3 => ("StreamDesk$Player", "times", "[J", true)
  | 4 => ("StreamDesk$Player", "held", "[Z", true)
  | 5 => ("StreamDesk$Player", "waiting", "I", false)
  | 6 => ("StreamDesk$Player", "nextNumber", "J", false)
  | 7 => ("StreamDesk$Player", "beginTime", "J", false)
  | _ => ("StreamDesk$Player", "beginStamp", "I", false)
def sd_Y6 : Nat → FieldType := fun k => match k with
  | 0 => .object "StreamDesk$EventLog"
  | 1 => .int
  | 2 => .array .int
  | 3 => .array .long
  | 4 => .array .boolean
  | 5 => .int
  | 6 => .long
  | 7 => .long
  | _ => .int
def sd_R7 : String := "StreamDeskModel"
def sd_F7 : u_T := fun k => match k with
  | 0 => ("StreamDeskModel", "now", "I", false)
  | 1 => ("StreamDeskModel", "delay", "I", false)
  | 2 => ("StreamDeskModel", "size", "I", false)
  | 3 => ("StreamDeskModel", "packet", "[I", true)
  | 4 => ("StreamDeskModel", "rates", "[I", true)
  | 5 => ("StreamDeskModel", "from", "I", false)
  | 6 => ("StreamDeskModel", "length", "I", false)
  | 7 => ("StreamDeskModel", "told", "I", false)
  | 8 => ("StreamDeskModel", "senders", "I", false)
  | 9 => ("StreamDeskModel", "names", "[I", true)
  | 10 => ("StreamDeskModel", "top", "[I", true)
  | 11 => ("StreamDeskModel", "rounds", "[I", true)
  | 12 => ("StreamDeskModel", "base", "[I", true)
  | 13 => ("StreamDeskModel", "odd", "[I", true)
  | 14 => ("StreamDeskModel", "wait", "[I", true)
  | 15 => ("StreamDeskModel", "got", "[I", true)
  | 16 => ("StreamDeskModel", "gotBefore", "[I", true)
  | 17 => ("StreamDeskModel", "dueBefore", "[I", true)
  | 18 => ("StreamDeskModel", "hasTransit", "[Z", true)
  | 19 => ("StreamDeskModel", "transit", "[I", true)
  | 20 => ("StreamDeskModel", "jitter", "[I", true)
  | 21 => ("StreamDeskModel", "hasLeft", "[Z", true)
  | 22 => ("StreamDeskModel", "hasClock", "[Z", true)
  | 23 => ("StreamDeskModel", "clock", "[I", true)
  | 24 => ("StreamDeskModel", "clockAt", "[I", true)
  | 25 => ("StreamDeskModel", "began", "[Z", true)
  | 26 => ("StreamDeskModel", "next", "[J", true)
  | 27 => ("StreamDeskModel", "start", "[J", true)
  | 28 => ("StreamDeskModel", "startStamp", "[I", true)
  | 29 => ("StreamDeskModel", "waits", "[Z", true)
  | 30 => ("StreamDeskModel", "times", "[J", true)
  | 31 => ("StreamDeskModel", "counts", "[I", true)
  | 32 => ("StreamDeskModel", "good", "I", false)
  | 33 => ("StreamDeskModel", "notYet", "I", false)
  | 34 => ("StreamDeskModel", "faulty", "I", false)
  | 35 => ("StreamDeskModel", "events", "I", false)
  | 36 => ("StreamDeskModel", "eventRows", "[J", true)
  | 37 => ("StreamDeskModel", "isAnew", "Z", false)
  | 38 => ("StreamDeskModel", "own", "I", false)
  | 39 => ("StreamDeskModel", "heardMany", "I", false)
  | _ => ("StreamDeskModel", "heard", "[I", true)
def sd_Y7 : Nat → FieldType := fun k => match k with
  | 0 => .int
  | 1 => .int
  | 2 => .int
  | 3 => .array .int
  | 4 => .array .int
  | 5 => .int
  | 6 => .int
  | 7 => .int
  | 8 => .int
  | 9 => .array .int
  | 10 => .array .int
  | 11 => .array .int
  | 12 => .array .int
  | 13 => .array .int
  | 14 => .array .int
  | 15 => .array .int
  | 16 => .array .int
  | 17 => .array .int
  | 18 => .array .boolean
  | 19 => .array .int
  | 20 => .array .int
  | 21 => .array .boolean
  | 22 => .array .boolean
  | 23 => .array .int
  | 24 => .array .int
  | 25 => .array .boolean
  | 26 => .array .long
  | 27 => .array .long
  | 28 => .array .int
  | 29 => .array .boolean
  | 30 => .array .long
  | 31 => .array .int
  | 32 => .int
  | 33 => .int
  | 34 => .int
  | 35 => .int
  | 36 => .array .long
  | 37 => .boolean
  | 38 => .int
  | 39 => .int
  | _ => .array .int
abbrev sd_cl : List vw_C := [(sd_R0, sd_F0, 13), (sd_R1, sd_F1, 2), (sd_R2, sd_F2, 5), (sd_R3, sd_F3, 8), (sd_R4, sd_F4, 8), (sd_R5, sd_F5, 3), (sd_R6, sd_F6, 9), (sd_R7, sd_F7, 41)]
/-- tags: an object class (true, number of fields, field codes) or a row (false, length, [code of its places]); codes: 0 int, 1 long, 2 boolean, 3 + tag a reference -/
def sd_tg : List (Bool × Nat × List Nat) := [(true, 13, [4, 5, 11, 12, 13, 0, 0, 0, 0, 0, 0, 0, 0]), (true, 2, [14, 0]), (true, 5, [15, 16, 17, 18, 0]), (true, 8, [0, 7, 8, 9, 2, 2, 0, 0]), (true, 8, [0, 0, 0, 0, 0, 0, 0, 0]), (true, 3, [0, 0, 2]), (true, 9, [5, 0, 19, 20, 21, 0, 1, 1, 0]), (true, 41, [0, 0, 0, 22, 23, 0, 0, 0, 0, 24, 25, 26, 27, 28, 29, 30, 31, 32, 33, 34, 35, 36, 37, 38, 39, 40, 41, 42, 43, 44, 45, 46, 0, 0, 0, 0, 47, 2, 0, 0, 48]), (false, 128, [0]), (false, 6, [6]), (false, 7, [0]), (false, 300, [0]), (false, 64, [0]), (false, 64, [0]), (false, 64, [1]), (false, 64, [0]), (false, 8, [0]), (false, 32, [1]), (false, 32, [2]), (false, 300, [0]), (false, 128, [0]), (false, 6, [0]), (false, 6, [0]), (false, 6, [0]), (false, 6, [0]), (false, 6, [0]), (false, 6, [0]), (false, 6, [0]), (false, 6, [0]), (false, 6, [0]), (false, 6, [2]), (false, 6, [0]), (false, 6, [0]), (false, 6, [2]), (false, 6, [2]), (false, 6, [0]), (false, 6, [0]), (false, 6, [2]), (false, 6, [1]), (false, 6, [1]), (false, 6, [0]), (false, 192, [2]), (false, 192, [1]), (false, 36, [0]), (false, 256, [1]), (false, 7, [0])]
def sd_ow : List (List Nat) := [[1, 1, 1, 1, 1, 0, 0, 0, 0, 0, 0, 0, 0], [1, 0], [1, 1, 1, 1, 0], [0, 1, 1, 1, 0, 0, 0, 0], [0, 0, 0, 0, 0, 0, 0, 0], [0, 0, 0], [2, 0, 1, 1, 1, 0, 0, 0, 0], [0, 0, 0, 1, 1, 0, 0, 0, 0, 1, 1, 1, 1, 1, 1, 1, 1, 1, 1, 1, 1, 1, 1, 1, 1, 1, 1, 1, 1, 1, 1, 1, 0, 0, 0, 0, 1, 0, 0, 0, 1]]
abbrev sd_nT : Nat := 46
def cd_X0_shapeFault : List (List sd_I) := [[(0, .aload_n 0, 1, 0, 0, 0, 0, 0, 0, 0, []),
  (1, .getfield 7, 4, 1, 1, 0, 0, 73, 0, 0, []),
  (4, .bipush 12, 6, 0, 0, 0, 0, 0, 12, 0, []),
  (6, .if_icmp .ge 5, 9, 11, 0, 0, 0, 0, 0, 0, []),
  (9, .iconst 1, 10, 0, 0, 0, 0, 0, 1, 0, []),
  (10, .ireturn, 11, 0, 0, 0, 0, 0, 0, 0, []),
  (11, .aload_n 0, 12, 0, 0, 0, 0, 0, 0, 0, []),
  (12, .iconst 0, 13, 0, 0, 0, 0, 0, 0, 0, []),
  (13, .invokevirtual 15, 16, 28, 2, 1, 0, 198, 0, 0, [0, 0])],
 [(16, .bipush 6, 18, 0, 0, 0, 0, 0, 6, 0, []),
  (18, .ishr, 19, 0, 0, 0, 0, 0, 0, 0, []),
  (19, .iconst 2, 20, 0, 0, 0, 0, 0, 2, 0, []),
  (20, .if_icmp .eq 5, 23, 25, 0, 0, 0, 0, 0, 0, []),
  (23, .iconst 2, 24, 0, 0, 0, 0, 0, 2, 0, []),
  (24, .ireturn, 25, 0, 0, 0, 0, 0, 0, 0, []),
  (25, .aload_n 0, 26, 0, 0, 0, 0, 0, 0, 0, []),
  (26, .invokestatic 19, 29, 8, 1, 1, 1, 199, 0, 0, [0, 0]),
  (29, .aload_n 0, 30, 0, 0, 0, 0, 0, 0, 0, []),
  (30, .getfield 7, 33, 1, 1, 0, 0, 73, 0, 0, [])],
 [(33, .if_icmp .le 5, 36, 38, 0, 0, 0, 0, 0, 0, []),
  (36, .iconst 3, 37, 0, 0, 0, 0, 0, 3, 0, []),
  (37, .ireturn, 38, 0, 0, 0, 0, 0, 0, 0, []),
  (38, .aload_n 0, 39, 0, 0, 0, 0, 0, 0, 0, []),
  (39, .invokestatic 23, 42, 9, 1, 1, 1, 205, 0, 0, [0, 0]),
  (42, .aload_n 0, 43, 0, 0, 0, 0, 0, 0, 0, []),
  (43, .getfield 7, 46, 1, 1, 0, 0, 73, 0, 0, []),
  (46, .if_icmp .le 5, 49, 51, 0, 0, 0, 0, 0, 0, [])],
 [(49, .iconst 4, 50, 0, 0, 0, 0, 0, 4, 0, []),
  (50, .ireturn, 51, 0, 0, 0, 0, 0, 0, 0, []),
  (51, .aload_n 0, 52, 0, 0, 0, 0, 0, 0, 0, []),
  (52, .getfield 7, 55, 1, 1, 0, 0, 73, 0, 0, []),
  (55, .aload_n 0, 56, 0, 0, 0, 0, 0, 0, 0, []),
  (56, .invokestatic 23, 59, 9, 1, 1, 1, 205, 0, 0, [0, 0]),
  (59, .isub, 60, 0, 0, 0, 0, 0, 0, 0, []),
  (60, .istore_n 1, 61, 1, 0, 0, 0, 0, 0, 0, []),
  (61, .aload_n 0, 62, 0, 0, 0, 0, 0, 0, 0, []),
  (62, .invokestatic 26, 65, 10, 1, 1, 1, 216, 0, 0, [0, 0])],
 [(65, .ifCond .le 15, 68, 80, 0, 0, 0, 0, 0, 0, []),
  (68, .aload_n 0, 69, 0, 0, 0, 0, 0, 0, 0, []),
  (69, .invokestatic 26, 72, 10, 1, 1, 1, 216, 0, 0, [0, 0]),
  (72, .iload_n 1, 73, 1, 0, 0, 0, 0, 0, 0, []),
  (73, .if_icmp .gt 7, 76, 80, 0, 0, 0, 0, 0, 0, []),
  (76, .iconst 1, 77, 0, 0, 0, 0, 0, 1, 0, []),
  (77, .goto 4, 80, 81, 0, 0, 0, 0, 0, 0, [])],
 [(80, .iconst 0, 81, 0, 0, 0, 0, 0, 0, 0, []),
  (81, .istore_n 2, 82, 2, 0, 0, 0, 0, 0, 0, []),
  (82, .aload_n 0, 83, 0, 0, 0, 0, 0, 0, 0, []),
  (83, .bipush 32, 85, 0, 0, 0, 0, 0, 32, 0, []),
  (85, .invokestatic 29, 88, 7, 2, 1, 1, 208, 0, 0, [0, 0]),
  (88, .ifCond .eq 11, 91, 99, 0, 0, 0, 0, 0, 0, []),
  (91, .iload_n 2, 92, 2, 0, 0, 0, 0, 0, 0, []),
  (92, .ifCond .ne 7, 95, 99, 0, 0, 0, 0, 0, 0, []),
  (95, .iconst 5, 96, 0, 0, 0, 0, 0, 5, 0, [])],
 [(96, .goto 4, 99, 100, 0, 0, 0, 0, 0, 0, []),
  (99, .iconst 0, 100, 0, 0, 0, 0, 0, 0, 0, []),
  (100, .ireturn, 101, 0, 0, 0, 0, 0, 0, 0, [])]]
def cd_X0_field : List (List sd_I) := [[(0, .iload_n 1, 1, 1, 0, 0, 0, 0, 0, 0, []),
  (1, .tableswitch 127 1 9 #[51, 60, 65, 70, 75, 80, 85, 90, 105], 52, 128, 0, 0, 0, 0, 1, 0, [52, 61, 66, 71, 76, 81, 86, 91, 106])],
 [],
 [],
 [(52, .aload_n 0, 53, 0, 0, 0, 0, 0, 0, 0, []),
  (53, .iconst 1, 54, 0, 0, 0, 0, 0, 1, 0, []),
  (54, .invokevirtual 15, 57, 28, 2, 1, 0, 198, 0, 0, [0, 0]),
  (57, .bipush 7, 59, 0, 0, 0, 0, 0, 7, 0, []),
  (59, .ishr, 60, 0, 0, 0, 0, 0, 0, 0, []),
  (60, .ireturn, 61, 0, 0, 0, 0, 0, 0, 0, []),
  (61, .aload_n 0, 62, 0, 0, 0, 0, 0, 0, 0, []),
  (62, .invokestatic 33, 65, 2, 1, 1, 1, 481, 0, 0, [0, 0])],
 [(65, .ireturn, 66, 0, 0, 0, 0, 0, 0, 0, []),
  (66, .aload_n 0, 67, 0, 0, 0, 0, 0, 0, 0, []),
  (67, .invokestatic 36, 70, 3, 1, 1, 1, 482, 0, 0, [0, 0]),
  (70, .ireturn, 71, 0, 0, 0, 0, 0, 0, 0, []),
  (71, .aload_n 0, 72, 0, 0, 0, 0, 0, 0, 0, []),
  (72, .invokestatic 39, 75, 4, 1, 1, 1, 483, 0, 0, [0, 0]),
  (75, .ireturn, 76, 0, 0, 0, 0, 0, 0, 0, []),
  (76, .aload_n 0, 77, 0, 0, 0, 0, 0, 0, 0, []),
  (77, .invokestatic 42, 80, 5, 1, 1, 1, 484, 0, 0, [0, 0])],
 [(80, .ireturn, 81, 0, 0, 0, 0, 0, 0, 0, []),
  (81, .aload_n 0, 82, 0, 0, 0, 0, 0, 0, 0, []),
  (82, .invokestatic 45, 85, 6, 1, 1, 1, 202, 0, 0, [0, 0]),
  (85, .ireturn, 86, 0, 0, 0, 0, 0, 0, 0, []),
  (86, .aload_n 0, 87, 0, 0, 0, 0, 0, 0, 0, []),
  (87, .invokestatic 23, 90, 9, 1, 1, 1, 205, 0, 0, [0, 0]),
  (90, .ireturn, 91, 0, 0, 0, 0, 0, 0, 0, []),
  (91, .aload_n 0, 92, 0, 0, 0, 0, 0, 0, 0, []),
  (92, .getfield 7, 95, 1, 1, 0, 0, 73, 0, 0, []),
  (95, .aload_n 0, 96, 0, 0, 0, 0, 0, 0, 0, [])],
 [(96, .invokestatic 23, 99, 9, 1, 1, 1, 205, 0, 0, [0, 0]),
  (99, .isub, 100, 0, 0, 0, 0, 0, 0, 0, []),
  (100, .aload_n 0, 101, 0, 0, 0, 0, 0, 0, 0, []),
  (101, .invokestatic 26, 104, 10, 1, 1, 1, 216, 0, 0, [0, 0]),
  (104, .isub, 105, 0, 0, 0, 0, 0, 0, 0, []),
  (105, .ireturn, 106, 0, 0, 0, 0, 0, 0, 0, []),
  (106, .aload_n 0, 107, 0, 0, 0, 0, 0, 0, 0, []),
  (107, .bipush 16, 109, 0, 0, 0, 0, 0, 16, 0, []),
  (109, .invokestatic 29, 112, 7, 2, 1, 1, 208, 0, 0, [0, 0])],
 [(112, .ifCond .eq 14, 115, 126, 0, 0, 0, 0, 0, 0, []),
  (115, .aload_n 0, 116, 0, 0, 0, 0, 0, 0, 0, []),
  (116, .aload_n 0, 117, 0, 0, 0, 0, 0, 0, 0, []),
  (117, .invokestatic 19, 120, 8, 1, 1, 1, 199, 0, 0, [0, 0]),
  (120, .invokevirtual 48, 123, 29, 2, 1, 0, 211, 0, 0, [0, 0]),
  (123, .goto 4, 126, 127, 0, 0, 0, 0, 0, 0, []),
  (126, .iconst 0, 127, 0, 0, 0, 0, 0, 0, 0, []),
  (127, .ireturn, 128, 0, 0, 0, 0, 0, 0, 0, [])],
 [(128, .iconst 0, 129, 0, 0, 0, 0, 0, 0, 0, []),
  (129, .ireturn, 130, 0, 0, 0, 0, 0, 0, 0, [])]]
def cd_X0_sort : List (List sd_I) := [[(0, .aload_n 0, 1, 0, 0, 0, 0, 0, 0, 0, []),
  (1, .iconst 1, 2, 0, 0, 0, 0, 0, 1, 0, []),
  (2, .invokevirtual 15, 5, 28, 2, 1, 0, 198, 0, 0, [0, 0]),
  (5, .bipush 127, 7, 0, 0, 0, 0, 0, 127, 0, []),
  (7, .iand, 8, 0, 0, 0, 0, 0, 0, 0, []),
  (8, .ireturn, 9, 0, 0, 0, 0, 0, 0, 0, [])]]
def cd_X0_number : List (List sd_I) := [[(0, .aload_n 0, 1, 0, 0, 0, 0, 0, 0, 0, []),
  (1, .iconst 2, 2, 0, 0, 0, 0, 0, 2, 0, []),
  (2, .invokevirtual 48, 5, 29, 2, 1, 0, 211, 0, 0, [0, 0]),
  (5, .ireturn, 6, 0, 0, 0, 0, 0, 0, 0, [])]]
def cd_X0_stamp : List (List sd_I) := [[(0, .aload_n 0, 1, 0, 0, 0, 0, 0, 0, 0, []),
  (1, .iconst 4, 2, 0, 0, 0, 0, 0, 4, 0, []),
  (2, .invokevirtual 51, 5, 30, 2, 1, 0, 229, 0, 0, [0, 0]),
  (5, .ireturn, 6, 0, 0, 0, 0, 0, 0, 0, [])]]
def cd_X0_source : List (List sd_I) := [[(0, .aload_n 0, 1, 0, 0, 0, 0, 0, 0, 0, []),
  (1, .bipush 8, 3, 0, 0, 0, 0, 0, 8, 0, []),
  (3, .invokevirtual 51, 6, 30, 2, 1, 0, 229, 0, 0, [0, 0]),
  (6, .ireturn, 7, 0, 0, 0, 0, 0, 0, 0, [])]]
def cd_X0_words : List (List sd_I) := [[(0, .aload_n 0, 1, 0, 0, 0, 0, 0, 0, 0, []),
  (1, .iconst 0, 2, 0, 0, 0, 0, 0, 0, 0, []),
  (2, .invokevirtual 15, 5, 28, 2, 1, 0, 198, 0, 0, [0, 0]),
  (5, .bipush 15, 7, 0, 0, 0, 0, 0, 15, 0, []),
  (7, .iand, 8, 0, 0, 0, 0, 0, 0, 0, []),
  (8, .ireturn, 9, 0, 0, 0, 0, 0, 0, 0, [])]]
def cd_X0_firstHas : List (List sd_I) := [[(0, .aload_n 0, 1, 0, 0, 0, 0, 0, 0, 0, []),
  (1, .iconst 0, 2, 0, 0, 0, 0, 0, 0, 0, []),
  (2, .invokevirtual 15, 5, 28, 2, 1, 0, 198, 0, 0, [0, 0]),
  (5, .iload_n 1, 6, 1, 0, 0, 0, 0, 0, 0, []),
  (6, .iand, 7, 0, 0, 0, 0, 0, 0, 0, []),
  (7, .ifCond .eq 7, 10, 14, 0, 0, 0, 0, 0, 0, []),
  (10, .iconst 1, 11, 0, 0, 0, 0, 0, 1, 0, []),
  (11, .goto 4, 14, 15, 0, 0, 0, 0, 0, 0, []),
  (14, .iconst 0, 15, 0, 0, 0, 0, 0, 0, 0, []),
  (15, .ireturn, 16, 0, 0, 0, 0, 0, 0, 0, [])]]
def cd_X0_wordsEnd : List (List sd_I) := [[(0, .bipush 12, 2, 0, 0, 0, 0, 0, 12, 0, []),
  (2, .iconst 4, 3, 0, 0, 0, 0, 0, 4, 0, []),
  (3, .aload_n 0, 4, 0, 0, 0, 0, 0, 0, 0, []),
  (4, .invokestatic 45, 7, 6, 1, 1, 1, 202, 0, 0, [0, 0]),
  (7, .imul, 8, 0, 0, 0, 0, 0, 0, 0, []),
  (8, .iadd, 9, 0, 0, 0, 0, 0, 0, 0, []),
  (9, .ireturn, 10, 0, 0, 0, 0, 0, 0, 0, [])]]
def cd_X0_payloadPlace : List (List sd_I) := [[(0, .aload_n 0, 1, 0, 0, 0, 0, 0, 0, 0, []),
  (1, .invokestatic 19, 4, 8, 1, 1, 1, 199, 0, 0, [0, 0]),
  (4, .istore_n 1, 5, 1, 0, 0, 0, 0, 0, 0, []),
  (5, .aload_n 0, 6, 0, 0, 0, 0, 0, 0, 0, []),
  (6, .bipush 16, 8, 0, 0, 0, 0, 0, 16, 0, []),
  (8, .invokestatic 29, 11, 7, 2, 1, 1, 208, 0, 0, [0, 0]),
  (11, .ifCond .eq 19, 14, 30, 0, 0, 0, 0, 0, 0, []),
  (14, .iload_n 1, 15, 1, 0, 0, 0, 0, 0, 0, []),
  (15, .iconst 4, 16, 0, 0, 0, 0, 0, 4, 0, [])],
 [(16, .iadd, 17, 0, 0, 0, 0, 0, 0, 0, []),
  (17, .iconst 4, 18, 0, 0, 0, 0, 0, 4, 0, []),
  (18, .aload_n 0, 19, 0, 0, 0, 0, 0, 0, 0, []),
  (19, .iload_n 1, 20, 1, 0, 0, 0, 0, 0, 0, []),
  (20, .iconst 2, 21, 0, 0, 0, 0, 0, 2, 0, []),
  (21, .iadd, 22, 0, 0, 0, 0, 0, 0, 0, []),
  (22, .invokevirtual 48, 25, 29, 2, 1, 0, 211, 0, 0, [0, 0]),
  (25, .imul, 26, 0, 0, 0, 0, 0, 0, 0, []),
  (26, .iadd, 27, 0, 0, 0, 0, 0, 0, 0, []),
  (27, .goto 4, 30, 31, 0, 0, 0, 0, 0, 0, []),
  (30, .iload_n 1, 31, 1, 0, 0, 0, 0, 0, 0, []),
  (31, .ireturn, 32, 0, 0, 0, 0, 0, 0, 0, [])]]
def cd_X0_filling : List (List sd_I) := [[(0, .aload_n 0, 1, 0, 0, 0, 0, 0, 0, 0, []),
  (1, .bipush 32, 3, 0, 0, 0, 0, 0, 32, 0, []),
  (3, .invokestatic 29, 6, 7, 2, 1, 1, 208, 0, 0, [0, 0]),
  (6, .ifCond .eq 16, 9, 22, 0, 0, 0, 0, 0, 0, []),
  (9, .aload_n 0, 10, 0, 0, 0, 0, 0, 0, 0, []),
  (10, .aload_n 0, 11, 0, 0, 0, 0, 0, 0, 0, []),
  (11, .getfield 7, 14, 1, 1, 0, 0, 73, 0, 0, []),
  (14, .iconst 1, 15, 0, 0, 0, 0, 0, 1, 0, []),
  (15, .isub, 16, 0, 0, 0, 0, 0, 0, 0, [])],
 [(16, .invokevirtual 15, 19, 28, 2, 1, 0, 198, 0, 0, [0, 0]),
  (19, .goto 4, 22, 23, 0, 0, 0, 0, 0, 0, []),
  (22, .iconst 0, 23, 0, 0, 0, 0, 0, 0, 0, []),
  (23, .ireturn, 24, 0, 0, 0, 0, 0, 0, 0, [])]]
def cd_X1_init : List (List sd_I) := [[(0, .aload_n 0, 1, 0, 0, 0, 0, 0, 0, 0, []),
  (1, .invokespecial 3, 4, 0, 0, 0, 3, 88, 0, 0, []),
  (4, .aload_n 0, 5, 0, 0, 0, 0, 0, 0, 0, []),
  (5, .bipush 64, 7, 0, 0, 0, 0, 0, 64, 0, []),
  (7, .newarray .int, 9, 12, 64, 0, 0, 82, 0, 0, []),
  (9, .putfield 11, 12, 2, 0, 15, 1, 89, 0, 0, []),
  (12, .aload_n 0, 13, 0, 0, 0, 0, 0, 0, 0, []),
  (13, .bipush 64, 15, 0, 0, 0, 0, 0, 64, 0, []),
  (15, .newarray .int, 17, 13, 64, 0, 0, 82, 0, 0, [])],
 [(17, .putfield 15, 20, 2, 1, 16, 1, 90, 0, 0, []),
  (20, .aload_n 0, 21, 0, 0, 0, 0, 0, 0, 0, []),
  (21, .bipush 64, 23, 0, 0, 0, 0, 0, 64, 0, []),
  (23, .newarray .long, 25, 14, 64, 0, 0, 106, 0, 0, []),
  (25, .putfield 18, 28, 2, 2, 17, 1, 91, 0, 0, []),
  (28, .aload_n 0, 29, 0, 0, 0, 0, 0, 0, 0, []),
  (29, .bipush 64, 31, 0, 0, 0, 0, 0, 64, 0, []),
  (31, .newarray .int, 33, 15, 64, 0, 0, 82, 0, 0, [])],
 [(33, .putfield 22, 36, 2, 3, 18, 1, 92, 0, 0, []),
  (36, .return_, 37, 0, 0, 0, 0, 0, 0, 0, [])]]
def cd_X1_add : List (List sd_I) := [[(0, .aload_n 0, 1, 0, 0, 0, 0, 0, 0, 0, []),
  (1, .getfield 25, 4, 2, 4, 0, 0, 93, 0, 0, []),
  (4, .bipush 64, 6, 0, 0, 0, 0, 0, 64, 0, []),
  (6, .invokestatic 29, 9, 140, 2, 1, 1, 431, 0, 0, [0, 0]),
  (9, .istore 6, 11, 6, 0, 0, 0, 0, 0, 0, []),
  (11, .aload_n 0, 12, 0, 0, 0, 0, 0, 0, 0, []),
  (12, .getfield 11, 15, 2, 0, 15, 1, 89, 0, 0, []),
  (15, .iload 6, 17, 6, 0, 0, 0, 0, 0, 0, [])],
 [(17, .iload_n 1, 18, 1, 0, 0, 0, 0, 0, 0, []),
  (18, .iastore, 19, 0, 0, 0, 0, 0, 0, 0, []),
  (19, .aload_n 0, 20, 0, 0, 0, 0, 0, 0, 0, []),
  (20, .getfield 15, 23, 2, 1, 16, 1, 90, 0, 0, []),
  (23, .iload 6, 25, 6, 0, 0, 0, 0, 0, 0, []),
  (25, .iload_n 2, 26, 2, 0, 0, 0, 0, 0, 0, []),
  (26, .iastore, 27, 0, 0, 0, 0, 0, 0, 0, []),
  (27, .aload_n 0, 28, 0, 0, 0, 0, 0, 0, 0, []),
  (28, .getfield 18, 31, 2, 2, 17, 1, 91, 0, 0, []),
  (31, .iload 6, 33, 6, 0, 0, 0, 0, 0, 0, [])],
 [(33, .lload_n 3, 34, 3, 0, 0, 0, 0, 0, 0, []),
  (34, .lastore, 35, 0, 0, 0, 0, 0, 0, 0, []),
  (35, .aload_n 0, 36, 0, 0, 0, 0, 0, 0, 0, []),
  (36, .getfield 22, 39, 2, 3, 18, 1, 92, 0, 0, []),
  (39, .iload 6, 41, 6, 0, 0, 0, 0, 0, 0, []),
  (41, .iload 5, 43, 5, 0, 0, 0, 0, 0, 0, []),
  (43, .iastore, 44, 0, 0, 0, 0, 0, 0, 0, []),
  (44, .aload_n 0, 45, 0, 0, 0, 0, 0, 0, 0, []),
  (45, .dup, 46, 0, 0, 0, 0, 0, 0, 0, []),
  (46, .getfield 25, 49, 2, 4, 0, 0, 93, 0, 0, [])],
 [(49, .iconst 1, 50, 0, 0, 0, 0, 0, 1, 0, []),
  (50, .iadd, 51, 0, 0, 0, 0, 0, 0, 0, []),
  (51, .putfield 25, 54, 2, 4, 0, 0, 93, 0, 0, []),
  (54, .return_, 55, 0, 0, 0, 0, 0, 0, 0, [])]]
def cd_X1_keeps : List (List sd_I) := [[(0, .iload_n 1, 1, 1, 0, 0, 0, 0, 0, 0, []),
  (1, .ifCond .lt 21, 4, 22, 0, 0, 0, 0, 0, 0, []),
  (4, .iload_n 1, 5, 1, 0, 0, 0, 0, 0, 0, []),
  (5, .bipush 64, 7, 0, 0, 0, 0, 0, 64, 0, []),
  (7, .if_icmp .ge 15, 10, 22, 0, 0, 0, 0, 0, 0, []),
  (10, .iload_n 1, 11, 1, 0, 0, 0, 0, 0, 0, []),
  (11, .aload_n 0, 12, 0, 0, 0, 0, 0, 0, 0, []),
  (12, .getfield 25, 15, 2, 4, 0, 0, 93, 0, 0, []),
  (15, .if_icmp .ge 7, 18, 22, 0, 0, 0, 0, 0, 0, [])],
 [(18, .iconst 1, 19, 0, 0, 0, 0, 0, 1, 0, []),
  (19, .goto 4, 22, 23, 0, 0, 0, 0, 0, 0, []),
  (22, .iconst 0, 23, 0, 0, 0, 0, 0, 0, 0, []),
  (23, .ireturn, 24, 0, 0, 0, 0, 0, 0, 0, [])]]
def cd_X1_field : List (List sd_I) := [[(0, .aload_n 0, 1, 0, 0, 0, 0, 0, 0, 0, []),
  (1, .getfield 25, 4, 2, 4, 0, 0, 93, 0, 0, []),
  (4, .iconst 1, 5, 0, 0, 0, 0, 0, 1, 0, []),
  (5, .isub, 6, 0, 0, 0, 0, 0, 0, 0, []),
  (6, .iload_n 1, 7, 1, 0, 0, 0, 0, 0, 0, []),
  (7, .isub, 8, 0, 0, 0, 0, 0, 0, 0, []),
  (8, .bipush 64, 10, 0, 0, 0, 0, 0, 64, 0, []),
  (10, .invokestatic 29, 13, 140, 2, 1, 1, 431, 0, 0, [0, 0]),
  (13, .istore_n 3, 14, 3, 0, 0, 0, 0, 0, 0, []),
  (14, .iload_n 2, 15, 2, 0, 0, 0, 0, 0, 0, []),
  (15, .tableswitch 60 0 3 #[29, 37, 45, 52], 44, 75, 0, 0, 0, 0, 0, 0, [44, 52, 60, 67])],
 [],
 [(44, .aload_n 0, 45, 0, 0, 0, 0, 0, 0, 0, []),
  (45, .getfield 11, 48, 2, 0, 15, 1, 89, 0, 0, [])],
 [(48, .iload_n 3, 49, 3, 0, 0, 0, 0, 0, 0, []),
  (49, .iaload, 50, 0, 0, 0, 0, 0, 0, 0, []),
  (50, .i2l, 51, 0, 0, 0, 0, 0, 0, 0, []),
  (51, .lreturn, 52, 0, 0, 0, 0, 0, 0, 0, []),
  (52, .aload_n 0, 53, 0, 0, 0, 0, 0, 0, 0, []),
  (53, .getfield 15, 56, 2, 1, 16, 1, 90, 0, 0, []),
  (56, .iload_n 3, 57, 3, 0, 0, 0, 0, 0, 0, []),
  (57, .iaload, 58, 0, 0, 0, 0, 0, 0, 0, []),
  (58, .i2l, 59, 0, 0, 0, 0, 0, 0, 0, []),
  (59, .lreturn, 60, 0, 0, 0, 0, 0, 0, 0, []),
  (60, .aload_n 0, 61, 0, 0, 0, 0, 0, 0, 0, []),
  (61, .getfield 18, 64, 2, 2, 17, 1, 91, 0, 0, [])],
 [(64, .iload_n 3, 65, 3, 0, 0, 0, 0, 0, 0, []),
  (65, .laload, 66, 0, 0, 0, 0, 0, 0, 0, []),
  (66, .lreturn, 67, 0, 0, 0, 0, 0, 0, 0, []),
  (67, .aload_n 0, 68, 0, 0, 0, 0, 0, 0, 0, []),
  (68, .getfield 22, 71, 2, 3, 18, 1, 92, 0, 0, []),
  (71, .iload_n 3, 72, 3, 0, 0, 0, 0, 0, 0, []),
  (72, .iaload, 73, 0, 0, 0, 0, 0, 0, 0, []),
  (73, .i2l, 74, 0, 0, 0, 0, 0, 0, 0, []),
  (74, .lreturn, 75, 0, 0, 0, 0, 0, 0, 0, []),
  (75, .ldc2_w 35, 78, 0, 0, 0, 0, 553, 0, (-1), []),
  (78, .lreturn, 79, 0, 0, 0, 0, 0, 0, 0, [])]]
def cd_X2_init : List (List sd_I) := [[(0, .aload_n 0, 1, 0, 0, 0, 0, 0, 0, 0, []),
  (1, .invokespecial 1, 4, 0, 0, 0, 3, 296, 0, 0, []),
  (4, .return_, 5, 0, 0, 0, 0, 0, 0, 0, [])]]
def cd_X2_follow : List (List sd_I) := [[(0, .aload_n 0, 1, 0, 0, 0, 0, 0, 0, 0, []),
  (1, .getfield 7, 4, 5, 2, 2, 0, 300, 0, 0, []),
  (4, .ifCond .eq 31, 7, 35, 0, 0, 0, 0, 0, 0, []),
  (7, .aload_n 0, 8, 0, 0, 0, 0, 0, 0, 0, []),
  (8, .dup, 9, 0, 0, 0, 0, 0, 0, 0, []),
  (9, .getfield 13, 12, 5, 0, 0, 0, 297, 0, 0, []),
  (12, .iload_n 1, 13, 1, 0, 0, 0, 0, 0, 0, []),
  (13, .aload_n 0, 14, 0, 0, 0, 0, 0, 0, 0, []),
  (14, .getfield 17, 17, 5, 1, 0, 0, 299, 0, 0, [])],
 [(17, .isub, 18, 0, 0, 0, 0, 0, 0, 0, []),
  (18, .invokestatic 20, 21, 142, 1, 1, 1, 407, 0, 0, [0, 0]),
  (21, .aload_n 0, 22, 0, 0, 0, 0, 0, 0, 0, []),
  (22, .getfield 13, 25, 5, 0, 0, 0, 297, 0, 0, []),
  (25, .bipush 8, 27, 0, 0, 0, 0, 0, 8, 0, []),
  (27, .iadd, 28, 0, 0, 0, 0, 0, 0, 0, []),
  (28, .iconst 4, 29, 0, 0, 0, 0, 0, 4, 0, []),
  (29, .ishr, 30, 0, 0, 0, 0, 0, 0, 0, []),
  (30, .isub, 31, 0, 0, 0, 0, 0, 0, 0, []),
  (31, .iadd, 32, 0, 0, 0, 0, 0, 0, 0, [])],
 [(32, .putfield 13, 35, 5, 0, 0, 0, 297, 0, 0, []),
  (35, .aload_n 0, 36, 0, 0, 0, 0, 0, 0, 0, []),
  (36, .iload_n 1, 37, 1, 0, 0, 0, 0, 0, 0, []),
  (37, .putfield 17, 40, 5, 1, 0, 0, 299, 0, 0, []),
  (40, .aload_n 0, 41, 0, 0, 0, 0, 0, 0, 0, []),
  (41, .iconst 1, 42, 0, 0, 0, 0, 0, 1, 0, []),
  (42, .putfield 7, 45, 5, 2, 2, 0, 300, 0, 0, []),
  (45, .return_, 46, 0, 0, 0, 0, 0, 0, 0, [])]]
def cd_X3_init : List (List sd_I) := [[(0, .aload_n 0, 1, 0, 0, 0, 0, 0, 0, 0, []),
  (1, .invokespecial 3, 4, 0, 0, 0, 3, 313, 0, 0, []),
  (4, .aload_n 0, 5, 0, 0, 0, 0, 0, 0, 0, []),
  (5, .iload_n 1, 6, 1, 0, 0, 0, 0, 0, 0, []),
  (6, .invokevirtual 9, 9, 18, 2, 0, 0, 314, 0, 0, [0, 0]),
  (9, .aload_n 0, 10, 0, 0, 0, 0, 0, 0, 0, []),
  (10, .iload_n 1, 11, 1, 0, 0, 0, 0, 0, 0, []),
  (11, .iconst 1, 12, 0, 0, 0, 0, 0, 1, 0, []),
  (12, .isub, 13, 0, 0, 0, 0, 0, 0, 0, []),
  (13, .ldc 15, 15, 0, 0, 0, 0, 319, 65535, 0, []),
  (15, .iand, 16, 0, 0, 0, 0, 0, 0, 0, [])],
 [(16, .putfield 16, 19, 4, 0, 0, 0, 320, 0, 0, []),
  (19, .aload_n 0, 20, 0, 0, 0, 0, 0, 0, 0, []),
  (20, .iconst 2, 21, 0, 0, 0, 0, 0, 2, 0, []),
  (21, .putfield 20, 24, 4, 4, 0, 0, 328, 0, 0, []),
  (24, .return_, 25, 0, 0, 0, 0, 0, 0, 0, [])]]
def cd_X3_setBy : List (List sd_I) := [[(0, .aload_n 0, 1, 0, 0, 0, 0, 0, 0, 0, []),
  (1, .iload_n 1, 2, 1, 0, 0, 0, 0, 0, 0, []),
  (2, .putfield 23, 5, 4, 2, 0, 0, 324, 0, 0, []),
  (5, .aload_n 0, 6, 0, 0, 0, 0, 0, 0, 0, []),
  (6, .iload_n 1, 7, 1, 0, 0, 0, 0, 0, 0, []),
  (7, .putfield 16, 10, 4, 0, 0, 0, 320, 0, 0, []),
  (10, .aload_n 0, 11, 0, 0, 0, 0, 0, 0, 0, []),
  (11, .ldc 26, 13, 0, 0, 0, 0, 318, 65537, 0, []),
  (13, .putfield 27, 16, 4, 3, 0, 0, 326, 0, 0, [])],
 [(16, .aload_n 0, 17, 0, 0, 0, 0, 0, 0, 0, []),
  (17, .iconst 0, 18, 0, 0, 0, 0, 0, 0, 0, []),
  (18, .putfield 30, 21, 4, 1, 0, 0, 322, 0, 0, []),
  (21, .aload_n 0, 22, 0, 0, 0, 0, 0, 0, 0, []),
  (22, .iconst 0, 23, 0, 0, 0, 0, 0, 0, 0, []),
  (23, .putfield 33, 26, 4, 5, 0, 0, 331, 0, 0, []),
  (26, .aload_n 0, 27, 0, 0, 0, 0, 0, 0, 0, []),
  (27, .iconst 0, 28, 0, 0, 0, 0, 0, 0, 0, []),
  (28, .putfield 36, 31, 4, 6, 0, 0, 333, 0, 0, []),
  (31, .aload_n 0, 32, 0, 0, 0, 0, 0, 0, 0, [])],
 [(32, .iconst 0, 33, 0, 0, 0, 0, 0, 0, 0, []),
  (33, .putfield 39, 36, 4, 7, 0, 0, 334, 0, 0, []),
  (36, .return_, 37, 0, 0, 0, 0, 0, 0, 0, [])]]
def cd_X3_judge : List (List sd_I) := [[(0, .aload_n 0, 1, 0, 0, 0, 0, 0, 0, 0, []),
  (1, .getfield 20, 4, 4, 4, 0, 0, 328, 0, 0, []),
  (4, .ifCond .le 11, 7, 15, 0, 0, 0, 0, 0, 0, []),
  (7, .aload_n 0, 8, 0, 0, 0, 0, 0, 0, 0, []),
  (8, .iload_n 1, 9, 1, 0, 0, 0, 0, 0, 0, []),
  (9, .invokevirtual 42, 12, 20, 2, 1, 0, 392, 0, 0, [0, 0]),
  (12, .goto 8, 15, 20, 0, 0, 0, 0, 0, 0, []),
  (15, .aload_n 0, 16, 0, 0, 0, 0, 0, 0, 0, [])],
 [(16, .iload_n 1, 17, 1, 0, 0, 0, 0, 0, 0, []),
  (17, .invokevirtual 46, 20, 21, 2, 1, 0, 396, 0, 0, [0, 0]),
  (20, .istore_n 2, 21, 2, 0, 0, 0, 0, 0, 0, []),
  (21, .iload_n 2, 22, 2, 0, 0, 0, 0, 0, 0, []),
  (22, .ifCond .eq 13, 25, 35, 0, 0, 0, 0, 0, 0, []),
  (25, .aload_n 0, 26, 0, 0, 0, 0, 0, 0, 0, []),
  (26, .dup, 27, 0, 0, 0, 0, 0, 0, 0, []),
  (27, .getfield 33, 30, 4, 5, 0, 0, 331, 0, 0, []),
  (30, .iconst 1, 31, 0, 0, 0, 0, 0, 1, 0, []),
  (31, .iadd, 32, 0, 0, 0, 0, 0, 0, 0, [])],
 [(32, .putfield 33, 35, 4, 5, 0, 0, 331, 0, 0, []),
  (35, .iload_n 2, 36, 2, 0, 0, 0, 0, 0, 0, []),
  (36, .ireturn, 37, 0, 0, 0, 0, 0, 0, 0, [])]]
def cd_X3_judgeOnProbation : List (List sd_I) := [[(0, .iload_n 1, 1, 1, 0, 0, 0, 0, 0, 0, []),
  (1, .aload_n 0, 2, 0, 0, 0, 0, 0, 0, 0, []),
  (2, .getfield 16, 5, 4, 0, 0, 0, 320, 0, 0, []),
  (5, .iconst 1, 6, 0, 0, 0, 0, 0, 1, 0, []),
  (6, .iadd, 7, 0, 0, 0, 0, 0, 0, 0, []),
  (7, .ldc 15, 9, 0, 0, 0, 0, 319, 65535, 0, []),
  (9, .iand, 10, 0, 0, 0, 0, 0, 0, 0, []),
  (10, .if_icmp .ne 7, 13, 17, 0, 0, 0, 0, 0, 0, []),
  (13, .iconst 1, 14, 0, 0, 0, 0, 0, 1, 0, []),
  (14, .goto 4, 17, 18, 0, 0, 0, 0, 0, 0, [])],
 [(17, .iconst 0, 18, 0, 0, 0, 0, 0, 0, 0, []),
  (18, .istore_n 2, 19, 2, 0, 0, 0, 0, 0, 0, []),
  (19, .aload_n 0, 20, 0, 0, 0, 0, 0, 0, 0, []),
  (20, .iload_n 2, 21, 2, 0, 0, 0, 0, 0, 0, []),
  (21, .ifCond .eq 12, 24, 33, 0, 0, 0, 0, 0, 0, []),
  (24, .aload_n 0, 25, 0, 0, 0, 0, 0, 0, 0, []),
  (25, .getfield 20, 28, 4, 4, 0, 0, 328, 0, 0, []),
  (28, .iconst 1, 29, 0, 0, 0, 0, 0, 1, 0, []),
  (29, .isub, 30, 0, 0, 0, 0, 0, 0, 0, []),
  (30, .goto 4, 33, 34, 0, 0, 0, 0, 0, 0, [])],
 [(33, .iconst 1, 34, 0, 0, 0, 0, 0, 1, 0, []),
  (34, .putfield 20, 37, 4, 4, 0, 0, 328, 0, 0, []),
  (37, .aload_n 0, 38, 0, 0, 0, 0, 0, 0, 0, []),
  (38, .iload_n 1, 39, 1, 0, 0, 0, 0, 0, 0, []),
  (39, .putfield 16, 42, 4, 0, 0, 0, 320, 0, 0, []),
  (42, .aload_n 0, 43, 0, 0, 0, 0, 0, 0, 0, []),
  (43, .getfield 20, 46, 4, 4, 0, 0, 328, 0, 0, []),
  (46, .ifCond .le 5, 49, 51, 0, 0, 0, 0, 0, 0, [])],
 [(49, .iconst 0, 50, 0, 0, 0, 0, 0, 0, 0, []),
  (50, .ireturn, 51, 0, 0, 0, 0, 0, 0, 0, []),
  (51, .aload_n 0, 52, 0, 0, 0, 0, 0, 0, 0, []),
  (52, .iload_n 1, 53, 1, 0, 0, 0, 0, 0, 0, []),
  (53, .invokevirtual 9, 56, 18, 2, 0, 0, 314, 0, 0, [0, 0]),
  (56, .iconst 2, 57, 0, 0, 0, 0, 0, 2, 0, []),
  (57, .ireturn, 58, 0, 0, 0, 0, 0, 0, 0, [])]]
def cd_X3_judgeBelieved : List (List sd_I) := [[(0, .iload_n 1, 1, 1, 0, 0, 0, 0, 0, 0, []),
  (1, .aload_n 0, 2, 0, 0, 0, 0, 0, 0, 0, []),
  (2, .getfield 16, 5, 4, 0, 0, 0, 320, 0, 0, []),
  (5, .isub, 6, 0, 0, 0, 0, 0, 0, 0, []),
  (6, .ldc 15, 8, 0, 0, 0, 0, 319, 65535, 0, []),
  (8, .iand, 9, 0, 0, 0, 0, 0, 0, 0, []),
  (9, .istore_n 2, 10, 2, 0, 0, 0, 0, 0, 0, []),
  (10, .iload_n 2, 11, 2, 0, 0, 0, 0, 0, 0, []),
  (11, .sipush 3000, 14, 0, 0, 0, 0, 0, 3000, 0, []),
  (14, .if_icmp .ge 33, 17, 47, 0, 0, 0, 0, 0, 0, [])],
 [(17, .aload_n 0, 18, 0, 0, 0, 0, 0, 0, 0, []),
  (18, .dup, 19, 0, 0, 0, 0, 0, 0, 0, []),
  (19, .getfield 30, 22, 4, 1, 0, 0, 322, 0, 0, []),
  (22, .iload_n 1, 23, 1, 0, 0, 0, 0, 0, 0, []),
  (23, .aload_n 0, 24, 0, 0, 0, 0, 0, 0, 0, []),
  (24, .getfield 16, 27, 4, 0, 0, 0, 320, 0, 0, []),
  (27, .if_icmp .ge 8, 30, 35, 0, 0, 0, 0, 0, 0, []),
  (30, .ldc 49, 32, 0, 0, 0, 0, 400, 65536, 0, [])],
 [(32, .goto 4, 35, 36, 0, 0, 0, 0, 0, 0, []),
  (35, .iconst 0, 36, 0, 0, 0, 0, 0, 0, 0, []),
  (36, .iadd, 37, 0, 0, 0, 0, 0, 0, 0, []),
  (37, .putfield 30, 40, 4, 1, 0, 0, 322, 0, 0, []),
  (40, .aload_n 0, 41, 0, 0, 0, 0, 0, 0, 0, []),
  (41, .iload_n 1, 42, 1, 0, 0, 0, 0, 0, 0, []),
  (42, .putfield 16, 45, 4, 0, 0, 0, 320, 0, 0, []),
  (45, .iconst 1, 46, 0, 0, 0, 0, 0, 1, 0, []),
  (46, .ireturn, 47, 0, 0, 0, 0, 0, 0, 0, []),
  (47, .iload_n 2, 48, 2, 0, 0, 0, 0, 0, 0, [])],
 [(48, .ldc 50, 50, 0, 0, 0, 0, 401, 65436, 0, []),
  (50, .if_icmp .le 5, 53, 55, 0, 0, 0, 0, 0, 0, []),
  (53, .iconst 1, 54, 0, 0, 0, 0, 0, 1, 0, []),
  (54, .ireturn, 55, 0, 0, 0, 0, 0, 0, 0, []),
  (55, .iload_n 1, 56, 1, 0, 0, 0, 0, 0, 0, []),
  (56, .aload_n 0, 57, 0, 0, 0, 0, 0, 0, 0, []),
  (57, .getfield 27, 60, 4, 3, 0, 0, 326, 0, 0, []),
  (60, .if_icmp .ne 10, 63, 70, 0, 0, 0, 0, 0, 0, []),
  (63, .aload_n 0, 64, 0, 0, 0, 0, 0, 0, 0, [])],
 [(64, .iload_n 1, 65, 1, 0, 0, 0, 0, 0, 0, []),
  (65, .invokevirtual 9, 68, 18, 2, 0, 0, 314, 0, 0, [0, 0]),
  (68, .iconst 2, 69, 0, 0, 0, 0, 0, 2, 0, []),
  (69, .ireturn, 70, 0, 0, 0, 0, 0, 0, 0, []),
  (70, .aload_n 0, 71, 0, 0, 0, 0, 0, 0, 0, []),
  (71, .iload_n 1, 72, 1, 0, 0, 0, 0, 0, 0, []),
  (72, .iconst 1, 73, 0, 0, 0, 0, 0, 1, 0, []),
  (73, .iadd, 74, 0, 0, 0, 0, 0, 0, 0, []),
  (74, .ldc 15, 76, 0, 0, 0, 0, 319, 65535, 0, []),
  (76, .iand, 77, 0, 0, 0, 0, 0, 0, 0, []),
  (77, .putfield 27, 80, 4, 3, 0, 0, 326, 0, 0, [])],
 [(80, .iconst 0, 81, 0, 0, 0, 0, 0, 0, 0, []),
  (81, .ireturn, 82, 0, 0, 0, 0, 0, 0, 0, [])]]
def cd_X3_longNumber : List (List sd_I) := [[(0, .aload_n 0, 1, 0, 0, 0, 0, 0, 0, 0, []),
  (1, .getfield 30, 4, 4, 1, 0, 0, 322, 0, 0, []),
  (4, .i2l, 5, 0, 0, 0, 0, 0, 0, 0, []),
  (5, .iload_n 1, 6, 1, 0, 0, 0, 0, 0, 0, []),
  (6, .i2l, 7, 0, 0, 0, 0, 0, 0, 0, []),
  (7, .ladd, 8, 0, 0, 0, 0, 0, 0, 0, []),
  (8, .lstore_n 2, 9, 2, 0, 0, 0, 0, 0, 0, []),
  (9, .iload_n 1, 10, 1, 0, 0, 0, 0, 0, 0, []),
  (10, .aload_n 0, 11, 0, 0, 0, 0, 0, 0, 0, []),
  (11, .getfield 16, 14, 4, 0, 0, 0, 320, 0, 0, []),
  (14, .if_icmp .le 11, 17, 25, 0, 0, 0, 0, 0, 0, [])],
 [(17, .lload_n 2, 18, 2, 0, 0, 0, 0, 0, 0, []),
  (18, .ldc2_w 51, 21, 0, 0, 0, 0, 414, 0, 65536, []),
  (21, .lsub, 22, 0, 0, 0, 0, 0, 0, 0, []),
  (22, .goto 4, 25, 26, 0, 0, 0, 0, 0, 0, []),
  (25, .lload_n 2, 26, 2, 0, 0, 0, 0, 0, 0, []),
  (26, .lreturn, 27, 0, 0, 0, 0, 0, 0, 0, [])]]
def cd_X3_due : List (List sd_I) := [[(0, .aload_n 0, 1, 0, 0, 0, 0, 0, 0, 0, []),
  (1, .getfield 30, 4, 4, 1, 0, 0, 322, 0, 0, []),
  (4, .aload_n 0, 5, 0, 0, 0, 0, 0, 0, 0, []),
  (5, .getfield 16, 8, 4, 0, 0, 0, 320, 0, 0, []),
  (8, .iadd, 9, 0, 0, 0, 0, 0, 0, 0, []),
  (9, .aload_n 0, 10, 0, 0, 0, 0, 0, 0, 0, []),
  (10, .getfield 23, 13, 4, 2, 0, 0, 324, 0, 0, []),
  (13, .isub, 14, 0, 0, 0, 0, 0, 0, 0, []),
  (14, .iconst 1, 15, 0, 0, 0, 0, 0, 1, 0, []),
  (15, .iadd, 16, 0, 0, 0, 0, 0, 0, 0, [])],
 [(16, .ireturn, 17, 0, 0, 0, 0, 0, 0, 0, [])]]
def cd_X3_lost : List (List sd_I) := [[(0, .ldc 53, 2, 0, 0, 0, 0, 516, (-8388608), 0, []),
  (2, .ldc 54, 4, 0, 0, 0, 0, 517, 8388607, 0, []),
  (4, .aload_n 0, 5, 0, 0, 0, 0, 0, 0, 0, []),
  (5, .invokevirtual 55, 8, 23, 1, 1, 0, 518, 0, 0, [0, 0]),
  (8, .aload_n 0, 9, 0, 0, 0, 0, 0, 0, 0, []),
  (9, .getfield 33, 12, 4, 5, 0, 0, 331, 0, 0, []),
  (12, .isub, 13, 0, 0, 0, 0, 0, 0, 0, []),
  (13, .invokestatic 59, 16, 144, 2, 1, 1, 519, 0, 0, [0, 0])],
 [(16, .invokestatic 65, 19, 143, 2, 1, 1, 522, 0, 0, [0, 0]),
  (19, .ireturn, 20, 0, 0, 0, 0, 0, 0, 0, [])]]
def cd_X3_takeFraction : List (List sd_I) := [[(0, .aload_n 0, 1, 0, 0, 0, 0, 0, 0, 0, []),
  (1, .invokevirtual 55, 4, 23, 1, 1, 0, 518, 0, 0, [0, 0]),
  (4, .aload_n 0, 5, 0, 0, 0, 0, 0, 0, 0, []),
  (5, .getfield 39, 8, 4, 7, 0, 0, 334, 0, 0, []),
  (8, .isub, 9, 0, 0, 0, 0, 0, 0, 0, []),
  (9, .i2l, 10, 0, 0, 0, 0, 0, 0, 0, []),
  (10, .lstore_n 1, 11, 1, 0, 0, 0, 0, 0, 0, []),
  (11, .lload_n 1, 12, 1, 0, 0, 0, 0, 0, 0, []),
  (12, .aload_n 0, 13, 0, 0, 0, 0, 0, 0, 0, []),
  (13, .getfield 33, 16, 4, 5, 0, 0, 331, 0, 0, [])],
 [(16, .aload_n 0, 17, 0, 0, 0, 0, 0, 0, 0, []),
  (17, .getfield 36, 20, 4, 6, 0, 0, 333, 0, 0, []),
  (20, .isub, 21, 0, 0, 0, 0, 0, 0, 0, []),
  (21, .i2l, 22, 0, 0, 0, 0, 0, 0, 0, []),
  (22, .lsub, 23, 0, 0, 0, 0, 0, 0, 0, []),
  (23, .lstore_n 3, 24, 3, 0, 0, 0, 0, 0, 0, []),
  (24, .aload_n 0, 25, 0, 0, 0, 0, 0, 0, 0, []),
  (25, .aload_n 0, 26, 0, 0, 0, 0, 0, 0, 0, []),
  (26, .invokevirtual 55, 29, 23, 1, 1, 0, 518, 0, 0, [0, 0]),
  (29, .putfield 39, 32, 4, 7, 0, 0, 334, 0, 0, [])],
 [(32, .aload_n 0, 33, 0, 0, 0, 0, 0, 0, 0, []),
  (33, .aload_n 0, 34, 0, 0, 0, 0, 0, 0, 0, []),
  (34, .getfield 33, 37, 4, 5, 0, 0, 331, 0, 0, []),
  (37, .putfield 36, 40, 4, 6, 0, 0, 333, 0, 0, []),
  (40, .lload_n 1, 41, 1, 0, 0, 0, 0, 0, 0, []),
  (41, .lconst 0, 42, 0, 0, 0, 0, 0, 0, 0, []),
  (42, .lcmp, 43, 0, 0, 0, 0, 0, 0, 0, []),
  (43, .ifCond .eq 9, 46, 52, 0, 0, 0, 0, 0, 0, []),
  (46, .lload_n 3, 47, 3, 0, 0, 0, 0, 0, 0, []),
  (47, .lconst 0, 48, 0, 0, 0, 0, 0, 0, 0, [])],
 [(48, .lcmp, 49, 0, 0, 0, 0, 0, 0, 0, []),
  (49, .ifCond .gt 7, 52, 56, 0, 0, 0, 0, 0, 0, []),
  (52, .iconst 0, 53, 0, 0, 0, 0, 0, 0, 0, []),
  (53, .goto 15, 56, 68, 0, 0, 0, 0, 0, 0, []),
  (56, .ldc2_w 68, 59, 0, 0, 0, 0, 572, 0, 256, []),
  (59, .lload_n 3, 60, 3, 0, 0, 0, 0, 0, 0, []),
  (60, .lmul, 61, 0, 0, 0, 0, 0, 0, 0, []),
  (61, .lload_n 1, 62, 1, 0, 0, 0, 0, 0, 0, []),
  (62, .ldiv, 63, 0, 0, 0, 0, 0, 0, 0, []),
  (63, .l2i, 64, 0, 0, 0, 0, 0, 0, 0, [])],
 [(64, .sipush 255, 67, 0, 0, 0, 0, 0, 255, 0, []),
  (67, .iand, 68, 0, 0, 0, 0, 0, 0, 0, []),
  (68, .ireturn, 69, 0, 0, 0, 0, 0, 0, 0, [])]]
def cd_X4_init : List (List sd_I) := [[(0, .aload_n 0, 1, 0, 0, 0, 0, 0, 0, 0, []),
  (1, .invokespecial 1, 4, 0, 0, 0, 3, 71, 0, 0, []),
  (4, .aload_n 0, 5, 0, 0, 0, 0, 0, 0, 0, []),
  (5, .sipush 300, 8, 0, 0, 0, 0, 0, 300, 0, []),
  (8, .newarray .int, 10, 11, 300, 0, 0, 82, 0, 0, []),
  (10, .putfield 9, 13, 1, 0, 14, 1, 72, 0, 0, []),
  (13, .return_, 14, 0, 0, 0, 0, 0, 0, 0, [])]]
def cd_X4_has : List (List sd_I) := [[(0, .iload_n 1, 1, 1, 0, 0, 0, 0, 0, 0, []),
  (1, .ifCond .lt 22, 4, 23, 0, 0, 0, 0, 0, 0, []),
  (4, .iload_n 1, 5, 1, 0, 0, 0, 0, 0, 0, []),
  (5, .aload_n 0, 6, 0, 0, 0, 0, 0, 0, 0, []),
  (6, .getfield 13, 9, 1, 1, 0, 0, 75, 0, 0, []),
  (9, .if_icmp .ge 14, 12, 23, 0, 0, 0, 0, 0, 0, []),
  (12, .iload_n 1, 13, 1, 0, 0, 0, 0, 0, 0, []),
  (13, .sipush 300, 16, 0, 0, 0, 0, 0, 300, 0, [])],
 [(16, .if_icmp .ge 7, 19, 23, 0, 0, 0, 0, 0, 0, []),
  (19, .iconst 1, 20, 0, 0, 0, 0, 0, 1, 0, []),
  (20, .goto 4, 23, 24, 0, 0, 0, 0, 0, 0, []),
  (23, .iconst 0, 24, 0, 0, 0, 0, 0, 0, 0, []),
  (24, .ireturn, 25, 0, 0, 0, 0, 0, 0, 0, [])]]
def cd_X4_byteAt : List (List sd_I) := [[(0, .iload_n 1, 1, 1, 0, 0, 0, 0, 0, 0, []),
  (1, .ifCond .lt 27, 4, 28, 0, 0, 0, 0, 0, 0, []),
  (4, .iload_n 1, 5, 1, 0, 0, 0, 0, 0, 0, []),
  (5, .aload_n 0, 6, 0, 0, 0, 0, 0, 0, 0, []),
  (6, .getfield 13, 9, 1, 1, 0, 0, 75, 0, 0, []),
  (9, .if_icmp .ge 19, 12, 28, 0, 0, 0, 0, 0, 0, []),
  (12, .iload_n 1, 13, 1, 0, 0, 0, 0, 0, 0, []),
  (13, .sipush 300, 16, 0, 0, 0, 0, 0, 300, 0, [])],
 [(16, .if_icmp .ge 12, 19, 28, 0, 0, 0, 0, 0, 0, []),
  (19, .aload_n 0, 20, 0, 0, 0, 0, 0, 0, 0, []),
  (20, .getfield 9, 23, 1, 0, 14, 1, 72, 0, 0, []),
  (23, .iload_n 1, 24, 1, 0, 0, 0, 0, 0, 0, []),
  (24, .iaload, 25, 0, 0, 0, 0, 0, 0, 0, []),
  (25, .goto 4, 28, 29, 0, 0, 0, 0, 0, 0, []),
  (28, .iconst 0, 29, 0, 0, 0, 0, 0, 0, 0, []),
  (29, .ireturn, 30, 0, 0, 0, 0, 0, 0, 0, [])]]
def cd_X4_halfAt : List (List sd_I) := [[(0, .aload_n 0, 1, 0, 0, 0, 0, 0, 0, 0, []),
  (1, .iload_n 1, 2, 1, 0, 0, 0, 0, 0, 0, []),
  (2, .invokevirtual 17, 5, 28, 2, 1, 0, 215, 0, 0, [0, 0]),
  (5, .bipush 8, 7, 0, 0, 0, 0, 0, 8, 0, []),
  (7, .ishl, 8, 0, 0, 0, 0, 0, 0, 0, []),
  (8, .aload_n 0, 9, 0, 0, 0, 0, 0, 0, 0, []),
  (9, .iload_n 1, 10, 1, 0, 0, 0, 0, 0, 0, []),
  (10, .iconst 1, 11, 0, 0, 0, 0, 0, 1, 0, []),
  (11, .iadd, 12, 0, 0, 0, 0, 0, 0, 0, []),
  (12, .invokevirtual 17, 15, 28, 2, 1, 0, 215, 0, 0, [0, 0]),
  (15, .ior, 16, 0, 0, 0, 0, 0, 0, 0, [])],
 [(16, .ireturn, 17, 0, 0, 0, 0, 0, 0, 0, [])]]
def cd_X4_wordAt : List (List sd_I) := [[(0, .aload_n 0, 1, 0, 0, 0, 0, 0, 0, 0, []),
  (1, .iload_n 1, 2, 1, 0, 0, 0, 0, 0, 0, []),
  (2, .invokevirtual 21, 5, 29, 2, 1, 0, 233, 0, 0, [0, 0]),
  (5, .bipush 16, 7, 0, 0, 0, 0, 0, 16, 0, []),
  (7, .ishl, 8, 0, 0, 0, 0, 0, 0, 0, []),
  (8, .aload_n 0, 9, 0, 0, 0, 0, 0, 0, 0, []),
  (9, .iload_n 1, 10, 1, 0, 0, 0, 0, 0, 0, []),
  (10, .iconst 2, 11, 0, 0, 0, 0, 0, 2, 0, []),
  (11, .iadd, 12, 0, 0, 0, 0, 0, 0, 0, []),
  (12, .invokevirtual 21, 15, 29, 2, 1, 0, 233, 0, 0, [0, 0]),
  (15, .ior, 16, 0, 0, 0, 0, 0, 0, 0, [])],
 [(16, .ireturn, 17, 0, 0, 0, 0, 0, 0, 0, [])]]
def cd_X4_replace : List (List sd_I) := [[(0, .aload_n 0, 1, 0, 0, 0, 0, 0, 0, 0, []),
  (1, .iload_n 1, 2, 1, 0, 0, 0, 0, 0, 0, []),
  (2, .invokevirtual 24, 5, 27, 2, 1, 0, 177, 0, 0, [0, 0]),
  (5, .ifCond .eq 14, 8, 19, 0, 0, 0, 0, 0, 0, []),
  (8, .aload_n 0, 9, 0, 0, 0, 0, 0, 0, 0, []),
  (9, .getfield 9, 12, 1, 0, 14, 1, 72, 0, 0, []),
  (12, .iload_n 1, 13, 1, 0, 0, 0, 0, 0, 0, []),
  (13, .iload_n 2, 14, 2, 0, 0, 0, 0, 0, 0, []),
  (14, .sipush 255, 17, 0, 0, 0, 0, 0, 255, 0, [])],
 [(17, .iand, 18, 0, 0, 0, 0, 0, 0, 0, []),
  (18, .iastore, 19, 0, 0, 0, 0, 0, 0, 0, []),
  (19, .return_, 20, 0, 0, 0, 0, 0, 0, 0, [])]]
def cd_X4_append : List (List sd_I) := [[(0, .iload_n 3, 1, 3, 0, 0, 0, 0, 0, 0, []),
  (1, .iconst 1, 2, 0, 0, 0, 0, 0, 1, 0, []),
  (2, .isub, 3, 0, 0, 0, 0, 0, 0, 0, []),
  (3, .istore 4, 5, 4, 0, 0, 0, 0, 0, 0, []),
  (5, .iload 4, 7, 4, 0, 0, 0, 0, 0, 0, []),
  (7, .ifCond .lt 57, 10, 64, 0, 0, 0, 0, 0, 0, []),
  (10, .aload_n 0, 11, 0, 0, 0, 0, 0, 0, 0, []),
  (11, .getfield 13, 14, 1, 1, 0, 0, 75, 0, 0, []),
  (14, .ifCond .lt 44, 17, 58, 0, 0, 0, 0, 0, 0, [])],
 [(17, .aload_n 0, 18, 0, 0, 0, 0, 0, 0, 0, []),
  (18, .getfield 13, 21, 1, 1, 0, 0, 75, 0, 0, []),
  (21, .sipush 300, 24, 0, 0, 0, 0, 0, 300, 0, []),
  (24, .if_icmp .ge 34, 27, 58, 0, 0, 0, 0, 0, 0, []),
  (27, .aload_n 0, 28, 0, 0, 0, 0, 0, 0, 0, []),
  (28, .getfield 9, 31, 1, 0, 14, 1, 72, 0, 0, []),
  (31, .aload_n 0, 32, 0, 0, 0, 0, 0, 0, 0, [])],
 [(32, .getfield 13, 35, 1, 1, 0, 0, 75, 0, 0, []),
  (35, .lload_n 1, 36, 1, 0, 0, 0, 0, 0, 0, []),
  (36, .bipush 8, 38, 0, 0, 0, 0, 0, 8, 0, []),
  (38, .iload 4, 40, 4, 0, 0, 0, 0, 0, 0, []),
  (40, .imul, 41, 0, 0, 0, 0, 0, 0, 0, []),
  (41, .lushr, 42, 0, 0, 0, 0, 0, 0, 0, []),
  (42, .l2i, 43, 0, 0, 0, 0, 0, 0, 0, []),
  (43, .sipush 255, 46, 0, 0, 0, 0, 0, 255, 0, []),
  (46, .iand, 47, 0, 0, 0, 0, 0, 0, 0, []),
  (47, .iastore, 48, 0, 0, 0, 0, 0, 0, 0, [])],
 [(48, .aload_n 0, 49, 0, 0, 0, 0, 0, 0, 0, []),
  (49, .dup, 50, 0, 0, 0, 0, 0, 0, 0, []),
  (50, .getfield 13, 53, 1, 1, 0, 0, 75, 0, 0, []),
  (53, .iconst 1, 54, 0, 0, 0, 0, 0, 1, 0, []),
  (54, .iadd, 55, 0, 0, 0, 0, 0, 0, 0, []),
  (55, .putfield 13, 58, 1, 1, 0, 0, 75, 0, 0, []),
  (58, .iinc 4 (-1), 61, 4, 0, 0, 0, 0, (-1), 0, []),
  (61, .goto (-56), 64, 5, 0, 0, 0, 0, 0, 0, [])],
 [(64, .return_, 65, 0, 0, 0, 0, 0, 0, 0, [])]]
def cd_X5_init : List (List sd_I) := [[(0, .aload_n 0, 1, 0, 0, 0, 0, 0, 0, 0, []),
  (1, .invokespecial 1, 4, 0, 0, 0, 3, 251, 0, 0, []),
  (4, .aload_n 0, 5, 0, 0, 0, 0, 0, 0, 0, []),
  (5, .bipush 8, 7, 0, 0, 0, 0, 0, 8, 0, []),
  (7, .newarray .int, 9, 16, 8, 0, 0, 82, 0, 0, []),
  (9, .putfield 9, 12, 6, 2, 19, 1, 254, 0, 0, []),
  (12, .aload_n 0, 13, 0, 0, 0, 0, 0, 0, 0, []),
  (13, .bipush 32, 15, 0, 0, 0, 0, 0, 32, 0, []),
  (15, .newarray .long, 17, 17, 32, 0, 0, 106, 0, 0, [])],
 [(17, .putfield 15, 20, 6, 3, 20, 1, 255, 0, 0, []),
  (20, .aload_n 0, 21, 0, 0, 0, 0, 0, 0, 0, []),
  (21, .bipush 32, 23, 0, 0, 0, 0, 0, 32, 0, []),
  (23, .newarray .boolean, 25, 18, 32, 0, 0, 282, 0, 0, []),
  (25, .putfield 19, 28, 6, 4, 21, 1, 256, 0, 0, []),
  (28, .aload_n 0, 29, 0, 0, 0, 0, 0, 0, 0, []),
  (29, .aload_n 1, 30, 1, 0, 0, 0, 0, 0, 0, []),
  (30, .putfield 23, 33, 6, 0, 5, 1, 252, 0, 0, [])],
 [(33, .aload_n 0, 34, 0, 0, 0, 0, 0, 0, 0, []),
  (34, .iload_n 2, 35, 2, 0, 0, 0, 0, 0, 0, []),
  (35, .putfield 27, 38, 6, 1, 0, 1, 253, 0, 0, []),
  (38, .return_, 39, 0, 0, 0, 0, 0, 0, 0, [])]]
def cd_X5_begin : List (List sd_I) := [[(0, .aload_n 0, 1, 0, 0, 0, 0, 0, 0, 0, []),
  (1, .invokevirtual 31, 4, 41, 1, 0, 0, 419, 0, 0, [0, 0]),
  (4, .aload_n 0, 5, 0, 0, 0, 0, 0, 0, 0, []),
  (5, .lload_n 1, 6, 1, 0, 0, 0, 0, 0, 0, []),
  (6, .putfield 34, 9, 6, 6, 1, 0, 259, 0, 0, []),
  (9, .aload_n 0, 10, 0, 0, 0, 0, 0, 0, 0, []),
  (10, .iload 4, 12, 4, 0, 0, 0, 0, 0, 0, []),
  (12, .i2l, 13, 0, 0, 0, 0, 0, 0, 0, []),
  (13, .iload 5, 15, 5, 0, 0, 0, 0, 0, 0, []),
  (15, .i2l, 16, 0, 0, 0, 0, 0, 0, 0, [])],
 [(16, .ladd, 17, 0, 0, 0, 0, 0, 0, 0, []),
  (17, .putfield 38, 20, 6, 7, 1, 0, 261, 0, 0, []),
  (20, .aload_n 0, 21, 0, 0, 0, 0, 0, 0, 0, []),
  (21, .iload_n 3, 22, 3, 0, 0, 0, 0, 0, 0, []),
  (22, .putfield 41, 25, 6, 8, 0, 0, 262, 0, 0, []),
  (25, .aload_n 0, 26, 0, 0, 0, 0, 0, 0, 0, []),
  (26, .bipush 6, 28, 0, 0, 0, 0, 0, 6, 0, []),
  (28, .lload_n 1, 29, 1, 0, 0, 0, 0, 0, 0, []),
  (29, .iload 4, 31, 4, 0, 0, 0, 0, 0, 0, []),
  (31, .invokevirtual 44, 34, 45, 4, 0, 0, 423, 0, 0, [0, 0])],
 [(34, .aload_n 0, 35, 0, 0, 0, 0, 0, 0, 0, []),
  (35, .lload_n 1, 36, 1, 0, 0, 0, 0, 0, 0, []),
  (36, .aload_n 0, 37, 0, 0, 0, 0, 0, 0, 0, []),
  (37, .getfield 38, 40, 6, 7, 1, 0, 261, 0, 0, []),
  (40, .invokevirtual 48, 43, 37, 3, 0, 0, 434, 0, 0, [0, 0]),
  (43, .return_, 44, 0, 0, 0, 0, 0, 0, 0, [])]]
def cd_X5_arrive : List (List sd_I) := [[(0, .lload_n 1, 1, 1, 0, 0, 0, 0, 0, 0, []),
  (1, .aload_n 0, 2, 0, 0, 0, 0, 0, 0, 0, []),
  (2, .getfield 34, 5, 6, 6, 1, 0, 259, 0, 0, []),
  (5, .lcmp, 6, 0, 0, 0, 0, 0, 0, 0, []),
  (6, .ifCond .ge 14, 9, 20, 0, 0, 0, 0, 0, 0, []),
  (9, .aload_n 0, 10, 0, 0, 0, 0, 0, 0, 0, []),
  (10, .iconst 3, 11, 0, 0, 0, 0, 0, 3, 0, []),
  (11, .lload_n 1, 12, 1, 0, 0, 0, 0, 0, 0, []),
  (12, .iload 5, 14, 5, 0, 0, 0, 0, 0, 0, []),
  (14, .invokevirtual 44, 17, 45, 4, 0, 0, 423, 0, 0, [0, 0])],
 [(17, .goto 96, 20, 113, 0, 0, 0, 0, 0, 0, []),
  (20, .lload_n 1, 21, 1, 0, 0, 0, 0, 0, 0, []),
  (21, .aload_n 0, 22, 0, 0, 0, 0, 0, 0, 0, []),
  (22, .getfield 34, 25, 6, 6, 1, 0, 259, 0, 0, []),
  (25, .lsub, 26, 0, 0, 0, 0, 0, 0, 0, []),
  (26, .ldc2_w 52, 29, 0, 0, 0, 0, 441, 0, 32, []),
  (29, .lcmp, 30, 0, 0, 0, 0, 0, 0, 0, []),
  (30, .ifCond .lt 23, 33, 53, 0, 0, 0, 0, 0, 0, [])],
 [(33, .aload_n 0, 34, 0, 0, 0, 0, 0, 0, 0, []),
  (34, .getfield 54, 37, 6, 5, 0, 0, 257, 0, 0, []),
  (37, .ifCond .ne 16, 40, 53, 0, 0, 0, 0, 0, 0, []),
  (40, .aload_n 0, 41, 0, 0, 0, 0, 0, 0, 0, []),
  (41, .lload_n 1, 42, 1, 0, 0, 0, 0, 0, 0, []),
  (42, .iload_n 3, 43, 3, 0, 0, 0, 0, 0, 0, []),
  (43, .iload 5, 45, 5, 0, 0, 0, 0, 0, 0, []),
  (45, .iload 6, 47, 6, 0, 0, 0, 0, 0, 0, []),
  (47, .invokevirtual 57, 50, 34, 5, 0, 0, 449, 0, 0, [0, 0])],
 [(50, .goto 63, 53, 113, 0, 0, 0, 0, 0, 0, []),
  (53, .lload_n 1, 54, 1, 0, 0, 0, 0, 0, 0, []),
  (54, .aload_n 0, 55, 0, 0, 0, 0, 0, 0, 0, []),
  (55, .getfield 34, 58, 6, 6, 1, 0, 259, 0, 0, []),
  (58, .lsub, 59, 0, 0, 0, 0, 0, 0, 0, []),
  (59, .ldc2_w 52, 62, 0, 0, 0, 0, 441, 0, 32, []),
  (62, .lcmp, 63, 0, 0, 0, 0, 0, 0, 0, []),
  (63, .ifCond .lt 14, 66, 77, 0, 0, 0, 0, 0, 0, [])],
 [(66, .aload_n 0, 67, 0, 0, 0, 0, 0, 0, 0, []),
  (67, .iconst 4, 68, 0, 0, 0, 0, 0, 4, 0, []),
  (68, .lload_n 1, 69, 1, 0, 0, 0, 0, 0, 0, []),
  (69, .iload 5, 71, 5, 0, 0, 0, 0, 0, 0, []),
  (71, .invokevirtual 44, 74, 45, 4, 0, 0, 423, 0, 0, [0, 0]),
  (74, .goto 39, 77, 113, 0, 0, 0, 0, 0, 0, []),
  (77, .aload_n 0, 78, 0, 0, 0, 0, 0, 0, 0, []),
  (78, .lload_n 1, 79, 1, 0, 0, 0, 0, 0, 0, []),
  (79, .invokevirtual 61, 82, 39, 2, 1, 0, 450, 0, 0, [0, 0])],
 [(82, .ifCond .eq 14, 85, 96, 0, 0, 0, 0, 0, 0, []),
  (85, .aload_n 0, 86, 0, 0, 0, 0, 0, 0, 0, []),
  (86, .iconst 5, 87, 0, 0, 0, 0, 0, 5, 0, []),
  (87, .lload_n 1, 88, 1, 0, 0, 0, 0, 0, 0, []),
  (88, .iload 5, 90, 5, 0, 0, 0, 0, 0, 0, []),
  (90, .invokevirtual 44, 93, 45, 4, 0, 0, 423, 0, 0, [0, 0]),
  (93, .goto 20, 96, 113, 0, 0, 0, 0, 0, 0, [])],
 [(96, .aload_n 0, 97, 0, 0, 0, 0, 0, 0, 0, []),
  (97, .lload_n 1, 98, 1, 0, 0, 0, 0, 0, 0, []),
  (98, .aload_n 0, 99, 0, 0, 0, 0, 0, 0, 0, []),
  (99, .getfield 38, 102, 6, 7, 1, 0, 261, 0, 0, []),
  (102, .aload_n 0, 103, 0, 0, 0, 0, 0, 0, 0, []),
  (103, .iload_n 3, 104, 3, 0, 0, 0, 0, 0, 0, []),
  (104, .iload 4, 106, 4, 0, 0, 0, 0, 0, 0, []),
  (106, .invokevirtual 65, 109, 36, 3, 2, 0, 454, 0, 0, [0, 0]),
  (109, .ladd, 110, 0, 0, 0, 0, 0, 0, 0, []),
  (110, .invokevirtual 48, 113, 37, 3, 0, 0, 434, 0, 0, [0, 0])],
 [(113, .return_, 114, 0, 0, 0, 0, 0, 0, 0, [])]]
def cd_X5_sinceBegin : List (List sd_I) := [[(0, .iload_n 1, 1, 1, 0, 0, 0, 0, 0, 0, []),
  (1, .aload_n 0, 2, 0, 0, 0, 0, 0, 0, 0, []),
  (2, .getfield 41, 5, 6, 8, 0, 0, 262, 0, 0, []),
  (5, .isub, 6, 0, 0, 0, 0, 0, 0, 0, []),
  (6, .i2l, 7, 0, 0, 0, 0, 0, 0, 0, []),
  (7, .lstore_n 3, 8, 3, 0, 0, 0, 0, 0, 0, []),
  (8, .iload_n 2, 9, 2, 0, 0, 0, 0, 0, 0, []),
  (9, .ifCond .le 16, 12, 25, 0, 0, 0, 0, 0, 0, []),
  (12, .lload_n 3, 13, 3, 0, 0, 0, 0, 0, 0, []),
  (13, .ldc2_w 69, 16, 0, 0, 0, 0, 458, 0, 1000, [])],
 [(16, .lmul, 17, 0, 0, 0, 0, 0, 0, 0, []),
  (17, .iload_n 2, 18, 2, 0, 0, 0, 0, 0, 0, []),
  (18, .i2l, 19, 0, 0, 0, 0, 0, 0, 0, []),
  (19, .invokestatic 71, 22, 139, 2, 2, 1, 459, 0, 0, [0, 0]),
  (22, .goto 4, 25, 26, 0, 0, 0, 0, 0, 0, []),
  (25, .lconst 0, 26, 0, 0, 0, 0, 0, 0, 0, []),
  (26, .lreturn, 27, 0, 0, 0, 0, 0, 0, 0, [])]]
def cd_X5_hold : List (List sd_I) := [[(0, .lload_n 1, 1, 1, 0, 0, 0, 0, 0, 0, []),
  (1, .invokestatic 77, 4, 38, 1, 1, 1, 438, 0, 0, [0, 0]),
  (4, .istore 5, 6, 5, 0, 0, 0, 0, 0, 0, []),
  (6, .aload_n 0, 7, 0, 0, 0, 0, 0, 0, 0, []),
  (7, .getfield 15, 10, 6, 3, 20, 1, 255, 0, 0, []),
  (10, .iload 5, 12, 5, 0, 0, 0, 0, 0, 0, []),
  (12, .lload_n 3, 13, 3, 0, 0, 0, 0, 0, 0, []),
  (13, .lastore, 14, 0, 0, 0, 0, 0, 0, 0, []),
  (14, .aload_n 0, 15, 0, 0, 0, 0, 0, 0, 0, []),
  (15, .getfield 19, 18, 6, 4, 21, 1, 256, 0, 0, [])],
 [(18, .iload 5, 20, 5, 0, 0, 0, 0, 0, 0, []),
  (20, .iconst 1, 21, 0, 0, 0, 0, 0, 1, 0, []),
  (21, .bastore, 22, 0, 0, 0, 0, 0, 0, 0, []),
  (22, .aload_n 0, 23, 0, 0, 0, 0, 0, 0, 0, []),
  (23, .dup, 24, 0, 0, 0, 0, 0, 0, 0, []),
  (24, .getfield 54, 27, 6, 5, 0, 0, 257, 0, 0, []),
  (27, .iconst 1, 28, 0, 0, 0, 0, 0, 1, 0, []),
  (28, .iadd, 29, 0, 0, 0, 0, 0, 0, 0, []),
  (29, .putfield 54, 32, 6, 5, 0, 0, 257, 0, 0, [])],
 [(32, .return_, 33, 0, 0, 0, 0, 0, 0, 0, [])]]
def cd_X5_slotOf : List (List sd_I) := [[(0, .lload_n 0, 1, 0, 0, 0, 0, 0, 0, 0, []),
  (1, .ldc2_w 52, 4, 0, 0, 0, 0, 441, 0, 32, []),
  (4, .invokestatic 81, 7, 141, 2, 2, 1, 442, 0, 0, [0, 0]),
  (7, .l2i, 8, 0, 0, 0, 0, 0, 0, 0, []),
  (8, .ireturn, 9, 0, 0, 0, 0, 0, 0, 0, [])]]
def cd_X5_waits : List (List sd_I) := [[(0, .lload_n 1, 1, 1, 0, 0, 0, 0, 0, 0, []),
  (1, .aload_n 0, 2, 0, 0, 0, 0, 0, 0, 0, []),
  (2, .getfield 34, 5, 6, 6, 1, 0, 259, 0, 0, []),
  (5, .lcmp, 6, 0, 0, 0, 0, 0, 0, 0, []),
  (6, .ifCond .lt 32, 9, 38, 0, 0, 0, 0, 0, 0, []),
  (9, .lload_n 1, 10, 1, 0, 0, 0, 0, 0, 0, []),
  (10, .aload_n 0, 11, 0, 0, 0, 0, 0, 0, 0, []),
  (11, .getfield 34, 14, 6, 6, 1, 0, 259, 0, 0, []),
  (14, .lsub, 15, 0, 0, 0, 0, 0, 0, 0, []),
  (15, .ldc2_w 52, 18, 0, 0, 0, 0, 441, 0, 32, [])],
 [(18, .lcmp, 19, 0, 0, 0, 0, 0, 0, 0, []),
  (19, .ifCond .ge 19, 22, 38, 0, 0, 0, 0, 0, 0, []),
  (22, .aload_n 0, 23, 0, 0, 0, 0, 0, 0, 0, []),
  (23, .getfield 19, 26, 6, 4, 21, 1, 256, 0, 0, []),
  (26, .lload_n 1, 27, 1, 0, 0, 0, 0, 0, 0, []),
  (27, .invokestatic 77, 30, 38, 1, 1, 1, 438, 0, 0, [0, 0]),
  (30, .baload, 31, 0, 0, 0, 0, 0, 0, 0, []),
  (31, .ifCond .eq 7, 34, 38, 0, 0, 0, 0, 0, 0, [])],
 [(34, .iconst 1, 35, 0, 0, 0, 0, 0, 1, 0, []),
  (35, .goto 4, 38, 39, 0, 0, 0, 0, 0, 0, []),
  (38, .iconst 0, 39, 0, 0, 0, 0, 0, 0, 0, []),
  (39, .ireturn, 40, 0, 0, 0, 0, 0, 0, 0, [])]]
def cd_X5_timeOf : List (List sd_I) := [[(0, .aload_n 0, 1, 0, 0, 0, 0, 0, 0, 0, []),
  (1, .getfield 15, 4, 6, 3, 20, 1, 255, 0, 0, []),
  (4, .lload_n 1, 5, 1, 0, 0, 0, 0, 0, 0, []),
  (5, .invokestatic 77, 8, 38, 1, 1, 1, 438, 0, 0, [0, 0]),
  (8, .laload, 9, 0, 0, 0, 0, 0, 0, 0, []),
  (9, .lreturn, 10, 0, 0, 0, 0, 0, 0, 0, [])]]
def cd_X5_forgetWaiting : List (List sd_I) := [[(0, .iconst 0, 1, 0, 0, 0, 0, 0, 0, 0, []),
  (1, .istore_n 1, 2, 1, 0, 0, 0, 0, 0, 0, []),
  (2, .iload_n 1, 3, 1, 0, 0, 0, 0, 0, 0, []),
  (3, .bipush 32, 5, 0, 0, 0, 0, 0, 32, 0, []),
  (5, .if_icmp .ge 16, 8, 21, 0, 0, 0, 0, 0, 0, []),
  (8, .aload_n 0, 9, 0, 0, 0, 0, 0, 0, 0, []),
  (9, .getfield 19, 12, 6, 4, 21, 1, 256, 0, 0, []),
  (12, .iload_n 1, 13, 1, 0, 0, 0, 0, 0, 0, []),
  (13, .iconst 0, 14, 0, 0, 0, 0, 0, 0, 0, []),
  (14, .bastore, 15, 0, 0, 0, 0, 0, 0, 0, []),
  (15, .iinc 1 1, 18, 1, 0, 0, 0, 0, 1, 0, [])],
 [(18, .goto (-16), 21, 2, 0, 0, 0, 0, 0, 0, []),
  (21, .aload_n 0, 22, 0, 0, 0, 0, 0, 0, 0, []),
  (22, .iconst 0, 23, 0, 0, 0, 0, 0, 0, 0, []),
  (23, .putfield 54, 26, 6, 5, 0, 0, 257, 0, 0, []),
  (26, .return_, 27, 0, 0, 0, 0, 0, 0, 0, [])]]
def cd_X5_playDue : List (List sd_I) := [[(0, .iconst 0, 1, 0, 0, 0, 0, 0, 0, 0, []),
  (1, .istore_n 2, 2, 2, 0, 0, 0, 0, 0, 0, []),
  (2, .iconst 0, 3, 0, 0, 0, 0, 0, 0, 0, []),
  (3, .istore_n 3, 4, 3, 0, 0, 0, 0, 0, 0, []),
  (4, .iload_n 3, 5, 3, 0, 0, 0, 0, 0, 0, []),
  (5, .bipush 32, 7, 0, 0, 0, 0, 0, 32, 0, []),
  (7, .if_icmp .ge 68, 10, 75, 0, 0, 0, 0, 0, 0, []),
  (10, .aload_n 0, 11, 0, 0, 0, 0, 0, 0, 0, []),
  (11, .getfield 54, 14, 6, 5, 0, 0, 257, 0, 0, []),
  (14, .ifCond .le 61, 17, 75, 0, 0, 0, 0, 0, 0, [])],
 [(17, .aload_n 0, 18, 0, 0, 0, 0, 0, 0, 0, []),
  (18, .iload_n 1, 19, 1, 0, 0, 0, 0, 0, 0, []),
  (19, .invokevirtual 84, 22, 43, 2, 1, 0, 466, 0, 0, [0, 0]),
  (22, .istore 4, 24, 4, 0, 0, 0, 0, 0, 0, []),
  (24, .iload 4, 26, 4, 0, 0, 0, 0, 0, 0, []),
  (26, .bipush 32, 28, 0, 0, 0, 0, 0, 32, 0, []),
  (28, .if_icmp .ne 6, 31, 34, 0, 0, 0, 0, 0, 0, []),
  (31, .goto 44, 34, 75, 0, 0, 0, 0, 0, 0, [])],
 [(34, .iconst 0, 35, 0, 0, 0, 0, 0, 0, 0, []),
  (35, .istore 5, 37, 5, 0, 0, 0, 0, 0, 0, []),
  (37, .iload 5, 39, 5, 0, 0, 0, 0, 0, 0, []),
  (39, .iload 4, 41, 4, 0, 0, 0, 0, 0, 0, []),
  (41, .if_icmp .ge 15, 44, 56, 0, 0, 0, 0, 0, 0, []),
  (44, .aload_n 0, 45, 0, 0, 0, 0, 0, 0, 0, []),
  (45, .iconst 2, 46, 0, 0, 0, 0, 0, 2, 0, []),
  (46, .iload_n 1, 47, 1, 0, 0, 0, 0, 0, 0, []),
  (47, .invokevirtual 88, 50, 44, 3, 0, 0, 470, 0, 0, [0, 0])],
 [(50, .iinc 5 1, 53, 5, 0, 0, 0, 0, 1, 0, []),
  (53, .goto (-16), 56, 37, 0, 0, 0, 0, 0, 0, []),
  (56, .aload_n 0, 57, 0, 0, 0, 0, 0, 0, 0, []),
  (57, .iconst 1, 58, 0, 0, 0, 0, 0, 1, 0, []),
  (58, .iload_n 1, 59, 1, 0, 0, 0, 0, 0, 0, []),
  (59, .invokevirtual 88, 62, 44, 3, 0, 0, 470, 0, 0, [0, 0]),
  (62, .iload_n 2, 63, 2, 0, 0, 0, 0, 0, 0, []),
  (63, .iload 4, 65, 4, 0, 0, 0, 0, 0, 0, [])],
 [(65, .iconst 1, 66, 0, 0, 0, 0, 0, 1, 0, []),
  (66, .iadd, 67, 0, 0, 0, 0, 0, 0, 0, []),
  (67, .iadd, 68, 0, 0, 0, 0, 0, 0, 0, []),
  (68, .istore_n 2, 69, 2, 0, 0, 0, 0, 0, 0, []),
  (69, .iinc 3 1, 72, 3, 0, 0, 0, 0, 1, 0, []),
  (72, .goto (-68), 75, 4, 0, 0, 0, 0, 0, 0, []),
  (75, .iload_n 2, 76, 2, 0, 0, 0, 0, 0, 0, []),
  (76, .ireturn, 77, 0, 0, 0, 0, 0, 0, 0, [])]]
def cd_X5_gapToDue : List (List sd_I) := [[(0, .iconst 0, 1, 0, 0, 0, 0, 0, 0, 0, []),
  (1, .istore_n 2, 2, 2, 0, 0, 0, 0, 0, 0, []),
  (2, .iload_n 2, 3, 2, 0, 0, 0, 0, 0, 0, []),
  (3, .bipush 32, 5, 0, 0, 0, 0, 0, 32, 0, []),
  (5, .if_icmp .ge 43, 8, 48, 0, 0, 0, 0, 0, 0, []),
  (8, .aload_n 0, 9, 0, 0, 0, 0, 0, 0, 0, []),
  (9, .getfield 34, 12, 6, 6, 1, 0, 259, 0, 0, []),
  (12, .iload_n 2, 13, 2, 0, 0, 0, 0, 0, 0, []),
  (13, .i2l, 14, 0, 0, 0, 0, 0, 0, 0, []),
  (14, .ladd, 15, 0, 0, 0, 0, 0, 0, 0, []),
  (15, .invokestatic 77, 18, 38, 1, 1, 1, 438, 0, 0, [0, 0])],
 [(18, .istore_n 3, 19, 3, 0, 0, 0, 0, 0, 0, []),
  (19, .aload_n 0, 20, 0, 0, 0, 0, 0, 0, 0, []),
  (20, .getfield 19, 23, 6, 4, 21, 1, 256, 0, 0, []),
  (23, .iload_n 3, 24, 3, 0, 0, 0, 0, 0, 0, []),
  (24, .baload, 25, 0, 0, 0, 0, 0, 0, 0, []),
  (25, .ifCond .eq 17, 28, 42, 0, 0, 0, 0, 0, 0, []),
  (28, .aload_n 0, 29, 0, 0, 0, 0, 0, 0, 0, []),
  (29, .getfield 15, 32, 6, 3, 20, 1, 255, 0, 0, [])],
 [(32, .iload_n 3, 33, 3, 0, 0, 0, 0, 0, 0, []),
  (33, .laload, 34, 0, 0, 0, 0, 0, 0, 0, []),
  (34, .iload_n 1, 35, 1, 0, 0, 0, 0, 0, 0, []),
  (35, .i2l, 36, 0, 0, 0, 0, 0, 0, 0, []),
  (36, .lcmp, 37, 0, 0, 0, 0, 0, 0, 0, []),
  (37, .ifCond .gt 5, 40, 42, 0, 0, 0, 0, 0, 0, []),
  (40, .iload_n 2, 41, 2, 0, 0, 0, 0, 0, 0, []),
  (41, .ireturn, 42, 0, 0, 0, 0, 0, 0, 0, []),
  (42, .iinc 2 1, 45, 2, 0, 0, 0, 0, 1, 0, []),
  (45, .goto (-43), 48, 2, 0, 0, 0, 0, 0, 0, [])],
 [(48, .bipush 32, 50, 0, 0, 0, 0, 0, 32, 0, []),
  (50, .ireturn, 51, 0, 0, 0, 0, 0, 0, 0, [])]]
def cd_X5_step : List (List sd_I) := [[(0, .aload_n 0, 1, 0, 0, 0, 0, 0, 0, 0, []),
  (1, .getfield 34, 4, 6, 6, 1, 0, 259, 0, 0, []),
  (4, .invokestatic 77, 7, 38, 1, 1, 1, 438, 0, 0, [0, 0]),
  (7, .istore_n 3, 8, 3, 0, 0, 0, 0, 0, 0, []),
  (8, .aload_n 0, 9, 0, 0, 0, 0, 0, 0, 0, []),
  (9, .dup, 10, 0, 0, 0, 0, 0, 0, 0, []),
  (10, .getfield 54, 13, 6, 5, 0, 0, 257, 0, 0, []),
  (13, .aload_n 0, 14, 0, 0, 0, 0, 0, 0, 0, []),
  (14, .getfield 19, 17, 6, 4, 21, 1, 256, 0, 0, [])],
 [(17, .iload_n 3, 18, 3, 0, 0, 0, 0, 0, 0, []),
  (18, .baload, 19, 0, 0, 0, 0, 0, 0, 0, []),
  (19, .ifCond .eq 7, 22, 26, 0, 0, 0, 0, 0, 0, []),
  (22, .iconst 1, 23, 0, 0, 0, 0, 0, 1, 0, []),
  (23, .goto 4, 26, 27, 0, 0, 0, 0, 0, 0, []),
  (26, .iconst 0, 27, 0, 0, 0, 0, 0, 0, 0, []),
  (27, .isub, 28, 0, 0, 0, 0, 0, 0, 0, []),
  (28, .putfield 54, 31, 6, 5, 0, 0, 257, 0, 0, []),
  (31, .aload_n 0, 32, 0, 0, 0, 0, 0, 0, 0, [])],
 [(32, .getfield 19, 35, 6, 4, 21, 1, 256, 0, 0, []),
  (35, .iload_n 3, 36, 3, 0, 0, 0, 0, 0, 0, []),
  (36, .iconst 0, 37, 0, 0, 0, 0, 0, 0, 0, []),
  (37, .bastore, 38, 0, 0, 0, 0, 0, 0, 0, []),
  (38, .aload_n 0, 39, 0, 0, 0, 0, 0, 0, 0, []),
  (39, .iload_n 1, 40, 1, 0, 0, 0, 0, 0, 0, []),
  (40, .aload_n 0, 41, 0, 0, 0, 0, 0, 0, 0, []),
  (41, .getfield 34, 44, 6, 6, 1, 0, 259, 0, 0, []),
  (44, .iload_n 2, 45, 2, 0, 0, 0, 0, 0, 0, []),
  (45, .invokevirtual 44, 48, 45, 4, 0, 0, 423, 0, 0, [0, 0])],
 [(48, .aload_n 0, 49, 0, 0, 0, 0, 0, 0, 0, []),
  (49, .dup, 50, 0, 0, 0, 0, 0, 0, 0, []),
  (50, .getfield 34, 53, 6, 6, 1, 0, 259, 0, 0, []),
  (53, .lconst 1, 54, 0, 0, 0, 0, 0, 0, 1, []),
  (54, .ladd, 55, 0, 0, 0, 0, 0, 0, 0, []),
  (55, .putfield 34, 58, 6, 6, 1, 0, 259, 0, 0, []),
  (58, .return_, 59, 0, 0, 0, 0, 0, 0, 0, [])]]
def cd_X5_note : List (List sd_I) := [[(0, .iload_n 1, 1, 1, 0, 0, 0, 0, 0, 0, []),
  (1, .ifCond .lt 19, 4, 20, 0, 0, 0, 0, 0, 0, []),
  (4, .iload_n 1, 5, 1, 0, 0, 0, 0, 0, 0, []),
  (5, .bipush 8, 7, 0, 0, 0, 0, 0, 8, 0, []),
  (7, .if_icmp .ge 13, 10, 20, 0, 0, 0, 0, 0, 0, []),
  (10, .aload_n 0, 11, 0, 0, 0, 0, 0, 0, 0, []),
  (11, .getfield 9, 14, 6, 2, 19, 1, 254, 0, 0, []),
  (14, .iload_n 1, 15, 1, 0, 0, 0, 0, 0, 0, []),
  (15, .dup2, 16, 0, 0, 0, 0, 0, 0, 0, [])],
 [(16, .iaload, 17, 0, 0, 0, 0, 0, 0, 0, []),
  (17, .iconst 1, 18, 0, 0, 0, 0, 0, 1, 0, []),
  (18, .iadd, 19, 0, 0, 0, 0, 0, 0, 0, []),
  (19, .iastore, 20, 0, 0, 0, 0, 0, 0, 0, []),
  (20, .aload_n 0, 21, 0, 0, 0, 0, 0, 0, 0, []),
  (21, .getfield 23, 24, 6, 0, 5, 2, 252, 0, 0, []),
  (24, .iload_n 1, 25, 1, 0, 0, 0, 0, 0, 0, []),
  (25, .aload_n 0, 26, 0, 0, 0, 0, 0, 0, 0, []),
  (26, .getfield 27, 29, 6, 1, 0, 0, 253, 0, 0, []),
  (29, .lload_n 2, 30, 2, 0, 0, 0, 0, 0, 0, []),
  (30, .iload 4, 32, 4, 0, 0, 0, 0, 0, 0, [])],
 [(32, .invokevirtual 92, 35, 12, 5, 0, 0, 427, 0, 0, [0, 0]),
  (35, .return_, 36, 0, 0, 0, 0, 0, 0, 0, [])]]
def cd_X5_noted : List (List sd_I) := [[(0, .iload_n 1, 1, 1, 0, 0, 0, 0, 0, 0, []),
  (1, .ifCond .lt 18, 4, 19, 0, 0, 0, 0, 0, 0, []),
  (4, .iload_n 1, 5, 1, 0, 0, 0, 0, 0, 0, []),
  (5, .bipush 8, 7, 0, 0, 0, 0, 0, 8, 0, []),
  (7, .if_icmp .ge 12, 10, 19, 0, 0, 0, 0, 0, 0, []),
  (10, .aload_n 0, 11, 0, 0, 0, 0, 0, 0, 0, []),
  (11, .getfield 9, 14, 6, 2, 19, 1, 254, 0, 0, []),
  (14, .iload_n 1, 15, 1, 0, 0, 0, 0, 0, 0, []),
  (15, .iaload, 16, 0, 0, 0, 0, 0, 0, 0, [])],
 [(16, .goto 4, 19, 20, 0, 0, 0, 0, 0, 0, []),
  (19, .iconst 0, 20, 0, 0, 0, 0, 0, 0, 0, []),
  (20, .ireturn, 21, 0, 0, 0, 0, 0, 0, 0, [])]]
def cd_X6_fault : List (List sd_I) := [[(0, .aload_n 0, 1, 0, 0, 0, 0, 0, 0, 0, []),
  (1, .getfield 9, 4, 1, 1, 0, 0, 74, 0, 0, []),
  (4, .bipush 8, 6, 0, 0, 0, 0, 0, 8, 0, []),
  (6, .if_icmp .lt 12, 9, 18, 0, 0, 0, 0, 0, 0, []),
  (9, .aload_n 0, 10, 0, 0, 0, 0, 0, 0, 0, []),
  (10, .getfield 9, 13, 1, 1, 0, 0, 74, 0, 0, []),
  (13, .iconst 4, 14, 0, 0, 0, 0, 0, 4, 0, []),
  (14, .irem, 15, 0, 0, 0, 0, 0, 0, 0, []),
  (15, .ifCond .eq 6, 18, 21, 0, 0, 0, 0, 0, 0, [])],
 [(18, .bipush 11, 20, 0, 0, 0, 0, 0, 11, 0, []),
  (20, .ireturn, 21, 0, 0, 0, 0, 0, 0, 0, []),
  (21, .aload_n 0, 22, 0, 0, 0, 0, 0, 0, 0, []),
  (22, .iconst 0, 23, 0, 0, 0, 0, 0, 0, 0, []),
  (23, .invokestatic 13, 26, 50, 2, 1, 1, 581, 0, 0, [0, 0]),
  (26, .sipush 200, 29, 0, 0, 0, 0, 0, 200, 0, []),
  (29, .if_icmp .eq 14, 32, 43, 0, 0, 0, 0, 0, 0, [])],
 [(32, .aload_n 0, 33, 0, 0, 0, 0, 0, 0, 0, []),
  (33, .iconst 0, 34, 0, 0, 0, 0, 0, 0, 0, []),
  (34, .invokestatic 13, 37, 50, 2, 1, 1, 581, 0, 0, [0, 0]),
  (37, .sipush 201, 40, 0, 0, 0, 0, 0, 201, 0, []),
  (40, .if_icmp .ne 11, 43, 51, 0, 0, 0, 0, 0, 0, []),
  (43, .aload_n 0, 44, 0, 0, 0, 0, 0, 0, 0, []),
  (44, .iconst 0, 45, 0, 0, 0, 0, 0, 0, 0, []),
  (45, .invokestatic 19, 48, 53, 2, 1, 1, 585, 0, 0, [0, 0])],
 [(48, .ifCond .eq 6, 51, 54, 0, 0, 0, 0, 0, 0, []),
  (51, .bipush 12, 53, 0, 0, 0, 0, 0, 12, 0, []),
  (53, .ireturn, 54, 0, 0, 0, 0, 0, 0, 0, []),
  (54, .iconst 0, 55, 0, 0, 0, 0, 0, 0, 0, []),
  (55, .istore_n 1, 56, 1, 0, 0, 0, 0, 0, 0, []),
  (56, .iconst 0, 57, 0, 0, 0, 0, 0, 0, 0, []),
  (57, .istore_n 2, 58, 2, 0, 0, 0, 0, 0, 0, []),
  (58, .iload_n 2, 59, 2, 0, 0, 0, 0, 0, 0, []),
  (59, .bipush 75, 61, 0, 0, 0, 0, 0, 75, 0, []),
  (61, .if_icmp .ge 35, 64, 96, 0, 0, 0, 0, 0, 0, [])],
 [(64, .iload_n 1, 65, 1, 0, 0, 0, 0, 0, 0, []),
  (65, .aload_n 0, 66, 0, 0, 0, 0, 0, 0, 0, []),
  (66, .getfield 9, 69, 1, 1, 0, 0, 74, 0, 0, []),
  (69, .if_icmp .ge 27, 72, 96, 0, 0, 0, 0, 0, 0, []),
  (72, .aload_n 0, 73, 0, 0, 0, 0, 0, 0, 0, []),
  (73, .iload_n 1, 74, 1, 0, 0, 0, 0, 0, 0, []),
  (74, .invokestatic 23, 77, 48, 2, 1, 1, 588, 0, 0, [0, 0]),
  (77, .istore_n 3, 78, 3, 0, 0, 0, 0, 0, 0, []),
  (78, .iload_n 3, 79, 3, 0, 0, 0, 0, 0, 0, []),
  (79, .ifCond .eq 5, 82, 84, 0, 0, 0, 0, 0, 0, [])],
 [(82, .iload_n 3, 83, 3, 0, 0, 0, 0, 0, 0, []),
  (83, .ireturn, 84, 0, 0, 0, 0, 0, 0, 0, []),
  (84, .aload_n 0, 85, 0, 0, 0, 0, 0, 0, 0, []),
  (85, .iload_n 1, 86, 1, 0, 0, 0, 0, 0, 0, []),
  (86, .invokestatic 26, 89, 52, 2, 1, 1, 591, 0, 0, [0, 0]),
  (89, .istore_n 1, 90, 1, 0, 0, 0, 0, 0, 0, []),
  (90, .iinc 2 1, 93, 2, 0, 0, 0, 0, 1, 0, []),
  (93, .goto (-35), 96, 58, 0, 0, 0, 0, 0, 0, [])],
 [(96, .iconst 0, 97, 0, 0, 0, 0, 0, 0, 0, []),
  (97, .ireturn, 98, 0, 0, 0, 0, 0, 0, 0, [])]]
def cd_X6_partFault : List (List sd_I) := [[(0, .aload_n 0, 1, 0, 0, 0, 0, 0, 0, 0, []),
  (1, .iload_n 1, 2, 1, 0, 0, 0, 0, 0, 0, []),
  (2, .invokevirtual 29, 5, 28, 2, 1, 0, 584, 0, 0, [0, 0]),
  (5, .bipush 6, 7, 0, 0, 0, 0, 0, 6, 0, []),
  (7, .ishr, 8, 0, 0, 0, 0, 0, 0, 0, []),
  (8, .iconst 2, 9, 0, 0, 0, 0, 0, 2, 0, []),
  (9, .if_icmp .eq 6, 12, 15, 0, 0, 0, 0, 0, 0, []),
  (12, .bipush 13, 14, 0, 0, 0, 0, 0, 13, 0, []),
  (14, .ireturn, 15, 0, 0, 0, 0, 0, 0, 0, []),
  (15, .aload_n 0, 16, 0, 0, 0, 0, 0, 0, 0, [])],
 [(16, .iload_n 1, 17, 1, 0, 0, 0, 0, 0, 0, []),
  (17, .invokestatic 26, 20, 52, 2, 1, 1, 591, 0, 0, [0, 0]),
  (20, .aload_n 0, 21, 0, 0, 0, 0, 0, 0, 0, []),
  (21, .getfield 9, 24, 1, 1, 0, 0, 74, 0, 0, []),
  (24, .if_icmp .le 6, 27, 30, 0, 0, 0, 0, 0, 0, []),
  (27, .bipush 14, 29, 0, 0, 0, 0, 0, 14, 0, []),
  (29, .ireturn, 30, 0, 0, 0, 0, 0, 0, 0, []),
  (30, .aload_n 0, 31, 0, 0, 0, 0, 0, 0, 0, []),
  (31, .iload_n 1, 32, 1, 0, 0, 0, 0, 0, 0, [])],
 [(32, .invokestatic 13, 35, 50, 2, 1, 1, 581, 0, 0, [0, 0]),
  (35, .istore_n 2, 36, 2, 0, 0, 0, 0, 0, 0, []),
  (36, .aload_n 0, 37, 0, 0, 0, 0, 0, 0, 0, []),
  (37, .iload_n 1, 38, 1, 0, 0, 0, 0, 0, 0, []),
  (38, .invokestatic 26, 41, 52, 2, 1, 1, 591, 0, 0, [0, 0]),
  (41, .iload_n 1, 42, 1, 0, 0, 0, 0, 0, 0, []),
  (42, .isub, 43, 0, 0, 0, 0, 0, 0, 0, []),
  (43, .iload_n 2, 44, 2, 0, 0, 0, 0, 0, 0, []),
  (44, .aload_n 0, 45, 0, 0, 0, 0, 0, 0, 0, []),
  (45, .iload_n 1, 46, 1, 0, 0, 0, 0, 0, 0, []),
  (46, .invokestatic 33, 49, 51, 2, 1, 1, 595, 0, 0, [0, 0])],
 [(49, .invokestatic 36, 52, 49, 2, 1, 1, 598, 0, 0, [0, 0]),
  (52, .if_icmp .ge 6, 55, 58, 0, 0, 0, 0, 0, 0, []),
  (55, .bipush 15, 57, 0, 0, 0, 0, 0, 15, 0, []),
  (57, .ireturn, 58, 0, 0, 0, 0, 0, 0, 0, []),
  (58, .iload_n 2, 59, 2, 0, 0, 0, 0, 0, 0, []),
  (59, .sipush 200, 62, 0, 0, 0, 0, 0, 200, 0, []),
  (62, .if_icmp .lt 10, 65, 72, 0, 0, 0, 0, 0, 0, [])],
 [(65, .iload_n 2, 66, 2, 0, 0, 0, 0, 0, 0, []),
  (66, .sipush 203, 69, 0, 0, 0, 0, 0, 203, 0, []),
  (69, .if_icmp .le 7, 72, 76, 0, 0, 0, 0, 0, 0, []),
  (72, .iconst 1, 73, 0, 0, 0, 0, 0, 1, 0, []),
  (73, .goto 4, 76, 77, 0, 0, 0, 0, 0, 0, []),
  (76, .iconst 0, 77, 0, 0, 0, 0, 0, 0, 0, []),
  (77, .istore_n 3, 78, 3, 0, 0, 0, 0, 0, 0, []),
  (78, .iload_n 3, 79, 3, 0, 0, 0, 0, 0, 0, []),
  (79, .ifCond .ne 23, 82, 102, 0, 0, 0, 0, 0, 0, [])],
 [(82, .aload_n 0, 83, 0, 0, 0, 0, 0, 0, 0, []),
  (83, .iload_n 1, 84, 1, 0, 0, 0, 0, 0, 0, []),
  (84, .invokestatic 19, 87, 53, 2, 1, 1, 585, 0, 0, [0, 0]),
  (87, .ifCond .eq 20, 90, 107, 0, 0, 0, 0, 0, 0, []),
  (90, .aload_n 0, 91, 0, 0, 0, 0, 0, 0, 0, []),
  (91, .iload_n 1, 92, 1, 0, 0, 0, 0, 0, 0, []),
  (92, .invokestatic 26, 95, 52, 2, 1, 1, 591, 0, 0, [0, 0]),
  (95, .aload_n 0, 96, 0, 0, 0, 0, 0, 0, 0, [])],
 [(96, .getfield 9, 99, 1, 1, 0, 0, 74, 0, 0, []),
  (99, .if_icmp .ge 8, 102, 107, 0, 0, 0, 0, 0, 0, []),
  (102, .bipush 16, 104, 0, 0, 0, 0, 0, 16, 0, []),
  (104, .goto 4, 107, 108, 0, 0, 0, 0, 0, 0, []),
  (107, .iconst 0, 108, 0, 0, 0, 0, 0, 0, 0, []),
  (108, .ireturn, 109, 0, 0, 0, 0, 0, 0, 0, [])]]
def cd_X6_leastLength : List (List sd_I) := [[(0, .iload_n 0, 1, 0, 0, 0, 0, 0, 0, 0, []),
  (1, .tableswitch 53 200 203 #[31, 39, 53, 47], 32, 54, 0, 0, 0, 0, 200, 0, [32, 40, 54, 48])],
 [],
 [(32, .bipush 28, 34, 0, 0, 0, 0, 0, 28, 0, []),
  (34, .bipush 24, 36, 0, 0, 0, 0, 0, 24, 0, []),
  (36, .iload_n 1, 37, 1, 0, 0, 0, 0, 0, 0, []),
  (37, .imul, 38, 0, 0, 0, 0, 0, 0, 0, []),
  (38, .iadd, 39, 0, 0, 0, 0, 0, 0, 0, []),
  (39, .ireturn, 40, 0, 0, 0, 0, 0, 0, 0, []),
  (40, .bipush 8, 42, 0, 0, 0, 0, 0, 8, 0, []),
  (42, .bipush 24, 44, 0, 0, 0, 0, 0, 24, 0, []),
  (44, .iload_n 1, 45, 1, 0, 0, 0, 0, 0, 0, []),
  (45, .imul, 46, 0, 0, 0, 0, 0, 0, 0, []),
  (46, .iadd, 47, 0, 0, 0, 0, 0, 0, 0, []),
  (47, .ireturn, 48, 0, 0, 0, 0, 0, 0, 0, [])],
 [(48, .iconst 4, 49, 0, 0, 0, 0, 0, 4, 0, []),
  (49, .iconst 4, 50, 0, 0, 0, 0, 0, 4, 0, []),
  (50, .iload_n 1, 51, 1, 0, 0, 0, 0, 0, 0, []),
  (51, .imul, 52, 0, 0, 0, 0, 0, 0, 0, []),
  (52, .iadd, 53, 0, 0, 0, 0, 0, 0, 0, []),
  (53, .ireturn, 54, 0, 0, 0, 0, 0, 0, 0, []),
  (54, .iconst 4, 55, 0, 0, 0, 0, 0, 4, 0, []),
  (55, .ireturn, 56, 0, 0, 0, 0, 0, 0, 0, [])]]
def cd_X6_sort : List (List sd_I) := [[(0, .aload_n 0, 1, 0, 0, 0, 0, 0, 0, 0, []),
  (1, .iload_n 1, 2, 1, 0, 0, 0, 0, 0, 0, []),
  (2, .iconst 1, 3, 0, 0, 0, 0, 0, 1, 0, []),
  (3, .iadd, 4, 0, 0, 0, 0, 0, 0, 0, []),
  (4, .invokevirtual 29, 7, 28, 2, 1, 0, 584, 0, 0, [0, 0]),
  (7, .ireturn, 8, 0, 0, 0, 0, 0, 0, 0, [])]]
def cd_X6_counted : List (List sd_I) := [[(0, .aload_n 0, 1, 0, 0, 0, 0, 0, 0, 0, []),
  (1, .iload_n 1, 2, 1, 0, 0, 0, 0, 0, 0, []),
  (2, .invokevirtual 29, 5, 28, 2, 1, 0, 584, 0, 0, [0, 0]),
  (5, .bipush 31, 7, 0, 0, 0, 0, 0, 31, 0, []),
  (7, .iand, 8, 0, 0, 0, 0, 0, 0, 0, []),
  (8, .ireturn, 9, 0, 0, 0, 0, 0, 0, 0, [])]]
def cd_X6_end : List (List sd_I) := [[(0, .iload_n 1, 1, 1, 0, 0, 0, 0, 0, 0, []),
  (1, .iconst 4, 2, 0, 0, 0, 0, 0, 4, 0, []),
  (2, .iadd, 3, 0, 0, 0, 0, 0, 0, 0, []),
  (3, .iconst 4, 4, 0, 0, 0, 0, 0, 4, 0, []),
  (4, .aload_n 0, 5, 0, 0, 0, 0, 0, 0, 0, []),
  (5, .iload_n 1, 6, 1, 0, 0, 0, 0, 0, 0, []),
  (6, .iconst 2, 7, 0, 0, 0, 0, 0, 2, 0, []),
  (7, .iadd, 8, 0, 0, 0, 0, 0, 0, 0, []),
  (8, .invokevirtual 40, 11, 29, 2, 1, 0, 594, 0, 0, [0, 0]),
  (11, .imul, 12, 0, 0, 0, 0, 0, 0, 0, []),
  (12, .iadd, 13, 0, 0, 0, 0, 0, 0, 0, []),
  (13, .ireturn, 14, 0, 0, 0, 0, 0, 0, 0, [])]]
def cd_X6_isFilled : List (List sd_I) := [[(0, .aload_n 0, 1, 0, 0, 0, 0, 0, 0, 0, []),
  (1, .iload_n 1, 2, 1, 0, 0, 0, 0, 0, 0, []),
  (2, .invokevirtual 29, 5, 28, 2, 1, 0, 584, 0, 0, [0, 0]),
  (5, .bipush 32, 7, 0, 0, 0, 0, 0, 32, 0, []),
  (7, .iand, 8, 0, 0, 0, 0, 0, 0, 0, []),
  (8, .ifCond .eq 7, 11, 15, 0, 0, 0, 0, 0, 0, []),
  (11, .iconst 1, 12, 0, 0, 0, 0, 0, 1, 0, []),
  (12, .goto 4, 15, 16, 0, 0, 0, 0, 0, 0, []),
  (15, .iconst 0, 16, 0, 0, 0, 0, 0, 0, 0, [])],
 [(16, .ireturn, 17, 0, 0, 0, 0, 0, 0, 0, [])]]
def cd_X7_init : List (List sd_I) := [[(0, .aload_n 0, 1, 0, 0, 0, 0, 0, 0, 0, []),
  (1, .invokespecial 3, 4, 0, 0, 0, 3, 290, 0, 0, []),
  (4, .aload_n 0, 5, 0, 0, 0, 0, 0, 0, 0, []),
  (5, .new 9, 8, 5, 3, 292, 54, 291, 0, 0, []),
  (8, .dup, 9, 0, 0, 0, 0, 0, 0, 0, []),
  (9, .invokespecial 11, 12, 15, 1, 0, 4, 293, 0, 0, [0, 0]),
  (12, .putfield 12, 15, 3, 2, 8, 1, 356, 0, 0, []),
  (15, .aload_n 0, 16, 0, 0, 0, 0, 0, 0, 0, [])],
 [(16, .iload_n 1, 17, 1, 0, 0, 0, 0, 0, 0, []),
  (17, .putfield 18, 20, 3, 0, 0, 1, 352, 0, 0, []),
  (20, .aload_n 0, 21, 0, 0, 0, 0, 0, 0, 0, []),
  (21, .new 22, 24, 4, 8, 309, 55, 308, 0, 0, []),
  (24, .dup, 25, 0, 0, 0, 0, 0, 0, 0, []),
  (25, .iload_n 2, 26, 2, 0, 0, 0, 0, 0, 0, []),
  (26, .invokespecial 24, 29, 17, 2, 0, 2, 310, 0, 0, [0, 0]),
  (29, .putfield 27, 32, 3, 1, 7, 1, 354, 0, 0, [])],
 [(32, .aload_n 0, 33, 0, 0, 0, 0, 0, 0, 0, []),
  (33, .aload_n 3, 34, 3, 0, 0, 0, 0, 0, 0, []),
  (34, .putfield 31, 37, 3, 3, 9, 1, 357, 0, 0, []),
  (37, .return_, 38, 0, 0, 0, 0, 0, 0, 0, [])]]
def cd_X7_receive : List (List sd_I) := [[(0, .aload_n 0, 1, 0, 0, 0, 0, 0, 0, 0, []),
  (1, .getfield 27, 4, 3, 1, 7, 1, 354, 0, 0, []),
  (4, .iload_n 1, 5, 1, 0, 0, 0, 0, 0, 0, []),
  (5, .invokevirtual 35, 8, 19, 2, 1, 0, 388, 0, 0, [0, 0]),
  (8, .istore 6, 10, 6, 0, 0, 0, 0, 0, 0, []),
  (10, .iload 6, 12, 6, 0, 0, 0, 0, 0, 0, []),
  (12, .ifCond .ne 5, 15, 17, 0, 0, 0, 0, 0, 0, []),
  (15, .iconst 0, 16, 0, 0, 0, 0, 0, 0, 0, [])],
 [(16, .ireturn, 17, 0, 0, 0, 0, 0, 0, 0, []),
  (17, .aload_n 0, 18, 0, 0, 0, 0, 0, 0, 0, []),
  (18, .getfield 12, 21, 3, 2, 8, 1, 356, 0, 0, []),
  (21, .iload 4, 23, 4, 0, 0, 0, 0, 0, 0, []),
  (23, .i2l, 24, 0, 0, 0, 0, 0, 0, 0, []),
  (24, .iload_n 3, 25, 3, 0, 0, 0, 0, 0, 0, []),
  (25, .i2l, 26, 0, 0, 0, 0, 0, 0, 0, []),
  (26, .lmul, 27, 0, 0, 0, 0, 0, 0, 0, []),
  (27, .ldc2_w 39, 30, 0, 0, 0, 0, 402, 0, 1000, []),
  (30, .ldiv, 31, 0, 0, 0, 0, 0, 0, 0, []),
  (31, .l2i, 32, 0, 0, 0, 0, 0, 0, 0, [])],
 [(32, .iload_n 2, 33, 2, 0, 0, 0, 0, 0, 0, []),
  (33, .isub, 34, 0, 0, 0, 0, 0, 0, 0, []),
  (34, .invokevirtual 41, 37, 16, 2, 0, 0, 403, 0, 0, [0, 0]),
  (37, .aload_n 0, 38, 0, 0, 0, 0, 0, 0, 0, []),
  (38, .getfield 27, 41, 3, 1, 7, 1, 354, 0, 0, []),
  (41, .iload_n 1, 42, 1, 0, 0, 0, 0, 0, 0, []),
  (42, .invokevirtual 44, 45, 22, 2, 2, 0, 410, 0, 0, [0, 0]),
  (45, .lstore 7, 47, 7, 0, 0, 0, 0, 0, 0, []),
  (47, .iload 6, 49, 6, 0, 0, 0, 0, 0, 0, [])],
 [(49, .iconst 2, 50, 0, 0, 0, 0, 0, 2, 0, []),
  (50, .if_icmp .ne 20, 53, 70, 0, 0, 0, 0, 0, 0, []),
  (53, .aload_n 0, 54, 0, 0, 0, 0, 0, 0, 0, []),
  (54, .getfield 31, 57, 3, 3, 9, 1, 357, 0, 0, []),
  (57, .lload 7, 59, 7, 0, 0, 0, 0, 0, 0, []),
  (59, .iload_n 2, 60, 2, 0, 0, 0, 0, 0, 0, []),
  (60, .iload 4, 62, 4, 0, 0, 0, 0, 0, 0, []),
  (62, .iload 5, 64, 5, 0, 0, 0, 0, 0, 0, [])],
 [(64, .invokevirtual 48, 67, 34, 5, 0, 0, 415, 0, 0, [0, 0]),
  (67, .goto 18, 70, 85, 0, 0, 0, 0, 0, 0, []),
  (70, .aload_n 0, 71, 0, 0, 0, 0, 0, 0, 0, []),
  (71, .getfield 31, 74, 3, 3, 9, 1, 357, 0, 0, []),
  (74, .lload 7, 76, 7, 0, 0, 0, 0, 0, 0, []),
  (76, .iload_n 2, 77, 2, 0, 0, 0, 0, 0, 0, []),
  (77, .iload_n 3, 78, 3, 0, 0, 0, 0, 0, 0, []),
  (78, .iload 4, 80, 4, 0, 0, 0, 0, 0, 0, [])],
 [(80, .iload 5, 82, 5, 0, 0, 0, 0, 0, 0, []),
  (82, .invokevirtual 54, 85, 35, 6, 0, 0, 445, 0, 0, [0, 0]),
  (85, .aload_n 0, 86, 0, 0, 0, 0, 0, 0, 0, []),
  (86, .getfield 31, 89, 3, 3, 9, 1, 357, 0, 0, []),
  (89, .iload 4, 91, 4, 0, 0, 0, 0, 0, 0, []),
  (91, .invokevirtual 58, 94, 42, 2, 1, 0, 462, 0, 0, [0, 0]),
  (94, .pop, 95, 0, 0, 0, 0, 0, 0, 0, []),
  (95, .iconst 1, 96, 0, 0, 0, 0, 0, 1, 0, [])],
 [(96, .ireturn, 97, 0, 0, 0, 0, 0, 0, 0, [])]]
def cd_X7_keepClock : List (List sd_I) := [[(0, .aload_n 0, 1, 0, 0, 0, 0, 0, 0, 0, []),
  (1, .iconst 1, 2, 0, 0, 0, 0, 0, 1, 0, []),
  (2, .putfield 61, 5, 3, 5, 2, 0, 361, 0, 0, []),
  (5, .aload_n 0, 6, 0, 0, 0, 0, 0, 0, 0, []),
  (6, .iload_n 1, 7, 1, 0, 0, 0, 0, 0, 0, []),
  (7, .putfield 65, 10, 3, 6, 0, 0, 362, 0, 0, []),
  (10, .aload_n 0, 11, 0, 0, 0, 0, 0, 0, 0, []),
  (11, .iload_n 2, 12, 2, 0, 0, 0, 0, 0, 0, []),
  (12, .putfield 68, 15, 3, 7, 0, 0, 363, 0, 0, []),
  (15, .return_, 16, 0, 0, 0, 0, 0, 0, 0, [])]]
def cd_X7_leave : List (List sd_I) := [[(0, .aload_n 0, 1, 0, 0, 0, 0, 0, 0, 0, []),
  (1, .getfield 71, 4, 3, 4, 2, 0, 359, 0, 0, []),
  (4, .ifCond .ne 26, 7, 30, 0, 0, 0, 0, 0, 0, []),
  (7, .aload_n 0, 8, 0, 0, 0, 0, 0, 0, 0, []),
  (8, .iconst 1, 9, 0, 0, 0, 0, 0, 1, 0, []),
  (9, .putfield 71, 12, 3, 4, 2, 0, 359, 0, 0, []),
  (12, .aload_n 0, 13, 0, 0, 0, 0, 0, 0, 0, []),
  (13, .getfield 31, 16, 3, 3, 9, 1, 357, 0, 0, [])],
 [(16, .invokevirtual 74, 19, 41, 1, 0, 0, 616, 0, 0, [0, 0]),
  (19, .aload_n 0, 20, 0, 0, 0, 0, 0, 0, 0, []),
  (20, .getfield 31, 23, 3, 3, 9, 1, 357, 0, 0, []),
  (23, .bipush 7, 25, 0, 0, 0, 0, 0, 7, 0, []),
  (25, .lconst 0, 26, 0, 0, 0, 0, 0, 0, 0, []),
  (26, .iload_n 1, 27, 1, 0, 0, 0, 0, 0, 0, []),
  (27, .invokevirtual 79, 30, 45, 4, 0, 0, 617, 0, 0, [0, 0]),
  (30, .return_, 31, 0, 0, 0, 0, 0, 0, 0, [])]]
def cd_X7_field : List (List sd_I) := [[(0, .iload_n 1, 1, 1, 0, 0, 0, 0, 0, 0, []),
  (1, .bipush 10, 3, 0, 0, 0, 0, 0, 10, 0, []),
  (3, .if_icmp .lt 23, 6, 26, 0, 0, 0, 0, 0, 0, []),
  (6, .iload_n 1, 7, 1, 0, 0, 0, 0, 0, 0, []),
  (7, .bipush 14, 9, 0, 0, 0, 0, 0, 14, 0, []),
  (9, .if_icmp .gt 17, 12, 26, 0, 0, 0, 0, 0, 0, []),
  (12, .aload_n 0, 13, 0, 0, 0, 0, 0, 0, 0, []),
  (13, .getfield 31, 16, 3, 3, 9, 1, 357, 0, 0, [])],
 [(16, .iconst 1, 17, 0, 0, 0, 0, 0, 1, 0, []),
  (17, .iload_n 1, 18, 1, 0, 0, 0, 0, 0, 0, []),
  (18, .iadd, 19, 0, 0, 0, 0, 0, 0, 0, []),
  (19, .bipush 10, 21, 0, 0, 0, 0, 0, 10, 0, []),
  (21, .isub, 22, 0, 0, 0, 0, 0, 0, 0, []),
  (22, .invokevirtual 83, 25, 46, 2, 1, 0, 504, 0, 0, [0, 0]),
  (25, .ireturn, 26, 0, 0, 0, 0, 0, 0, 0, []),
  (26, .aload_n 0, 27, 0, 0, 0, 0, 0, 0, 0, []),
  (27, .getfield 27, 30, 3, 1, 7, 1, 354, 0, 0, []),
  (30, .getfield 86, 33, 4, 4, 0, 0, 329, 0, 0, [])],
 [(33, .ifCond .ne 7, 36, 40, 0, 0, 0, 0, 0, 0, []),
  (36, .iconst 1, 37, 0, 0, 0, 0, 0, 1, 0, []),
  (37, .goto 4, 40, 41, 0, 0, 0, 0, 0, 0, []),
  (40, .iconst 0, 41, 0, 0, 0, 0, 0, 0, 0, []),
  (41, .istore_n 2, 42, 2, 0, 0, 0, 0, 0, 0, []),
  (42, .iload_n 1, 43, 1, 0, 0, 0, 0, 0, 0, []),
  (43, .tableswitch 195 0 16 #[81, 86, 94, 102, 110, 118, 126, 134, 142, 158, 195, 195, 195, 195, 195, 174, 182], 124, 238, 0, 0, 0, 0, 0, 0, [124, 129, 137, 145, 153, 161, 169, 177, 185, 201, 238, 238, 238, 238, 238, 217, 225])],
 [],
 [],
 [],
 [],
 [(124, .aload_n 0, 125, 0, 0, 0, 0, 0, 0, 0, []),
  (125, .getfield 18, 128, 3, 0, 0, 0, 352, 0, 0, [])],
 [(128, .ireturn, 129, 0, 0, 0, 0, 0, 0, 0, []),
  (129, .aload_n 0, 130, 0, 0, 0, 0, 0, 0, 0, []),
  (130, .getfield 27, 133, 3, 1, 7, 1, 354, 0, 0, []),
  (133, .getfield 89, 136, 4, 0, 0, 0, 321, 0, 0, []),
  (136, .ireturn, 137, 0, 0, 0, 0, 0, 0, 0, []),
  (137, .aload_n 0, 138, 0, 0, 0, 0, 0, 0, 0, []),
  (138, .getfield 27, 141, 3, 1, 7, 1, 354, 0, 0, []),
  (141, .getfield 92, 144, 4, 1, 0, 0, 323, 0, 0, [])],
 [(144, .ireturn, 145, 0, 0, 0, 0, 0, 0, 0, []),
  (145, .aload_n 0, 146, 0, 0, 0, 0, 0, 0, 0, []),
  (146, .getfield 27, 149, 3, 1, 7, 1, 354, 0, 0, []),
  (149, .getfield 95, 152, 4, 2, 0, 0, 325, 0, 0, []),
  (152, .ireturn, 153, 0, 0, 0, 0, 0, 0, 0, []),
  (153, .aload_n 0, 154, 0, 0, 0, 0, 0, 0, 0, []),
  (154, .getfield 27, 157, 3, 1, 7, 1, 354, 0, 0, []),
  (157, .getfield 98, 160, 4, 3, 0, 0, 327, 0, 0, [])],
 [(160, .ireturn, 161, 0, 0, 0, 0, 0, 0, 0, []),
  (161, .aload_n 0, 162, 0, 0, 0, 0, 0, 0, 0, []),
  (162, .getfield 27, 165, 3, 1, 7, 1, 354, 0, 0, []),
  (165, .getfield 86, 168, 4, 4, 0, 0, 329, 0, 0, []),
  (168, .ireturn, 169, 0, 0, 0, 0, 0, 0, 0, []),
  (169, .aload_n 0, 170, 0, 0, 0, 0, 0, 0, 0, []),
  (170, .getfield 27, 173, 3, 1, 7, 1, 354, 0, 0, []),
  (173, .getfield 101, 176, 4, 5, 0, 0, 332, 0, 0, [])],
 [(176, .ireturn, 177, 0, 0, 0, 0, 0, 0, 0, []),
  (177, .aload_n 0, 178, 0, 0, 0, 0, 0, 0, 0, []),
  (178, .getfield 12, 181, 3, 2, 8, 1, 356, 0, 0, []),
  (181, .getfield 104, 184, 5, 0, 0, 0, 298, 0, 0, []),
  (184, .ireturn, 185, 0, 0, 0, 0, 0, 0, 0, []),
  (185, .iload_n 2, 186, 2, 0, 0, 0, 0, 0, 0, []),
  (186, .ifCond .eq 13, 189, 199, 0, 0, 0, 0, 0, 0, []),
  (189, .aload_n 0, 190, 0, 0, 0, 0, 0, 0, 0, []),
  (190, .getfield 27, 193, 3, 1, 7, 1, 354, 0, 0, [])],
 [(193, .invokevirtual 107, 196, 23, 1, 1, 0, 508, 0, 0, [0, 0]),
  (196, .goto 4, 199, 200, 0, 0, 0, 0, 0, 0, []),
  (199, .iconst 0, 200, 0, 0, 0, 0, 0, 0, 0, []),
  (200, .ireturn, 201, 0, 0, 0, 0, 0, 0, 0, []),
  (201, .iload_n 2, 202, 2, 0, 0, 0, 0, 0, 0, []),
  (202, .ifCond .eq 13, 205, 215, 0, 0, 0, 0, 0, 0, []),
  (205, .aload_n 0, 206, 0, 0, 0, 0, 0, 0, 0, []),
  (206, .getfield 27, 209, 3, 1, 7, 1, 354, 0, 0, [])],
 [(209, .invokevirtual 111, 212, 24, 1, 1, 0, 512, 0, 0, [0, 0]),
  (212, .goto 4, 215, 216, 0, 0, 0, 0, 0, 0, []),
  (215, .iconst 0, 216, 0, 0, 0, 0, 0, 0, 0, []),
  (216, .ireturn, 217, 0, 0, 0, 0, 0, 0, 0, []),
  (217, .aload_n 0, 218, 0, 0, 0, 0, 0, 0, 0, []),
  (218, .getfield 31, 221, 3, 3, 9, 1, 357, 0, 0, []),
  (221, .getfield 114, 224, 6, 5, 0, 0, 258, 0, 0, [])],
 [(224, .ireturn, 225, 0, 0, 0, 0, 0, 0, 0, []),
  (225, .aload_n 0, 226, 0, 0, 0, 0, 0, 0, 0, []),
  (226, .getfield 71, 229, 3, 4, 2, 0, 359, 0, 0, []),
  (229, .ifCond .eq 7, 232, 236, 0, 0, 0, 0, 0, 0, []),
  (232, .iconst 1, 233, 0, 0, 0, 0, 0, 1, 0, []),
  (233, .goto 4, 236, 237, 0, 0, 0, 0, 0, 0, []),
  (236, .iconst 0, 237, 0, 0, 0, 0, 0, 0, 0, []),
  (237, .ireturn, 238, 0, 0, 0, 0, 0, 0, 0, []),
  (238, .ldc 117, 240, 0, 0, 0, 0, 525, (-2147483648), 0, [])],
 [(240, .ireturn, 241, 0, 0, 0, 0, 0, 0, 0, [])]]
def cd_X7_writeBlock : List (List sd_I) := [[(0, .aload_n 1, 1, 1, 0, 0, 0, 0, 0, 0, []),
  (1, .aload_n 0, 2, 0, 0, 0, 0, 0, 0, 0, []),
  (2, .getfield 18, 5, 3, 0, 0, 0, 352, 0, 0, []),
  (5, .i2l, 6, 0, 0, 0, 0, 0, 0, 0, []),
  (6, .iconst 4, 7, 0, 0, 0, 0, 0, 4, 0, []),
  (7, .invokevirtual 118, 10, 32, 3, 0, 0, 567, 0, 0, [0, 0]),
  (10, .aload_n 1, 11, 1, 0, 0, 0, 0, 0, 0, []),
  (11, .aload_n 0, 12, 0, 0, 0, 0, 0, 0, 0, []),
  (12, .getfield 27, 15, 3, 1, 7, 1, 354, 0, 0, []),
  (15, .invokevirtual 124, 18, 25, 1, 1, 0, 568, 0, 0, [0, 0])],
 [(18, .i2l, 19, 0, 0, 0, 0, 0, 0, 0, []),
  (19, .iconst 1, 20, 0, 0, 0, 0, 0, 1, 0, []),
  (20, .invokevirtual 118, 23, 32, 3, 0, 0, 567, 0, 0, [0, 0]),
  (23, .aload_n 1, 24, 1, 0, 0, 0, 0, 0, 0, []),
  (24, .aload_n 0, 25, 0, 0, 0, 0, 0, 0, 0, []),
  (25, .getfield 27, 28, 3, 1, 7, 1, 354, 0, 0, []),
  (28, .invokevirtual 111, 31, 24, 1, 1, 0, 512, 0, 0, [0, 0]),
  (31, .i2l, 32, 0, 0, 0, 0, 0, 0, 0, [])],
 [(32, .iconst 3, 33, 0, 0, 0, 0, 0, 3, 0, []),
  (33, .invokevirtual 118, 36, 32, 3, 0, 0, 567, 0, 0, [0, 0]),
  (36, .aload_n 1, 37, 1, 0, 0, 0, 0, 0, 0, []),
  (37, .aload_n 0, 38, 0, 0, 0, 0, 0, 0, 0, []),
  (38, .getfield 27, 41, 3, 1, 7, 1, 354, 0, 0, []),
  (41, .getfield 92, 44, 4, 1, 0, 0, 323, 0, 0, []),
  (44, .aload_n 0, 45, 0, 0, 0, 0, 0, 0, 0, []),
  (45, .getfield 27, 48, 3, 1, 7, 1, 354, 0, 0, [])],
 [(48, .getfield 89, 51, 4, 0, 0, 0, 321, 0, 0, []),
  (51, .iadd, 52, 0, 0, 0, 0, 0, 0, 0, []),
  (52, .i2l, 53, 0, 0, 0, 0, 0, 0, 0, []),
  (53, .iconst 4, 54, 0, 0, 0, 0, 0, 4, 0, []),
  (54, .invokevirtual 118, 57, 32, 3, 0, 0, 567, 0, 0, [0, 0]),
  (57, .aload_n 1, 58, 1, 0, 0, 0, 0, 0, 0, []),
  (58, .aload_n 0, 59, 0, 0, 0, 0, 0, 0, 0, []),
  (59, .getfield 12, 62, 3, 2, 8, 1, 356, 0, 0, []),
  (62, .getfield 104, 65, 5, 0, 0, 0, 298, 0, 0, [])],
 [(65, .iconst 4, 66, 0, 0, 0, 0, 0, 4, 0, []),
  (66, .ishr, 67, 0, 0, 0, 0, 0, 0, 0, []),
  (67, .i2l, 68, 0, 0, 0, 0, 0, 0, 0, []),
  (68, .iconst 4, 69, 0, 0, 0, 0, 0, 4, 0, []),
  (69, .invokevirtual 118, 72, 32, 3, 0, 0, 567, 0, 0, [0, 0]),
  (72, .aload_n 1, 73, 1, 0, 0, 0, 0, 0, 0, []),
  (73, .aload_n 0, 74, 0, 0, 0, 0, 0, 0, 0, []),
  (74, .getfield 61, 77, 3, 5, 2, 0, 361, 0, 0, []),
  (77, .ifCond .eq 11, 80, 88, 0, 0, 0, 0, 0, 0, [])],
 [(80, .aload_n 0, 81, 0, 0, 0, 0, 0, 0, 0, []),
  (81, .getfield 65, 84, 3, 6, 0, 0, 362, 0, 0, []),
  (84, .i2l, 85, 0, 0, 0, 0, 0, 0, 0, []),
  (85, .goto 4, 88, 89, 0, 0, 0, 0, 0, 0, []),
  (88, .lconst 0, 89, 0, 0, 0, 0, 0, 0, 0, []),
  (89, .iconst 4, 90, 0, 0, 0, 0, 0, 4, 0, []),
  (90, .invokevirtual 118, 93, 32, 3, 0, 0, 567, 0, 0, [0, 0]),
  (93, .aload_n 1, 94, 1, 0, 0, 0, 0, 0, 0, []),
  (94, .aload_n 0, 95, 0, 0, 0, 0, 0, 0, 0, []),
  (95, .getfield 61, 98, 3, 5, 2, 0, 361, 0, 0, [])],
 [(98, .ifCond .eq 21, 101, 119, 0, 0, 0, 0, 0, 0, []),
  (101, .iload_n 2, 102, 2, 0, 0, 0, 0, 0, 0, []),
  (102, .aload_n 0, 103, 0, 0, 0, 0, 0, 0, 0, []),
  (103, .getfield 68, 106, 3, 7, 0, 0, 363, 0, 0, []),
  (106, .isub, 107, 0, 0, 0, 0, 0, 0, 0, []),
  (107, .i2l, 108, 0, 0, 0, 0, 0, 0, 0, []),
  (108, .ldc2_w 127, 111, 0, 0, 0, 0, 573, 0, 65536, []),
  (111, .lmul, 112, 0, 0, 0, 0, 0, 0, 0, [])],
 [(112, .ldc2_w 39, 115, 0, 0, 0, 0, 402, 0, 1000, []),
  (115, .ldiv, 116, 0, 0, 0, 0, 0, 0, 0, []),
  (116, .goto 4, 119, 120, 0, 0, 0, 0, 0, 0, []),
  (119, .lconst 0, 120, 0, 0, 0, 0, 0, 0, 0, []),
  (120, .iconst 4, 121, 0, 0, 0, 0, 0, 4, 0, []),
  (121, .invokevirtual 118, 124, 32, 3, 0, 0, 567, 0, 0, [0, 0]),
  (124, .return_, 125, 0, 0, 0, 0, 0, 0, 0, [])]]
def cd_X8_init : List (List sd_I) := [[(0, .aload_n 0, 1, 0, 0, 0, 0, 0, 0, 0, []),
  (1, .invokespecial 1, 4, 0, 0, 0, 3, 63, 0, 0, []),
  (4, .aload_n 0, 5, 0, 0, 0, 0, 0, 0, 0, []),
  (5, .new 7, 8, 1, 2, 67, 48, 66, 0, 0, []),
  (8, .dup, 9, 0, 0, 0, 0, 0, 0, 0, []),
  (9, .invokespecial 9, 12, 26, 1, 0, 4, 68, 0, 0, [1, 300]),
  (12, .putfield 10, 15, 0, 0, 4, 1, 109, 0, 0, []),
  (15, .aload_n 0, 16, 0, 0, 0, 0, 0, 0, 0, [])],
 [(16, .new 16, 19, 2, 5, 84, 49, 83, 0, 0, []),
  (19, .dup, 20, 0, 0, 0, 0, 0, 0, 0, []),
  (20, .invokespecial 18, 23, 11, 1, 0, 4, 85, 0, 0, [4, 256]),
  (23, .putfield 19, 26, 0, 1, 5, 1, 110, 0, 0, []),
  (26, .aload_n 0, 27, 0, 0, 0, 0, 0, 0, 0, []),
  (27, .sipush 128, 30, 0, 0, 0, 0, 0, 128, 0, []),
  (30, .newarray .int, 32, 8, 128, 0, 0, 82, 0, 0, [])],
 [(32, .putfield 23, 35, 0, 2, 11, 1, 111, 0, 0, []),
  (35, .aload_n 0, 36, 0, 0, 0, 0, 0, 0, 0, []),
  (36, .bipush 6, 38, 0, 0, 0, 0, 0, 6, 0, []),
  (38, .anewarray 27, 41, 9, 6, 108, 0, 107, 0, 0, []),
  (41, .putfield 29, 44, 0, 3, 12, 1, 112, 0, 0, []),
  (44, .aload_n 0, 45, 0, 0, 0, 0, 0, 0, 0, []),
  (45, .bipush 7, 47, 0, 0, 0, 0, 0, 7, 0, []),
  (47, .newarray .int, 49, 10, 7, 0, 0, 82, 0, 0, [])],
 [(49, .putfield 33, 52, 0, 4, 13, 1, 113, 0, 0, []),
  (52, .aload_n 0, 53, 0, 0, 0, 0, 0, 0, 0, []),
  (53, .bipush 100, 55, 0, 0, 0, 0, 0, 100, 0, []),
  (55, .putfield 36, 58, 0, 7, 0, 0, 116, 0, 0, []),
  (58, .return_, 59, 0, 0, 0, 0, 0, 0, 0, [])]]
def cd_X8_type : List (List sd_I) := [[(0, .iload_n 3, 1, 3, 0, 0, 0, 0, 0, 0, []),
  (1, .ifCond .lt 9, 4, 10, 0, 0, 0, 0, 0, 0, []),
  (4, .iload_n 3, 5, 3, 0, 0, 0, 0, 0, 0, []),
  (5, .bipush 8, 7, 0, 0, 0, 0, 0, 8, 0, []),
  (7, .if_icmp .le 6, 10, 13, 0, 0, 0, 0, 0, 0, []),
  (10, .bipush (-2), 12, 0, 0, 0, 0, 0, (-2), 0, []),
  (12, .ireturn, 13, 0, 0, 0, 0, 0, 0, 0, []),
  (13, .aload_n 0, 14, 0, 0, 0, 0, 0, 0, 0, []),
  (14, .getfield 10, 17, 0, 0, 4, 1, 109, 0, 0, [])],
 [(17, .getfield 40, 20, 1, 1, 0, 0, 76, 0, 0, []),
  (20, .iload_n 3, 21, 3, 0, 0, 0, 0, 0, 0, []),
  (21, .iadd, 22, 0, 0, 0, 0, 0, 0, 0, []),
  (22, .sipush 300, 25, 0, 0, 0, 0, 0, 300, 0, []),
  (25, .if_icmp .le 6, 28, 31, 0, 0, 0, 0, 0, 0, []),
  (28, .bipush (-3), 30, 0, 0, 0, 0, 0, (-3), 0, []),
  (30, .ireturn, 31, 0, 0, 0, 0, 0, 0, 0, []),
  (31, .aload_n 0, 32, 0, 0, 0, 0, 0, 0, 0, [])],
 [(32, .getfield 10, 35, 0, 0, 4, 1, 109, 0, 0, []),
  (35, .lload_n 1, 36, 1, 0, 0, 0, 0, 0, 0, []),
  (36, .iload_n 3, 37, 3, 0, 0, 0, 0, 0, 0, []),
  (37, .invokevirtual 43, 40, 32, 3, 0, 0, 153, 0, 0, [0, 0]),
  (40, .aload_n 0, 41, 0, 0, 0, 0, 0, 0, 0, []),
  (41, .getfield 10, 44, 0, 0, 4, 1, 109, 0, 0, []),
  (44, .getfield 40, 47, 1, 1, 0, 0, 76, 0, 0, []),
  (47, .ireturn, 48, 0, 0, 0, 0, 0, 0, 0, [])]]
def cd_X8_clear : List (List sd_I) := [[(0, .aload_n 0, 1, 0, 0, 0, 0, 0, 0, 0, []),
  (1, .getfield 10, 4, 0, 0, 4, 1, 109, 0, 0, []),
  (4, .getfield 40, 7, 1, 1, 0, 0, 76, 0, 0, []),
  (7, .istore_n 1, 8, 1, 0, 0, 0, 0, 0, 0, []),
  (8, .aload_n 0, 9, 0, 0, 0, 0, 0, 0, 0, []),
  (9, .getfield 10, 12, 0, 0, 4, 1, 109, 0, 0, []),
  (12, .iconst 0, 13, 0, 0, 0, 0, 0, 0, 0, []),
  (13, .putfield 40, 16, 1, 1, 0, 0, 76, 0, 0, [])],
 [(16, .iload_n 1, 17, 1, 0, 0, 0, 0, 0, 0, []),
  (17, .ireturn, 18, 0, 0, 0, 0, 0, 0, 0, [])]]
def cd_X8_alter : List (List sd_I) := [[(0, .aload_n 0, 1, 0, 0, 0, 0, 0, 0, 0, []),
  (1, .getfield 10, 4, 0, 0, 4, 1, 109, 0, 0, []),
  (4, .iload_n 1, 5, 1, 0, 0, 0, 0, 0, 0, []),
  (5, .invokevirtual 47, 8, 27, 2, 1, 0, 165, 0, 0, [0, 0]),
  (8, .ifCond .eq 14, 11, 22, 0, 0, 0, 0, 0, 0, []),
  (11, .iload_n 2, 12, 2, 0, 0, 0, 0, 0, 0, []),
  (12, .ifCond .lt 10, 15, 22, 0, 0, 0, 0, 0, 0, []),
  (15, .iload_n 2, 16, 2, 0, 0, 0, 0, 0, 0, [])],
 [(16, .sipush 255, 19, 0, 0, 0, 0, 0, 255, 0, []),
  (19, .if_icmp .le 6, 22, 25, 0, 0, 0, 0, 0, 0, []),
  (22, .bipush (-2), 24, 0, 0, 0, 0, 0, (-2), 0, []),
  (24, .ireturn, 25, 0, 0, 0, 0, 0, 0, 0, []),
  (25, .aload_n 0, 26, 0, 0, 0, 0, 0, 0, 0, []),
  (26, .getfield 10, 29, 0, 0, 4, 1, 109, 0, 0, []),
  (29, .iload_n 1, 30, 1, 0, 0, 0, 0, 0, 0, []),
  (30, .invokevirtual 51, 33, 28, 2, 1, 0, 169, 0, 0, [0, 0])],
 [(33, .istore_n 3, 34, 3, 0, 0, 0, 0, 0, 0, []),
  (34, .aload_n 0, 35, 0, 0, 0, 0, 0, 0, 0, []),
  (35, .getfield 10, 38, 0, 0, 4, 1, 109, 0, 0, []),
  (38, .iload_n 1, 39, 1, 0, 0, 0, 0, 0, 0, []),
  (39, .iload_n 2, 40, 2, 0, 0, 0, 0, 0, 0, []),
  (40, .invokevirtual 55, 43, 31, 3, 0, 0, 173, 0, 0, [0, 0]),
  (43, .iload_n 3, 44, 3, 0, 0, 0, 0, 0, 0, []),
  (44, .ireturn, 45, 0, 0, 0, 0, 0, 0, 0, [])]]
def cd_X8_at : List (List sd_I) := [[(0, .aload_n 0, 1, 0, 0, 0, 0, 0, 0, 0, []),
  (1, .getfield 10, 4, 0, 0, 4, 1, 109, 0, 0, []),
  (4, .iload_n 1, 5, 1, 0, 0, 0, 0, 0, 0, []),
  (5, .invokevirtual 47, 8, 27, 2, 1, 0, 165, 0, 0, [0, 0]),
  (8, .ifCond .eq 14, 11, 22, 0, 0, 0, 0, 0, 0, []),
  (11, .aload_n 0, 12, 0, 0, 0, 0, 0, 0, 0, []),
  (12, .getfield 10, 15, 0, 0, 4, 1, 109, 0, 0, []),
  (15, .iload_n 1, 16, 1, 0, 0, 0, 0, 0, 0, [])],
 [(16, .invokevirtual 51, 19, 28, 2, 1, 0, 169, 0, 0, [0, 0]),
  (19, .goto 5, 22, 24, 0, 0, 0, 0, 0, 0, []),
  (22, .bipush (-2), 24, 0, 0, 0, 0, 0, (-2), 0, []),
  (24, .ireturn, 25, 0, 0, 0, 0, 0, 0, 0, [])]]
def cd_X8_rate : List (List sd_I) := [[(0, .iload_n 1, 1, 1, 0, 0, 0, 0, 0, 0, []),
  (1, .ifCond .lt 20, 4, 21, 0, 0, 0, 0, 0, 0, []),
  (4, .iload_n 1, 5, 1, 0, 0, 0, 0, 0, 0, []),
  (5, .sipush 128, 8, 0, 0, 0, 0, 0, 128, 0, []),
  (8, .if_icmp .ge 13, 11, 21, 0, 0, 0, 0, 0, 0, []),
  (11, .iload_n 2, 12, 2, 0, 0, 0, 0, 0, 0, []),
  (12, .ifCond .lt 9, 15, 21, 0, 0, 0, 0, 0, 0, []),
  (15, .iload_n 2, 16, 2, 0, 0, 0, 0, 0, 0, [])],
 [(16, .ldc 59, 18, 0, 0, 0, 0, 186, 200000, 0, []),
  (18, .if_icmp .le 6, 21, 24, 0, 0, 0, 0, 0, 0, []),
  (21, .bipush (-2), 23, 0, 0, 0, 0, 0, (-2), 0, []),
  (23, .ireturn, 24, 0, 0, 0, 0, 0, 0, 0, []),
  (24, .aload_n 0, 25, 0, 0, 0, 0, 0, 0, 0, []),
  (25, .getfield 23, 28, 0, 2, 11, 1, 111, 0, 0, []),
  (28, .iload_n 1, 29, 1, 0, 0, 0, 0, 0, 0, []),
  (29, .iaload, 30, 0, 0, 0, 0, 0, 0, 0, []),
  (30, .istore_n 3, 31, 3, 0, 0, 0, 0, 0, 0, []),
  (31, .aload_n 0, 32, 0, 0, 0, 0, 0, 0, 0, [])],
 [(32, .getfield 23, 35, 0, 2, 11, 1, 111, 0, 0, []),
  (35, .iload_n 1, 36, 1, 0, 0, 0, 0, 0, 0, []),
  (36, .iload_n 2, 37, 2, 0, 0, 0, 0, 0, 0, []),
  (37, .iastore, 38, 0, 0, 0, 0, 0, 0, 0, []),
  (38, .iload_n 3, 39, 3, 0, 0, 0, 0, 0, 0, []),
  (39, .ireturn, 40, 0, 0, 0, 0, 0, 0, 0, [])]]
def cd_X8_take : List (List sd_I) := [[(0, .aload_n 0, 1, 0, 0, 0, 0, 0, 0, 0, []),
  (1, .invokevirtual 60, 4, 68, 1, 1, 0, 191, 0, 0, [0, 0]),
  (4, .istore_n 1, 5, 1, 0, 0, 0, 0, 0, 0, []),
  (5, .iload_n 1, 6, 1, 0, 0, 0, 0, 0, 0, []),
  (6, .ifCond .ne 10, 9, 16, 0, 0, 0, 0, 0, 0, []),
  (9, .aload_n 0, 10, 0, 0, 0, 0, 0, 0, 0, []),
  (10, .invokevirtual 64, 13, 70, 1, 3, 0, 242, 0, 0, [7, 100]),
  (13, .goto 4, 16, 17, 0, 0, 0, 0, 0, 0, [])],
 [(16, .aconst_null, 17, 0, 0, 0, 0, 0, 0, 0, []),
  (17, .astore_n 2, 18, 2, 0, 0, 0, 0, 0, 0, []),
  (18, .aload_n 2, 19, 2, 0, 0, 0, 0, 0, 0, []),
  (19, .ifnonnull 18, 22, 37, 0, 0, 0, 0, 0, 0, []),
  (22, .aload_n 0, 23, 0, 0, 0, 0, 0, 0, 0, []),
  (23, .dup, 24, 0, 0, 0, 0, 0, 0, 0, []),
  (24, .getfield 68, 27, 0, 10, 0, 0, 119, 0, 0, []),
  (27, .iconst 1, 28, 0, 0, 0, 0, 0, 1, 0, []),
  (28, .iadd, 29, 0, 0, 0, 0, 0, 0, 0, []),
  (29, .putfield 68, 32, 0, 10, 0, 0, 119, 0, 0, [])],
 [(32, .bipush (-10), 34, 0, 0, 0, 0, 0, (-10), 0, []),
  (34, .iload_n 1, 35, 1, 0, 0, 0, 0, 0, 0, []),
  (35, .isub, 36, 0, 0, 0, 0, 0, 0, 0, []),
  (36, .ireturn, 37, 0, 0, 0, 0, 0, 0, 0, []),
  (37, .aload_n 0, 38, 0, 0, 0, 0, 0, 0, 0, []),
  (38, .aload_n 0, 39, 0, 0, 0, 0, 0, 0, 0, []),
  (39, .getfield 10, 42, 0, 0, 4, 1, 109, 0, 0, []),
  (42, .invokestatic 71, 45, 2, 1, 1, 1, 219, 0, 0, [0, 0]),
  (45, .invokevirtual 77, 48, 69, 2, 1, 0, 222, 0, 0, [0, 0])],
 [(48, .istore_n 3, 49, 3, 0, 0, 0, 0, 0, 0, []),
  (49, .aload_n 2, 50, 2, 0, 0, 0, 0, 0, 0, []),
  (50, .aload_n 0, 51, 0, 0, 0, 0, 0, 0, 0, []),
  (51, .getfield 10, 54, 0, 0, 4, 1, 109, 0, 0, []),
  (54, .invokestatic 80, 57, 3, 1, 1, 1, 284, 0, 0, [0, 0]),
  (57, .aload_n 0, 58, 0, 0, 0, 0, 0, 0, 0, []),
  (58, .getfield 10, 61, 0, 0, 4, 1, 109, 0, 0, []),
  (61, .invokestatic 83, 64, 4, 1, 1, 1, 381, 0, 0, [0, 0])],
 [(64, .iload_n 3, 65, 3, 0, 0, 0, 0, 0, 0, []),
  (65, .aload_n 0, 66, 0, 0, 0, 0, 0, 0, 0, []),
  (66, .getfield 86, 69, 0, 6, 0, 0, 115, 0, 0, []),
  (69, .aload_n 0, 70, 0, 0, 0, 0, 0, 0, 0, []),
  (70, .getfield 36, 73, 0, 7, 0, 0, 116, 0, 0, []),
  (73, .invokevirtual 89, 76, 55, 6, 1, 0, 384, 0, 0, [0, 0]),
  (76, .ifCond .eq 15, 79, 91, 0, 0, 0, 0, 0, 0, []),
  (79, .aload_n 0, 80, 0, 0, 0, 0, 0, 0, 0, [])],
 [(80, .dup, 81, 0, 0, 0, 0, 0, 0, 0, []),
  (81, .getfield 93, 84, 0, 8, 0, 0, 117, 0, 0, []),
  (84, .iconst 1, 85, 0, 0, 0, 0, 0, 1, 0, []),
  (85, .iadd, 86, 0, 0, 0, 0, 0, 0, 0, []),
  (86, .putfield 93, 89, 0, 8, 0, 0, 117, 0, 0, []),
  (89, .iconst 1, 90, 0, 0, 0, 0, 0, 1, 0, []),
  (90, .ireturn, 91, 0, 0, 0, 0, 0, 0, 0, []),
  (91, .aload_n 0, 92, 0, 0, 0, 0, 0, 0, 0, []),
  (92, .dup, 93, 0, 0, 0, 0, 0, 0, 0, []),
  (93, .getfield 96, 96, 0, 9, 0, 0, 118, 0, 0, [])],
 [(96, .iconst 1, 97, 0, 0, 0, 0, 0, 1, 0, []),
  (97, .iadd, 98, 0, 0, 0, 0, 0, 0, 0, []),
  (98, .putfield 96, 101, 0, 9, 0, 0, 118, 0, 0, []),
  (101, .iconst 0, 102, 0, 0, 0, 0, 0, 0, 0, []),
  (102, .ireturn, 103, 0, 0, 0, 0, 0, 0, 0, [])]]
def cd_X8_data : List (List sd_I) := [[(0, .iload_n 1, 1, 1, 0, 0, 0, 0, 0, 0, []),
  (1, .ifCond .lt 9, 4, 10, 0, 0, 0, 0, 0, 0, []),
  (4, .iload_n 1, 5, 1, 0, 0, 0, 0, 0, 0, []),
  (5, .bipush 9, 7, 0, 0, 0, 0, 0, 9, 0, []),
  (7, .if_icmp .le 6, 10, 13, 0, 0, 0, 0, 0, 0, []),
  (10, .bipush (-2), 12, 0, 0, 0, 0, 0, (-2), 0, []),
  (12, .ireturn, 13, 0, 0, 0, 0, 0, 0, 0, []),
  (13, .iload_n 1, 14, 1, 0, 0, 0, 0, 0, 0, []),
  (14, .ifCond .ne 8, 17, 22, 0, 0, 0, 0, 0, 0, [])],
 [(17, .aload_n 0, 18, 0, 0, 0, 0, 0, 0, 0, []),
  (18, .invokevirtual 60, 21, 68, 1, 1, 0, 191, 0, 0, [0, 0]),
  (21, .ireturn, 22, 0, 0, 0, 0, 0, 0, 0, []),
  (22, .aload_n 0, 23, 0, 0, 0, 0, 0, 0, 0, []),
  (23, .getfield 10, 26, 0, 0, 4, 1, 109, 0, 0, []),
  (26, .invokestatic 99, 29, 0, 1, 1, 1, 195, 0, 0, [0, 0]),
  (29, .ifCond .eq 7, 32, 36, 0, 0, 0, 0, 0, 0, [])],
 [(32, .iconst 0, 33, 0, 0, 0, 0, 0, 0, 0, []),
  (33, .goto 11, 36, 44, 0, 0, 0, 0, 0, 0, []),
  (36, .aload_n 0, 37, 0, 0, 0, 0, 0, 0, 0, []),
  (37, .getfield 10, 40, 0, 0, 4, 1, 109, 0, 0, []),
  (40, .iload_n 1, 41, 1, 0, 0, 0, 0, 0, 0, []),
  (41, .invokestatic 102, 44, 1, 2, 1, 1, 478, 0, 0, [0, 0]),
  (44, .ireturn, 45, 0, 0, 0, 0, 0, 0, 0, [])]]
def cd_X8_dataFault : List (List sd_I) := [[(0, .aload_n 0, 1, 0, 0, 0, 0, 0, 0, 0, []),
  (1, .getfield 10, 4, 0, 0, 4, 1, 109, 0, 0, []),
  (4, .invokestatic 99, 7, 0, 1, 1, 1, 195, 0, 0, [0, 0]),
  (7, .istore_n 1, 8, 1, 0, 0, 0, 0, 0, 0, []),
  (8, .iload_n 1, 9, 1, 0, 0, 0, 0, 0, 0, []),
  (9, .ifCond .eq 5, 12, 14, 0, 0, 0, 0, 0, 0, []),
  (12, .iload_n 1, 13, 1, 0, 0, 0, 0, 0, 0, []),
  (13, .ireturn, 14, 0, 0, 0, 0, 0, 0, 0, []),
  (14, .aload_n 0, 15, 0, 0, 0, 0, 0, 0, 0, []),
  (15, .aload_n 0, 16, 0, 0, 0, 0, 0, 0, 0, [])],
 [(16, .getfield 10, 19, 0, 0, 4, 1, 109, 0, 0, []),
  (19, .invokestatic 71, 22, 2, 1, 1, 1, 219, 0, 0, [0, 0]),
  (22, .invokevirtual 77, 25, 69, 2, 1, 0, 222, 0, 0, [0, 0]),
  (25, .ifCond .ne 6, 28, 31, 0, 0, 0, 0, 0, 0, []),
  (28, .bipush 6, 30, 0, 0, 0, 0, 0, 6, 0, []),
  (30, .ireturn, 31, 0, 0, 0, 0, 0, 0, 0, []),
  (31, .aload_n 0, 32, 0, 0, 0, 0, 0, 0, 0, [])],
 [(32, .getfield 106, 35, 0, 5, 0, 0, 114, 0, 0, []),
  (35, .bipush 6, 37, 0, 0, 0, 0, 0, 6, 0, []),
  (37, .if_icmp .lt 7, 40, 44, 0, 0, 0, 0, 0, 0, []),
  (40, .iconst 1, 41, 0, 0, 0, 0, 0, 1, 0, []),
  (41, .goto 4, 44, 45, 0, 0, 0, 0, 0, 0, []),
  (44, .iconst 0, 45, 0, 0, 0, 0, 0, 0, 0, []),
  (45, .istore_n 2, 46, 2, 0, 0, 0, 0, 0, 0, []),
  (46, .iload_n 2, 47, 2, 0, 0, 0, 0, 0, 0, []),
  (47, .ifCond .eq 22, 50, 69, 0, 0, 0, 0, 0, 0, [])],
 [(50, .aload_n 0, 51, 0, 0, 0, 0, 0, 0, 0, []),
  (51, .aload_n 0, 52, 0, 0, 0, 0, 0, 0, 0, []),
  (52, .getfield 10, 55, 0, 0, 4, 1, 109, 0, 0, []),
  (55, .invokestatic 109, 58, 5, 1, 1, 1, 226, 0, 0, [0, 0]),
  (58, .invokevirtual 112, 61, 71, 2, 3, 0, 234, 0, 0, [0, 0]),
  (61, .ifnonnull 8, 64, 69, 0, 0, 0, 0, 0, 0, [])],
 [(64, .bipush 7, 66, 0, 0, 0, 0, 0, 7, 0, []),
  (66, .goto 4, 69, 70, 0, 0, 0, 0, 0, 0, []),
  (69, .iconst 0, 70, 0, 0, 0, 0, 0, 0, 0, []),
  (70, .ireturn, 71, 0, 0, 0, 0, 0, 0, 0, [])]]
def cd_X8_rateOf : List (List sd_I) := [[(0, .iload_n 1, 1, 1, 0, 0, 0, 0, 0, 0, []),
  (1, .ifCond .lt 19, 4, 20, 0, 0, 0, 0, 0, 0, []),
  (4, .iload_n 1, 5, 1, 0, 0, 0, 0, 0, 0, []),
  (5, .sipush 128, 8, 0, 0, 0, 0, 0, 128, 0, []),
  (8, .if_icmp .ge 12, 11, 20, 0, 0, 0, 0, 0, 0, []),
  (11, .aload_n 0, 12, 0, 0, 0, 0, 0, 0, 0, []),
  (12, .getfield 23, 15, 0, 2, 11, 1, 111, 0, 0, []),
  (15, .iload_n 1, 16, 1, 0, 0, 0, 0, 0, 0, [])],
 [(16, .iaload, 17, 0, 0, 0, 0, 0, 0, 0, []),
  (17, .goto 4, 20, 21, 0, 0, 0, 0, 0, 0, []),
  (20, .iconst 0, 21, 0, 0, 0, 0, 0, 0, 0, []),
  (21, .ireturn, 22, 0, 0, 0, 0, 0, 0, 0, [])]]
def cd_X8_senderThatSent : List (List sd_I) := [[(0, .aload_n 0, 1, 0, 0, 0, 0, 0, 0, 0, []),
  (1, .aload_n 0, 2, 0, 0, 0, 0, 0, 0, 0, []),
  (2, .getfield 10, 5, 0, 0, 4, 1, 109, 0, 0, []),
  (5, .invokestatic 109, 8, 5, 1, 1, 1, 226, 0, 0, [0, 0]),
  (8, .invokevirtual 112, 11, 71, 2, 3, 0, 234, 0, 0, [0, 0]),
  (11, .astore_n 1, 12, 1, 0, 0, 0, 0, 0, 0, []),
  (12, .aload_n 1, 13, 1, 0, 0, 0, 0, 0, 0, []),
  (13, .ifnonnull 19, 16, 32, 0, 0, 0, 0, 0, 0, [])],
 [(16, .aload_n 0, 17, 0, 0, 0, 0, 0, 0, 0, []),
  (17, .getfield 106, 20, 0, 5, 0, 0, 114, 0, 0, []),
  (20, .ifCond .lt 12, 23, 32, 0, 0, 0, 0, 0, 0, []),
  (23, .aload_n 0, 24, 0, 0, 0, 0, 0, 0, 0, []),
  (24, .getfield 106, 27, 0, 5, 0, 0, 114, 0, 0, []),
  (27, .bipush 6, 29, 0, 0, 0, 0, 0, 6, 0, []),
  (29, .if_icmp .lt 5, 32, 34, 0, 0, 0, 0, 0, 0, [])],
 [(32, .aload_n 1, 33, 1, 0, 0, 0, 0, 0, 0, []),
  (33, .areturn, 34, 0, 0, 0, 0, 0, 0, 0, []),
  (34, .new 116, 37, 6, 9, 247, 52, 246, 0, 0, []),
  (37, .dup, 38, 0, 0, 0, 0, 0, 0, 0, []),
  (38, .aload_n 0, 39, 0, 0, 0, 0, 0, 0, 0, []),
  (39, .getfield 19, 42, 0, 1, 5, 1, 110, 0, 0, []),
  (42, .aload_n 0, 43, 0, 0, 0, 0, 0, 0, 0, []),
  (43, .getfield 106, 46, 0, 5, 0, 0, 114, 0, 0, []),
  (46, .invokespecial 118, 49, 33, 3, 0, 2, 248, 0, 0, [3, 72])],
 [(49, .astore_n 2, 50, 2, 0, 0, 0, 0, 0, 0, []),
  (50, .new 27, 53, 3, 8, 283, 53, 107, 0, 0, []),
  (53, .dup, 54, 0, 0, 0, 0, 0, 0, 0, []),
  (54, .aload_n 0, 55, 0, 0, 0, 0, 0, 0, 0, []),
  (55, .getfield 10, 58, 0, 0, 4, 1, 109, 0, 0, []),
  (58, .invokestatic 109, 61, 5, 1, 1, 1, 226, 0, 0, [0, 0]),
  (61, .aload_n 0, 62, 0, 0, 0, 0, 0, 0, 0, []),
  (62, .getfield 10, 65, 0, 0, 4, 1, 109, 0, 0, [])],
 [(65, .invokestatic 80, 68, 3, 1, 1, 1, 284, 0, 0, [0, 0]),
  (68, .aload_n 2, 69, 2, 0, 0, 0, 0, 0, 0, []),
  (69, .invokespecial 121, 72, 54, 4, 0, 2, 287, 0, 0, [2, 11]),
  (72, .astore_n 3, 73, 3, 0, 0, 0, 0, 0, 0, []),
  (73, .aload_n 0, 74, 0, 0, 0, 0, 0, 0, 0, []),
  (74, .getfield 29, 77, 0, 3, 12, 1, 112, 0, 0, []),
  (77, .aload_n 0, 78, 0, 0, 0, 0, 0, 0, 0, []),
  (78, .getfield 106, 81, 0, 5, 0, 0, 114, 0, 0, [])],
 [(81, .aload_n 3, 82, 3, 0, 0, 0, 0, 0, 0, []),
  (82, .aastore, 83, 0, 0, 0, 0, 0, 0, 0, []),
  (83, .aload_n 0, 84, 0, 0, 0, 0, 0, 0, 0, []),
  (84, .dup, 85, 0, 0, 0, 0, 0, 0, 0, []),
  (85, .getfield 106, 88, 0, 5, 0, 0, 114, 0, 0, []),
  (88, .iconst 1, 89, 0, 0, 0, 0, 0, 1, 0, []),
  (89, .iadd, 90, 0, 0, 0, 0, 0, 0, 0, []),
  (90, .putfield 106, 93, 0, 5, 0, 0, 114, 0, 0, []),
  (93, .aload_n 3, 94, 3, 0, 0, 0, 0, 0, 0, []),
  (94, .areturn, 95, 0, 0, 0, 0, 0, 0, 0, [])]]
def cd_X8_senderWith : List (List sd_I) := [[(0, .iconst 0, 1, 0, 0, 0, 0, 0, 0, 0, []),
  (1, .istore_n 2, 2, 2, 0, 0, 0, 0, 0, 0, []),
  (2, .iload_n 2, 3, 2, 0, 0, 0, 0, 0, 0, []),
  (3, .bipush 6, 5, 0, 0, 0, 0, 0, 6, 0, []),
  (5, .if_icmp .ge 29, 8, 34, 0, 0, 0, 0, 0, 0, []),
  (8, .aload_n 0, 9, 0, 0, 0, 0, 0, 0, 0, []),
  (9, .iload_n 2, 10, 2, 0, 0, 0, 0, 0, 0, []),
  (10, .invokevirtual 124, 13, 72, 2, 3, 0, 238, 0, 0, [0, 0]),
  (13, .astore_n 3, 14, 3, 0, 0, 0, 0, 0, 0, []),
  (14, .aload_n 3, 15, 3, 0, 0, 0, 0, 0, 0, []),
  (15, .ifnull 13, 18, 28, 0, 0, 0, 0, 0, 0, [])],
 [(18, .aload_n 3, 19, 3, 0, 0, 0, 0, 0, 0, []),
  (19, .getfield 127, 22, 3, 0, 0, 0, 353, 0, 0, []),
  (22, .iload_n 1, 23, 1, 0, 0, 0, 0, 0, 0, []),
  (23, .if_icmp .ne 5, 26, 28, 0, 0, 0, 0, 0, 0, []),
  (26, .aload_n 3, 27, 3, 0, 0, 0, 0, 0, 0, []),
  (27, .areturn, 28, 0, 0, 0, 0, 0, 0, 0, []),
  (28, .iinc 2 1, 31, 2, 0, 0, 0, 0, 1, 0, []),
  (31, .goto (-29), 34, 2, 0, 0, 0, 0, 0, 0, [])],
 [(34, .aconst_null, 35, 0, 0, 0, 0, 0, 0, 0, []),
  (35, .areturn, 36, 0, 0, 0, 0, 0, 0, 0, [])]]
def cd_X8_senderNumbered : List (List sd_I) := [[(0, .iload_n 1, 1, 1, 0, 0, 0, 0, 0, 0, []),
  (1, .ifCond .lt 26, 4, 27, 0, 0, 0, 0, 0, 0, []),
  (4, .iload_n 1, 5, 1, 0, 0, 0, 0, 0, 0, []),
  (5, .aload_n 0, 6, 0, 0, 0, 0, 0, 0, 0, []),
  (6, .getfield 106, 9, 0, 5, 0, 0, 114, 0, 0, []),
  (9, .if_icmp .ge 18, 12, 27, 0, 0, 0, 0, 0, 0, []),
  (12, .iload_n 1, 13, 1, 0, 0, 0, 0, 0, 0, []),
  (13, .bipush 6, 15, 0, 0, 0, 0, 0, 6, 0, []),
  (15, .if_icmp .ge 12, 18, 27, 0, 0, 0, 0, 0, 0, [])],
 [(18, .aload_n 0, 19, 0, 0, 0, 0, 0, 0, 0, []),
  (19, .getfield 29, 22, 0, 3, 12, 1, 112, 0, 0, []),
  (22, .iload_n 1, 23, 1, 0, 0, 0, 0, 0, 0, []),
  (23, .aaload, 24, 0, 0, 0, 0, 0, 0, 0, []),
  (24, .goto 4, 27, 28, 0, 0, 0, 0, 0, 0, []),
  (27, .aconst_null, 28, 0, 0, 0, 0, 0, 0, 0, []),
  (28, .areturn, 29, 0, 0, 0, 0, 0, 0, 0, [])]]
def cd_X8_pass : List (List sd_I) := [[(0, .iload_n 1, 1, 1, 0, 0, 0, 0, 0, 0, []),
  (1, .ifCond .lt 10, 4, 11, 0, 0, 0, 0, 0, 0, []),
  (4, .iload_n 1, 5, 1, 0, 0, 0, 0, 0, 0, []),
  (5, .sipush 10000, 8, 0, 0, 0, 0, 0, 10000, 0, []),
  (8, .if_icmp .le 6, 11, 14, 0, 0, 0, 0, 0, 0, []),
  (11, .bipush (-2), 13, 0, 0, 0, 0, 0, (-2), 0, []),
  (13, .ireturn, 14, 0, 0, 0, 0, 0, 0, 0, []),
  (14, .aload_n 0, 15, 0, 0, 0, 0, 0, 0, 0, []),
  (15, .getfield 86, 18, 0, 6, 0, 0, 115, 0, 0, [])],
 [(18, .iload_n 1, 19, 1, 0, 0, 0, 0, 0, 0, []),
  (19, .iadd, 20, 0, 0, 0, 0, 0, 0, 0, []),
  (20, .ldc 130, 22, 0, 0, 0, 0, 489, 100000000, 0, []),
  (22, .if_icmp .le 6, 25, 28, 0, 0, 0, 0, 0, 0, []),
  (25, .bipush (-3), 27, 0, 0, 0, 0, 0, (-3), 0, []),
  (27, .ireturn, 28, 0, 0, 0, 0, 0, 0, 0, []),
  (28, .aload_n 0, 29, 0, 0, 0, 0, 0, 0, 0, []),
  (29, .dup, 30, 0, 0, 0, 0, 0, 0, 0, []),
  (30, .getfield 86, 33, 0, 6, 0, 0, 115, 0, 0, [])],
 [(33, .iload_n 1, 34, 1, 0, 0, 0, 0, 0, 0, []),
  (34, .iadd, 35, 0, 0, 0, 0, 0, 0, 0, []),
  (35, .putfield 86, 38, 0, 6, 0, 0, 115, 0, 0, []),
  (38, .iconst 0, 39, 0, 0, 0, 0, 0, 0, 0, []),
  (39, .istore_n 2, 40, 2, 0, 0, 0, 0, 0, 0, []),
  (40, .iconst 0, 41, 0, 0, 0, 0, 0, 0, 0, []),
  (41, .istore_n 3, 42, 3, 0, 0, 0, 0, 0, 0, []),
  (42, .iload_n 3, 43, 3, 0, 0, 0, 0, 0, 0, []),
  (43, .bipush 6, 45, 0, 0, 0, 0, 0, 6, 0, []),
  (45, .if_icmp .ge 36, 48, 81, 0, 0, 0, 0, 0, 0, [])],
 [(48, .aload_n 0, 49, 0, 0, 0, 0, 0, 0, 0, []),
  (49, .iload_n 3, 50, 3, 0, 0, 0, 0, 0, 0, []),
  (50, .invokevirtual 124, 53, 72, 2, 3, 0, 238, 0, 0, [0, 0]),
  (53, .astore 4, 55, 4, 0, 0, 0, 0, 0, 0, []),
  (55, .aload 4, 57, 4, 0, 0, 0, 0, 0, 0, []),
  (57, .ifnull 18, 60, 75, 0, 0, 0, 0, 0, 0, []),
  (60, .iload_n 2, 61, 2, 0, 0, 0, 0, 0, 0, []),
  (61, .aload 4, 63, 4, 0, 0, 0, 0, 0, 0, []),
  (63, .getfield 131, 66, 3, 3, 9, 1, 358, 0, 0, [])],
 [(66, .aload_n 0, 67, 0, 0, 0, 0, 0, 0, 0, []),
  (67, .getfield 86, 70, 0, 6, 0, 0, 115, 0, 0, []),
  (70, .invokevirtual 135, 73, 42, 2, 1, 0, 490, 0, 0, [0, 0]),
  (73, .iadd, 74, 0, 0, 0, 0, 0, 0, 0, []),
  (74, .istore_n 2, 75, 2, 0, 0, 0, 0, 0, 0, []),
  (75, .iinc 3 1, 78, 3, 0, 0, 0, 0, 1, 0, []),
  (78, .goto (-36), 81, 42, 0, 0, 0, 0, 0, 0, [])],
 [(81, .iload_n 2, 82, 2, 0, 0, 0, 0, 0, 0, []),
  (82, .ireturn, 83, 0, 0, 0, 0, 0, 0, 0, [])]]
def cd_X8_delay : List (List sd_I) := [[(0, .iload_n 1, 1, 1, 0, 0, 0, 0, 0, 0, []),
  (1, .ifCond .lt 10, 4, 11, 0, 0, 0, 0, 0, 0, []),
  (4, .iload_n 1, 5, 1, 0, 0, 0, 0, 0, 0, []),
  (5, .sipush 5000, 8, 0, 0, 0, 0, 0, 5000, 0, []),
  (8, .if_icmp .le 6, 11, 14, 0, 0, 0, 0, 0, 0, []),
  (11, .bipush (-2), 13, 0, 0, 0, 0, 0, (-2), 0, []),
  (13, .ireturn, 14, 0, 0, 0, 0, 0, 0, 0, []),
  (14, .aload_n 0, 15, 0, 0, 0, 0, 0, 0, 0, []),
  (15, .getfield 36, 18, 0, 7, 0, 0, 116, 0, 0, [])],
 [(18, .istore_n 2, 19, 2, 0, 0, 0, 0, 0, 0, []),
  (19, .aload_n 0, 20, 0, 0, 0, 0, 0, 0, 0, []),
  (20, .iload_n 1, 21, 1, 0, 0, 0, 0, 0, 0, []),
  (21, .putfield 36, 24, 0, 7, 0, 0, 116, 0, 0, []),
  (24, .iload_n 2, 25, 2, 0, 0, 0, 0, 0, 0, []),
  (25, .ireturn, 26, 0, 0, 0, 0, 0, 0, 0, [])]]
def cd_X8_sender : List (List sd_I) := [[(0, .aload_n 0, 1, 0, 0, 0, 0, 0, 0, 0, []),
  (1, .iload_n 1, 2, 1, 0, 0, 0, 0, 0, 0, []),
  (2, .invokevirtual 124, 5, 72, 2, 3, 0, 238, 0, 0, [0, 0]),
  (5, .astore_n 3, 6, 3, 0, 0, 0, 0, 0, 0, []),
  (6, .aload_n 3, 7, 3, 0, 0, 0, 0, 0, 0, []),
  (7, .ifnull 13, 10, 20, 0, 0, 0, 0, 0, 0, []),
  (10, .iload_n 2, 11, 2, 0, 0, 0, 0, 0, 0, []),
  (11, .ifCond .lt 9, 14, 20, 0, 0, 0, 0, 0, 0, []),
  (14, .iload_n 2, 15, 2, 0, 0, 0, 0, 0, 0, []),
  (15, .bipush 16, 17, 0, 0, 0, 0, 0, 16, 0, [])],
 [(17, .if_icmp .le 8, 20, 25, 0, 0, 0, 0, 0, 0, []),
  (20, .ldc 138, 22, 0, 0, 0, 0, 499, (-2147483648), 0, []),
  (22, .goto 8, 25, 30, 0, 0, 0, 0, 0, 0, []),
  (25, .aload_n 3, 26, 3, 0, 0, 0, 0, 0, 0, []),
  (26, .iload_n 2, 27, 2, 0, 0, 0, 0, 0, 0, []),
  (27, .invokevirtual 139, 30, 58, 2, 1, 0, 500, 0, 0, [0, 0]),
  (30, .ireturn, 31, 0, 0, 0, 0, 0, 0, 0, [])]]
def cd_X8_next : List (List sd_I) := [[(0, .aload_n 0, 1, 0, 0, 0, 0, 0, 0, 0, []),
  (1, .iload_n 1, 2, 1, 0, 0, 0, 0, 0, 0, []),
  (2, .invokevirtual 124, 5, 72, 2, 3, 0, 238, 0, 0, [0, 0]),
  (5, .astore_n 2, 6, 2, 0, 0, 0, 0, 0, 0, []),
  (6, .aload_n 2, 7, 2, 0, 0, 0, 0, 0, 0, []),
  (7, .ifnonnull 7, 10, 14, 0, 0, 0, 0, 0, 0, []),
  (10, .lconst 0, 11, 0, 0, 0, 0, 0, 0, 0, []),
  (11, .goto 10, 14, 21, 0, 0, 0, 0, 0, 0, []),
  (14, .aload_n 2, 15, 2, 0, 0, 0, 0, 0, 0, []),
  (15, .getfield 131, 18, 3, 3, 9, 1, 358, 0, 0, [])],
 [(18, .getfield 141, 21, 6, 6, 1, 0, 260, 0, 0, []),
  (21, .lreturn, 22, 0, 0, 0, 0, 0, 0, 0, [])]]
def cd_X8_time : List (List sd_I) := [[(0, .aload_n 0, 1, 0, 0, 0, 0, 0, 0, 0, []),
  (1, .iload_n 1, 2, 1, 0, 0, 0, 0, 0, 0, []),
  (2, .invokevirtual 124, 5, 72, 2, 3, 0, 238, 0, 0, [0, 0]),
  (5, .astore 4, 7, 4, 0, 0, 0, 0, 0, 0, []),
  (7, .aload 4, 9, 4, 0, 0, 0, 0, 0, 0, []),
  (9, .ifnonnull 7, 12, 16, 0, 0, 0, 0, 0, 0, []),
  (12, .ldc2_w 145, 15, 0, 0, 0, 0, 534, 0, (-2), []),
  (15, .lreturn, 16, 0, 0, 0, 0, 0, 0, 0, [])],
 [(16, .aload 4, 18, 4, 0, 0, 0, 0, 0, 0, []),
  (18, .getfield 131, 21, 3, 3, 9, 1, 358, 0, 0, []),
  (21, .lload_n 2, 22, 2, 0, 0, 0, 0, 0, 0, []),
  (22, .invokevirtual 147, 25, 39, 2, 1, 0, 535, 0, 0, [0, 0]),
  (25, .ifCond .eq 15, 28, 40, 0, 0, 0, 0, 0, 0, []),
  (28, .aload 4, 30, 4, 0, 0, 0, 0, 0, 0, []),
  (30, .getfield 131, 33, 3, 3, 9, 1, 358, 0, 0, [])],
 [(33, .lload_n 2, 34, 2, 0, 0, 0, 0, 0, 0, []),
  (34, .invokevirtual 151, 37, 40, 2, 2, 0, 536, 0, 0, [0, 0]),
  (37, .goto 6, 40, 43, 0, 0, 0, 0, 0, 0, []),
  (40, .ldc2_w 155, 43, 0, 0, 0, 0, 540, 0, (-1), []),
  (43, .lreturn, 44, 0, 0, 0, 0, 0, 0, 0, [])]]
def cd_X8_event : List (List sd_I) := [[(0, .aload_n 0, 1, 0, 0, 0, 0, 0, 0, 0, []),
  (1, .getfield 19, 4, 0, 1, 5, 1, 110, 0, 0, []),
  (4, .iload_n 1, 5, 1, 0, 0, 0, 0, 0, 0, []),
  (5, .invokevirtual 157, 8, 13, 2, 1, 0, 545, 0, 0, [0, 0]),
  (8, .ifCond .ne 7, 11, 15, 0, 0, 0, 0, 0, 0, []),
  (11, .ldc2_w 155, 14, 0, 0, 0, 0, 540, 0, (-1), []),
  (14, .lreturn, 15, 0, 0, 0, 0, 0, 0, 0, []),
  (15, .iload_n 2, 16, 2, 0, 0, 0, 0, 0, 0, [])],
 [(16, .ifCond .lt 8, 19, 24, 0, 0, 0, 0, 0, 0, []),
  (19, .iload_n 2, 20, 2, 0, 0, 0, 0, 0, 0, []),
  (20, .iconst 3, 21, 0, 0, 0, 0, 0, 3, 0, []),
  (21, .if_icmp .le 9, 24, 30, 0, 0, 0, 0, 0, 0, []),
  (24, .ldc2_w 145, 27, 0, 0, 0, 0, 534, 0, (-2), []),
  (27, .goto 12, 30, 39, 0, 0, 0, 0, 0, 0, []),
  (30, .aload_n 0, 31, 0, 0, 0, 0, 0, 0, 0, []),
  (31, .getfield 19, 34, 0, 1, 5, 1, 110, 0, 0, [])],
 [(34, .iload_n 1, 35, 1, 0, 0, 0, 0, 0, 0, []),
  (35, .iload_n 2, 36, 2, 0, 0, 0, 0, 0, 0, []),
  (36, .invokevirtual 160, 39, 14, 3, 2, 0, 549, 0, 0, [0, 0]),
  (39, .lreturn, 40, 0, 0, 0, 0, 0, 0, 0, [])]]
def cd_X8_report : List (List sd_I) := [[(0, .aload_n 0, 1, 0, 0, 0, 0, 0, 0, 0, []),
  (1, .iload_n 1, 2, 1, 0, 0, 0, 0, 0, 0, []),
  (2, .putfield 163, 5, 0, 12, 0, 0, 121, 0, 0, []),
  (5, .iconst 0, 6, 0, 0, 0, 0, 0, 0, 0, []),
  (6, .istore_n 2, 7, 2, 0, 0, 0, 0, 0, 0, []),
  (7, .iconst 0, 8, 0, 0, 0, 0, 0, 0, 0, []),
  (8, .istore_n 3, 9, 3, 0, 0, 0, 0, 0, 0, []),
  (9, .iload_n 3, 10, 3, 0, 0, 0, 0, 0, 0, []),
  (10, .bipush 6, 12, 0, 0, 0, 0, 0, 6, 0, []),
  (12, .if_icmp .ge 25, 15, 37, 0, 0, 0, 0, 0, 0, []),
  (15, .iload_n 2, 16, 2, 0, 0, 0, 0, 0, 0, [])],
 [(16, .aload_n 0, 17, 0, 0, 0, 0, 0, 0, 0, []),
  (17, .iload_n 3, 18, 3, 0, 0, 0, 0, 0, 0, []),
  (18, .invokevirtual 166, 21, 80, 2, 3, 0, 558, 0, 0, [0, 0]),
  (21, .ifnull 7, 24, 28, 0, 0, 0, 0, 0, 0, []),
  (24, .iconst 1, 25, 0, 0, 0, 0, 0, 1, 0, []),
  (25, .goto 4, 28, 29, 0, 0, 0, 0, 0, 0, []),
  (28, .iconst 0, 29, 0, 0, 0, 0, 0, 0, 0, []),
  (29, .iadd, 30, 0, 0, 0, 0, 0, 0, 0, []),
  (30, .istore_n 2, 31, 2, 0, 0, 0, 0, 0, 0, []),
  (31, .iinc 3 1, 34, 3, 0, 0, 0, 0, 1, 0, [])],
 [(34, .goto (-25), 37, 9, 0, 0, 0, 0, 0, 0, []),
  (37, .aload_n 0, 38, 0, 0, 0, 0, 0, 0, 0, []),
  (38, .getfield 10, 41, 0, 0, 4, 1, 109, 0, 0, []),
  (41, .iconst 0, 42, 0, 0, 0, 0, 0, 0, 0, []),
  (42, .putfield 40, 45, 1, 1, 0, 0, 76, 0, 0, []),
  (45, .aload_n 0, 46, 0, 0, 0, 0, 0, 0, 0, []),
  (46, .getfield 10, 49, 0, 0, 4, 1, 109, 0, 0, [])],
 [(49, .sipush 128, 52, 0, 0, 0, 0, 0, 128, 0, []),
  (52, .iload_n 2, 53, 2, 0, 0, 0, 0, 0, 0, []),
  (53, .iadd, 54, 0, 0, 0, 0, 0, 0, 0, []),
  (54, .i2l, 55, 0, 0, 0, 0, 0, 0, 0, []),
  (55, .iconst 1, 56, 0, 0, 0, 0, 0, 1, 0, []),
  (56, .invokevirtual 43, 59, 32, 3, 0, 0, 153, 0, 0, [0, 0]),
  (59, .aload_n 0, 60, 0, 0, 0, 0, 0, 0, 0, []),
  (60, .getfield 10, 63, 0, 0, 4, 1, 109, 0, 0, []),
  (63, .ldc2_w 171, 66, 0, 0, 0, 0, 562, 0, 201, [])],
 [(66, .iconst 1, 67, 0, 0, 0, 0, 0, 1, 0, []),
  (67, .invokevirtual 43, 70, 32, 3, 0, 0, 153, 0, 0, [0, 0]),
  (70, .aload_n 0, 71, 0, 0, 0, 0, 0, 0, 0, []),
  (71, .getfield 10, 74, 0, 0, 4, 1, 109, 0, 0, []),
  (74, .iconst 1, 75, 0, 0, 0, 0, 0, 1, 0, []),
  (75, .iload_n 2, 76, 2, 0, 0, 0, 0, 0, 0, []),
  (76, .bipush 6, 78, 0, 0, 0, 0, 0, 6, 0, []),
  (78, .imul, 79, 0, 0, 0, 0, 0, 0, 0, []),
  (79, .iadd, 80, 0, 0, 0, 0, 0, 0, 0, [])],
 [(80, .i2l, 81, 0, 0, 0, 0, 0, 0, 0, []),
  (81, .iconst 2, 82, 0, 0, 0, 0, 0, 2, 0, []),
  (82, .invokevirtual 43, 85, 32, 3, 0, 0, 153, 0, 0, [0, 0]),
  (85, .aload_n 0, 86, 0, 0, 0, 0, 0, 0, 0, []),
  (86, .getfield 10, 89, 0, 0, 4, 1, 109, 0, 0, []),
  (89, .iload_n 1, 90, 1, 0, 0, 0, 0, 0, 0, []),
  (90, .i2l, 91, 0, 0, 0, 0, 0, 0, 0, []),
  (91, .iconst 4, 92, 0, 0, 0, 0, 0, 4, 0, []),
  (92, .invokevirtual 43, 95, 32, 3, 0, 0, 153, 0, 0, [0, 0]),
  (95, .iconst 0, 96, 0, 0, 0, 0, 0, 0, 0, [])],
 [(96, .istore_n 3, 97, 3, 0, 0, 0, 0, 0, 0, []),
  (97, .iload_n 3, 98, 3, 0, 0, 0, 0, 0, 0, []),
  (98, .bipush 6, 100, 0, 0, 0, 0, 0, 6, 0, []),
  (100, .if_icmp .ge 34, 103, 134, 0, 0, 0, 0, 0, 0, []),
  (103, .aload_n 0, 104, 0, 0, 0, 0, 0, 0, 0, []),
  (104, .iload_n 3, 105, 3, 0, 0, 0, 0, 0, 0, []),
  (105, .invokevirtual 166, 108, 80, 2, 3, 0, 558, 0, 0, [0, 0]),
  (108, .astore 4, 110, 4, 0, 0, 0, 0, 0, 0, []),
  (110, .aload 4, 112, 4, 0, 0, 0, 0, 0, 0, [])],
 [(112, .ifnull 16, 115, 128, 0, 0, 0, 0, 0, 0, []),
  (115, .aload 4, 117, 4, 0, 0, 0, 0, 0, 0, []),
  (117, .aload_n 0, 118, 0, 0, 0, 0, 0, 0, 0, []),
  (118, .getfield 10, 121, 0, 0, 4, 1, 109, 0, 0, []),
  (121, .aload_n 0, 122, 0, 0, 0, 0, 0, 0, 0, []),
  (122, .getfield 86, 125, 0, 6, 0, 0, 115, 0, 0, []),
  (125, .invokevirtual 173, 128, 59, 3, 0, 0, 563, 0, 0, [0, 0])],
 [(128, .iinc 3 1, 131, 3, 0, 0, 0, 0, 1, 0, []),
  (131, .goto (-34), 134, 97, 0, 0, 0, 0, 0, 0, []),
  (134, .aload_n 0, 135, 0, 0, 0, 0, 0, 0, 0, []),
  (135, .getfield 10, 138, 0, 0, 4, 1, 109, 0, 0, []),
  (138, .getfield 40, 141, 1, 1, 0, 0, 76, 0, 0, []),
  (141, .ireturn, 142, 0, 0, 0, 0, 0, 0, 0, [])]]
def cd_X8_senderReported : List (List sd_I) := [[(0, .aload_n 0, 1, 0, 0, 0, 0, 0, 0, 0, []),
  (1, .iload_n 1, 2, 1, 0, 0, 0, 0, 0, 0, []),
  (2, .invokevirtual 124, 5, 72, 2, 3, 0, 238, 0, 0, [0, 0]),
  (5, .astore_n 2, 6, 2, 0, 0, 0, 0, 0, 0, []),
  (6, .aload_n 2, 7, 2, 0, 0, 0, 0, 0, 0, []),
  (7, .ifnull 24, 10, 31, 0, 0, 0, 0, 0, 0, []),
  (10, .aload_n 2, 11, 2, 0, 0, 0, 0, 0, 0, []),
  (11, .getfield 177, 14, 3, 1, 7, 1, 355, 0, 0, []),
  (14, .getfield 181, 17, 4, 4, 0, 0, 330, 0, 0, [])],
 [(17, .ifCond .ne 14, 20, 31, 0, 0, 0, 0, 0, 0, []),
  (20, .aload_n 2, 21, 2, 0, 0, 0, 0, 0, 0, []),
  (21, .getfield 186, 24, 3, 4, 2, 0, 360, 0, 0, []),
  (24, .ifCond .ne 7, 27, 31, 0, 0, 0, 0, 0, 0, []),
  (27, .aload_n 2, 28, 2, 0, 0, 0, 0, 0, 0, []),
  (28, .goto 4, 31, 32, 0, 0, 0, 0, 0, 0, []),
  (31, .aconst_null, 32, 0, 0, 0, 0, 0, 0, 0, [])],
 [(32, .areturn, 33, 0, 0, 0, 0, 0, 0, 0, [])]]
def cd_X8_hear : List (List sd_I) := [[(0, .aload_n 0, 1, 0, 0, 0, 0, 0, 0, 0, []),
  (1, .getfield 10, 4, 0, 0, 4, 1, 109, 0, 0, []),
  (4, .invokestatic 190, 7, 47, 1, 1, 1, 578, 0, 0, [0, 0]),
  (7, .istore_n 1, 8, 1, 0, 0, 0, 0, 0, 0, []),
  (8, .iload_n 1, 9, 1, 0, 0, 0, 0, 0, 0, []),
  (9, .ifCond .eq 8, 12, 17, 0, 0, 0, 0, 0, 0, []),
  (12, .bipush (-10), 14, 0, 0, 0, 0, 0, (-10), 0, []),
  (14, .iload_n 1, 15, 1, 0, 0, 0, 0, 0, 0, []),
  (15, .isub, 16, 0, 0, 0, 0, 0, 0, 0, [])],
 [(16, .ireturn, 17, 0, 0, 0, 0, 0, 0, 0, []),
  (17, .iconst 0, 18, 0, 0, 0, 0, 0, 0, 0, []),
  (18, .istore_n 2, 19, 2, 0, 0, 0, 0, 0, 0, []),
  (19, .iconst 0, 20, 0, 0, 0, 0, 0, 0, 0, []),
  (20, .istore_n 3, 21, 3, 0, 0, 0, 0, 0, 0, []),
  (21, .iload_n 2, 22, 2, 0, 0, 0, 0, 0, 0, []),
  (22, .bipush 75, 24, 0, 0, 0, 0, 0, 75, 0, []),
  (24, .if_icmp .ge 34, 27, 58, 0, 0, 0, 0, 0, 0, []),
  (27, .iload_n 3, 28, 3, 0, 0, 0, 0, 0, 0, []),
  (28, .aload_n 0, 29, 0, 0, 0, 0, 0, 0, 0, []),
  (29, .getfield 10, 32, 0, 0, 4, 1, 109, 0, 0, [])],
 [(32, .getfield 40, 35, 1, 1, 0, 0, 76, 0, 0, []),
  (35, .if_icmp .ge 23, 38, 58, 0, 0, 0, 0, 0, 0, []),
  (38, .aload_n 0, 39, 0, 0, 0, 0, 0, 0, 0, []),
  (39, .iload_n 3, 40, 3, 0, 0, 0, 0, 0, 0, []),
  (40, .invokevirtual 193, 43, 82, 2, 0, 0, 601, 0, 0, [0, 0]),
  (43, .aload_n 0, 44, 0, 0, 0, 0, 0, 0, 0, []),
  (44, .getfield 10, 47, 0, 0, 4, 1, 109, 0, 0, []),
  (47, .iload_n 3, 48, 3, 0, 0, 0, 0, 0, 0, [])],
 [(48, .invokestatic 197, 51, 52, 2, 1, 1, 635, 0, 0, [0, 0]),
  (51, .istore_n 3, 52, 3, 0, 0, 0, 0, 0, 0, []),
  (52, .iinc 2 1, 55, 2, 0, 0, 0, 0, 1, 0, []),
  (55, .goto (-34), 58, 21, 0, 0, 0, 0, 0, 0, []),
  (58, .aload_n 0, 59, 0, 0, 0, 0, 0, 0, 0, []),
  (59, .dup, 60, 0, 0, 0, 0, 0, 0, 0, []),
  (60, .getfield 200, 63, 0, 11, 0, 0, 120, 0, 0, []),
  (63, .iconst 1, 64, 0, 0, 0, 0, 0, 1, 0, [])],
 [(64, .iadd, 65, 0, 0, 0, 0, 0, 0, 0, []),
  (65, .putfield 200, 68, 0, 11, 0, 0, 120, 0, 0, []),
  (68, .iload_n 2, 69, 2, 0, 0, 0, 0, 0, 0, []),
  (69, .ireturn, 70, 0, 0, 0, 0, 0, 0, 0, [])]]
def cd_X8_hearPart : List (List sd_I) := [[(0, .aload_n 0, 1, 0, 0, 0, 0, 0, 0, 0, []),
  (1, .getfield 10, 4, 0, 0, 4, 1, 109, 0, 0, []),
  (4, .iload_n 1, 5, 1, 0, 0, 0, 0, 0, 0, []),
  (5, .invokestatic 203, 8, 50, 2, 1, 1, 605, 0, 0, [0, 0]),
  (8, .istore_n 2, 9, 2, 0, 0, 0, 0, 0, 0, []),
  (9, .iload_n 2, 10, 2, 0, 0, 0, 0, 0, 0, []),
  (10, .sipush 203, 13, 0, 0, 0, 0, 0, 203, 0, []),
  (13, .if_icmp .ne 9, 16, 22, 0, 0, 0, 0, 0, 0, [])],
 [(16, .aload_n 0, 17, 0, 0, 0, 0, 0, 0, 0, []),
  (17, .iload_n 1, 18, 1, 0, 0, 0, 0, 0, 0, []),
  (18, .invokevirtual 205, 21, 86, 2, 0, 0, 606, 0, 0, [0, 0]),
  (21, .return_, 22, 0, 0, 0, 0, 0, 0, 0, []),
  (22, .iload_n 2, 23, 2, 0, 0, 0, 0, 0, 0, []),
  (23, .sipush 200, 26, 0, 0, 0, 0, 0, 200, 0, []),
  (26, .if_icmp .ne 8, 29, 34, 0, 0, 0, 0, 0, 0, []),
  (29, .aload_n 0, 30, 0, 0, 0, 0, 0, 0, 0, []),
  (30, .iload_n 1, 31, 1, 0, 0, 0, 0, 0, 0, []),
  (31, .invokevirtual 208, 34, 83, 2, 0, 0, 618, 0, 0, [0, 0])],
 [(34, .iload_n 2, 35, 2, 0, 0, 0, 0, 0, 0, []),
  (35, .sipush 200, 38, 0, 0, 0, 0, 0, 200, 0, []),
  (38, .if_icmp .eq 10, 41, 48, 0, 0, 0, 0, 0, 0, []),
  (41, .iload_n 2, 42, 2, 0, 0, 0, 0, 0, 0, []),
  (42, .sipush 201, 45, 0, 0, 0, 0, 0, 201, 0, []),
  (45, .if_icmp .ne 13, 48, 58, 0, 0, 0, 0, 0, 0, [])],
 [(48, .aload_n 0, 49, 0, 0, 0, 0, 0, 0, 0, []),
  (49, .iload_n 1, 50, 1, 0, 0, 0, 0, 0, 0, []),
  (50, .iload_n 2, 51, 2, 0, 0, 0, 0, 0, 0, []),
  (51, .iconst 0, 52, 0, 0, 0, 0, 0, 0, 0, []),
  (52, .invokestatic 211, 55, 49, 2, 1, 1, 626, 0, 0, [0, 0]),
  (55, .invokevirtual 215, 58, 84, 3, 0, 0, 627, 0, 0, [0, 0]),
  (58, .return_, 59, 0, 0, 0, 0, 0, 0, 0, [])]]
def cd_X8_hearClock : List (List sd_I) := [[(0, .aload_n 0, 1, 0, 0, 0, 0, 0, 0, 0, []),
  (1, .aload_n 0, 2, 0, 0, 0, 0, 0, 0, 0, []),
  (2, .getfield 10, 5, 0, 0, 4, 1, 109, 0, 0, []),
  (5, .iload_n 1, 6, 1, 0, 0, 0, 0, 0, 0, []),
  (6, .iconst 4, 7, 0, 0, 0, 0, 0, 4, 0, []),
  (7, .iadd, 8, 0, 0, 0, 0, 0, 0, 0, []),
  (8, .invokevirtual 218, 11, 30, 2, 1, 0, 611, 0, 0, [0, 0]),
  (11, .invokevirtual 112, 14, 71, 2, 3, 0, 234, 0, 0, [0, 0]),
  (14, .astore_n 2, 15, 2, 0, 0, 0, 0, 0, 0, []),
  (15, .aload_n 2, 16, 2, 0, 0, 0, 0, 0, 0, [])],
 [(16, .ifnull 22, 19, 38, 0, 0, 0, 0, 0, 0, []),
  (19, .aload_n 2, 20, 2, 0, 0, 0, 0, 0, 0, []),
  (20, .aload_n 0, 21, 0, 0, 0, 0, 0, 0, 0, []),
  (21, .getfield 10, 24, 0, 0, 4, 1, 109, 0, 0, []),
  (24, .iload_n 1, 25, 1, 0, 0, 0, 0, 0, 0, []),
  (25, .bipush 10, 27, 0, 0, 0, 0, 0, 10, 0, []),
  (27, .iadd, 28, 0, 0, 0, 0, 0, 0, 0, []),
  (28, .invokevirtual 218, 31, 30, 2, 1, 0, 611, 0, 0, [0, 0]),
  (31, .aload_n 0, 32, 0, 0, 0, 0, 0, 0, 0, [])],
 [(32, .getfield 86, 35, 0, 6, 0, 0, 115, 0, 0, []),
  (35, .invokevirtual 221, 38, 56, 3, 0, 0, 622, 0, 0, [0, 0]),
  (38, .return_, 39, 0, 0, 0, 0, 0, 0, 0, [])]]
def cd_X8_hearBlocks : List (List sd_I) := [[(0, .aload_n 0, 1, 0, 0, 0, 0, 0, 0, 0, []),
  (1, .getfield 10, 4, 0, 0, 4, 1, 109, 0, 0, []),
  (4, .iload_n 1, 5, 1, 0, 0, 0, 0, 0, 0, []),
  (5, .invokestatic 224, 8, 51, 2, 1, 1, 610, 0, 0, [0, 0]),
  (8, .istore_n 3, 9, 3, 0, 0, 0, 0, 0, 0, []),
  (9, .iconst 0, 10, 0, 0, 0, 0, 0, 0, 0, []),
  (10, .istore 4, 12, 4, 0, 0, 0, 0, 0, 0, []),
  (12, .iload 4, 14, 4, 0, 0, 0, 0, 0, 0, []),
  (14, .iload_n 3, 15, 3, 0, 0, 0, 0, 0, 0, []),
  (15, .if_icmp .ge 52, 18, 67, 0, 0, 0, 0, 0, 0, [])],
 [(18, .iload_n 1, 19, 1, 0, 0, 0, 0, 0, 0, []),
  (19, .iload_n 2, 20, 2, 0, 0, 0, 0, 0, 0, []),
  (20, .iadd, 21, 0, 0, 0, 0, 0, 0, 0, []),
  (21, .iload 4, 23, 4, 0, 0, 0, 0, 0, 0, []),
  (23, .bipush 24, 25, 0, 0, 0, 0, 0, 24, 0, []),
  (25, .imul, 26, 0, 0, 0, 0, 0, 0, 0, []),
  (26, .iadd, 27, 0, 0, 0, 0, 0, 0, 0, []),
  (27, .istore 5, 29, 5, 0, 0, 0, 0, 0, 0, []),
  (29, .aload_n 0, 30, 0, 0, 0, 0, 0, 0, 0, []),
  (30, .getfield 10, 33, 0, 0, 4, 1, 109, 0, 0, [])],
 [(33, .iload 5, 35, 5, 0, 0, 0, 0, 0, 0, []),
  (35, .invokevirtual 218, 38, 30, 2, 1, 0, 611, 0, 0, [0, 0]),
  (38, .aload_n 0, 39, 0, 0, 0, 0, 0, 0, 0, []),
  (39, .getfield 163, 42, 0, 12, 0, 0, 121, 0, 0, []),
  (42, .if_icmp .ne 19, 45, 61, 0, 0, 0, 0, 0, 0, []),
  (45, .aload_n 0, 46, 0, 0, 0, 0, 0, 0, 0, []),
  (46, .iload 5, 48, 5, 0, 0, 0, 0, 0, 0, [])],
 [(48, .aload_n 0, 49, 0, 0, 0, 0, 0, 0, 0, []),
  (49, .getfield 10, 52, 0, 0, 4, 1, 109, 0, 0, []),
  (52, .iload_n 1, 53, 1, 0, 0, 0, 0, 0, 0, []),
  (53, .iconst 4, 54, 0, 0, 0, 0, 0, 4, 0, []),
  (54, .iadd, 55, 0, 0, 0, 0, 0, 0, 0, []),
  (55, .invokevirtual 218, 58, 30, 2, 1, 0, 611, 0, 0, [0, 0]),
  (58, .invokevirtual 227, 61, 85, 3, 0, 0, 631, 0, 0, [0, 0]),
  (61, .iinc 4 1, 64, 4, 0, 0, 0, 0, 1, 0, [])],
 [(64, .goto (-52), 67, 12, 0, 0, 0, 0, 0, 0, []),
  (67, .return_, 68, 0, 0, 0, 0, 0, 0, 0, [])]]
def cd_X8_keepBlock : List (List sd_I) := [[(0, .aload_n 0, 1, 0, 0, 0, 0, 0, 0, 0, []),
  (1, .getfield 33, 4, 0, 4, 13, 1, 113, 0, 0, []),
  (4, .iconst 0, 5, 0, 0, 0, 0, 0, 0, 0, []),
  (5, .aload_n 0, 6, 0, 0, 0, 0, 0, 0, 0, []),
  (6, .getfield 10, 9, 0, 0, 4, 1, 109, 0, 0, []),
  (9, .iload_n 1, 10, 1, 0, 0, 0, 0, 0, 0, []),
  (10, .iconst 4, 11, 0, 0, 0, 0, 0, 4, 0, []),
  (11, .iadd, 12, 0, 0, 0, 0, 0, 0, 0, []),
  (12, .invokevirtual 51, 15, 28, 2, 1, 0, 169, 0, 0, [0, 0]),
  (15, .iastore, 16, 0, 0, 0, 0, 0, 0, 0, [])],
 [(16, .aload_n 0, 17, 0, 0, 0, 0, 0, 0, 0, []),
  (17, .getfield 33, 20, 0, 4, 13, 1, 113, 0, 0, []),
  (20, .iconst 1, 21, 0, 0, 0, 0, 0, 1, 0, []),
  (21, .aload_n 0, 22, 0, 0, 0, 0, 0, 0, 0, []),
  (22, .getfield 10, 25, 0, 0, 4, 1, 109, 0, 0, []),
  (25, .iload_n 1, 26, 1, 0, 0, 0, 0, 0, 0, []),
  (26, .iconst 4, 27, 0, 0, 0, 0, 0, 4, 0, []),
  (27, .iadd, 28, 0, 0, 0, 0, 0, 0, 0, []),
  (28, .invokevirtual 218, 31, 30, 2, 1, 0, 611, 0, 0, [0, 0]),
  (31, .bipush 8, 33, 0, 0, 0, 0, 0, 8, 0, [])],
 [(33, .ishl, 34, 0, 0, 0, 0, 0, 0, 0, []),
  (34, .bipush 8, 36, 0, 0, 0, 0, 0, 8, 0, []),
  (36, .ishr, 37, 0, 0, 0, 0, 0, 0, 0, []),
  (37, .iastore, 38, 0, 0, 0, 0, 0, 0, 0, []),
  (38, .aload_n 0, 39, 0, 0, 0, 0, 0, 0, 0, []),
  (39, .getfield 33, 42, 0, 4, 13, 1, 113, 0, 0, []),
  (42, .iconst 2, 43, 0, 0, 0, 0, 0, 2, 0, []),
  (43, .aload_n 0, 44, 0, 0, 0, 0, 0, 0, 0, []),
  (44, .getfield 10, 47, 0, 0, 4, 1, 109, 0, 0, []),
  (47, .iload_n 1, 48, 1, 0, 0, 0, 0, 0, 0, [])],
 [(48, .bipush 8, 50, 0, 0, 0, 0, 0, 8, 0, []),
  (50, .iadd, 51, 0, 0, 0, 0, 0, 0, 0, []),
  (51, .invokevirtual 218, 54, 30, 2, 1, 0, 611, 0, 0, [0, 0]),
  (54, .iastore, 55, 0, 0, 0, 0, 0, 0, 0, []),
  (55, .aload_n 0, 56, 0, 0, 0, 0, 0, 0, 0, []),
  (56, .getfield 33, 59, 0, 4, 13, 1, 113, 0, 0, []),
  (59, .iconst 3, 60, 0, 0, 0, 0, 0, 3, 0, []),
  (60, .aload_n 0, 61, 0, 0, 0, 0, 0, 0, 0, []),
  (61, .getfield 10, 64, 0, 0, 4, 1, 109, 0, 0, [])],
 [(64, .iload_n 1, 65, 1, 0, 0, 0, 0, 0, 0, []),
  (65, .bipush 12, 67, 0, 0, 0, 0, 0, 12, 0, []),
  (67, .iadd, 68, 0, 0, 0, 0, 0, 0, 0, []),
  (68, .invokevirtual 218, 71, 30, 2, 1, 0, 611, 0, 0, [0, 0]),
  (71, .iastore, 72, 0, 0, 0, 0, 0, 0, 0, []),
  (72, .aload_n 0, 73, 0, 0, 0, 0, 0, 0, 0, []),
  (73, .getfield 33, 76, 0, 4, 13, 1, 113, 0, 0, []),
  (76, .iconst 4, 77, 0, 0, 0, 0, 0, 4, 0, []),
  (77, .aload_n 0, 78, 0, 0, 0, 0, 0, 0, 0, []),
  (78, .getfield 10, 81, 0, 0, 4, 1, 109, 0, 0, [])],
 [(81, .iload_n 1, 82, 1, 0, 0, 0, 0, 0, 0, []),
  (82, .bipush 16, 84, 0, 0, 0, 0, 0, 16, 0, []),
  (84, .iadd, 85, 0, 0, 0, 0, 0, 0, 0, []),
  (85, .invokevirtual 218, 88, 30, 2, 1, 0, 611, 0, 0, [0, 0]),
  (88, .iastore, 89, 0, 0, 0, 0, 0, 0, 0, []),
  (89, .aload_n 0, 90, 0, 0, 0, 0, 0, 0, 0, []),
  (90, .getfield 33, 93, 0, 4, 13, 1, 113, 0, 0, []),
  (93, .iconst 5, 94, 0, 0, 0, 0, 0, 5, 0, []),
  (94, .aload_n 0, 95, 0, 0, 0, 0, 0, 0, 0, []),
  (95, .getfield 10, 98, 0, 0, 4, 1, 109, 0, 0, [])],
 [(98, .iload_n 1, 99, 1, 0, 0, 0, 0, 0, 0, []),
  (99, .bipush 20, 101, 0, 0, 0, 0, 0, 20, 0, []),
  (101, .iadd, 102, 0, 0, 0, 0, 0, 0, 0, []),
  (102, .invokevirtual 218, 105, 30, 2, 1, 0, 611, 0, 0, [0, 0]),
  (105, .iastore, 106, 0, 0, 0, 0, 0, 0, 0, []),
  (106, .aload_n 0, 107, 0, 0, 0, 0, 0, 0, 0, []),
  (107, .getfield 33, 110, 0, 4, 13, 1, 113, 0, 0, []),
  (110, .bipush 6, 112, 0, 0, 0, 0, 0, 6, 0, [])],
 [(112, .iload_n 2, 113, 2, 0, 0, 0, 0, 0, 0, []),
  (113, .iastore, 114, 0, 0, 0, 0, 0, 0, 0, []),
  (114, .return_, 115, 0, 0, 0, 0, 0, 0, 0, [])]]
def cd_X8_hearLeaving : List (List sd_I) := [[(0, .aload_n 0, 1, 0, 0, 0, 0, 0, 0, 0, []),
  (1, .getfield 10, 4, 0, 0, 4, 1, 109, 0, 0, []),
  (4, .iload_n 1, 5, 1, 0, 0, 0, 0, 0, 0, []),
  (5, .invokestatic 224, 8, 51, 2, 1, 1, 610, 0, 0, [0, 0]),
  (8, .istore_n 2, 9, 2, 0, 0, 0, 0, 0, 0, []),
  (9, .iconst 0, 10, 0, 0, 0, 0, 0, 0, 0, []),
  (10, .istore_n 3, 11, 3, 0, 0, 0, 0, 0, 0, []),
  (11, .iload_n 3, 12, 3, 0, 0, 0, 0, 0, 0, []),
  (12, .iload_n 2, 13, 2, 0, 0, 0, 0, 0, 0, []),
  (13, .if_icmp .ge 43, 16, 56, 0, 0, 0, 0, 0, 0, [])],
 [(16, .aload_n 0, 17, 0, 0, 0, 0, 0, 0, 0, []),
  (17, .aload_n 0, 18, 0, 0, 0, 0, 0, 0, 0, []),
  (18, .getfield 10, 21, 0, 0, 4, 1, 109, 0, 0, []),
  (21, .iload_n 1, 22, 1, 0, 0, 0, 0, 0, 0, []),
  (22, .iconst 4, 23, 0, 0, 0, 0, 0, 4, 0, []),
  (23, .iadd, 24, 0, 0, 0, 0, 0, 0, 0, []),
  (24, .iconst 4, 25, 0, 0, 0, 0, 0, 4, 0, []),
  (25, .iload_n 3, 26, 3, 0, 0, 0, 0, 0, 0, []),
  (26, .imul, 27, 0, 0, 0, 0, 0, 0, 0, []),
  (27, .iadd, 28, 0, 0, 0, 0, 0, 0, 0, []),
  (28, .invokevirtual 218, 31, 30, 2, 1, 0, 611, 0, 0, [0, 0]),
  (31, .invokevirtual 112, 34, 71, 2, 3, 0, 234, 0, 0, [0, 0])],
 [(34, .astore 4, 36, 4, 0, 0, 0, 0, 0, 0, []),
  (36, .aload 4, 38, 4, 0, 0, 0, 0, 0, 0, []),
  (38, .ifnull 12, 41, 50, 0, 0, 0, 0, 0, 0, []),
  (41, .aload 4, 43, 4, 0, 0, 0, 0, 0, 0, []),
  (43, .aload_n 0, 44, 0, 0, 0, 0, 0, 0, 0, []),
  (44, .getfield 86, 47, 0, 6, 0, 0, 115, 0, 0, []),
  (47, .invokevirtual 230, 50, 57, 2, 0, 0, 612, 0, 0, [0, 0])],
 [(50, .iinc 3 1, 53, 3, 0, 0, 0, 0, 1, 0, []),
  (53, .goto (-42), 56, 11, 0, 0, 0, 0, 0, 0, []),
  (56, .return_, 57, 0, 0, 0, 0, 0, 0, 0, [])]]
def cd_X8_heard : List (List sd_I) := [[(0, .iload_n 1, 1, 1, 0, 0, 0, 0, 0, 0, []),
  (1, .ifCond .lt 9, 4, 10, 0, 0, 0, 0, 0, 0, []),
  (4, .iload_n 1, 5, 1, 0, 0, 0, 0, 0, 0, []),
  (5, .bipush 7, 7, 0, 0, 0, 0, 0, 7, 0, []),
  (7, .if_icmp .lt 8, 10, 15, 0, 0, 0, 0, 0, 0, []),
  (10, .bipush (-2), 12, 0, 0, 0, 0, 0, (-2), 0, []),
  (12, .goto 9, 15, 21, 0, 0, 0, 0, 0, 0, []),
  (15, .aload_n 0, 16, 0, 0, 0, 0, 0, 0, 0, [])],
 [(16, .getfield 33, 19, 0, 4, 13, 1, 113, 0, 0, []),
  (19, .iload_n 1, 20, 1, 0, 0, 0, 0, 0, 0, []),
  (20, .iaload, 21, 0, 0, 0, 0, 0, 0, 0, []),
  (21, .ireturn, 22, 0, 0, 0, 0, 0, 0, 0, [])]]
def cd_X8_count : List (List sd_I) := [[(0, .iload_n 1, 1, 1, 0, 0, 0, 0, 0, 0, []),
  (1, .tableswitch 102 0 8 #[51, 59, 64, 69, 77, 82, 87, 92, 97], 52, 103, 0, 0, 0, 0, 0, 0, [52, 60, 65, 70, 78, 83, 88, 93, 98])],
 [],
 [],
 [(52, .aload_n 0, 53, 0, 0, 0, 0, 0, 0, 0, []),
  (53, .getfield 10, 56, 0, 0, 4, 1, 109, 0, 0, []),
  (56, .getfield 40, 59, 1, 1, 0, 0, 76, 0, 0, []),
  (59, .ireturn, 60, 0, 0, 0, 0, 0, 0, 0, []),
  (60, .aload_n 0, 61, 0, 0, 0, 0, 0, 0, 0, []),
  (61, .getfield 106, 64, 0, 5, 0, 0, 114, 0, 0, [])],
 [(64, .ireturn, 65, 0, 0, 0, 0, 0, 0, 0, []),
  (65, .aload_n 0, 66, 0, 0, 0, 0, 0, 0, 0, []),
  (66, .getfield 86, 69, 0, 6, 0, 0, 115, 0, 0, []),
  (69, .ireturn, 70, 0, 0, 0, 0, 0, 0, 0, []),
  (70, .aload_n 0, 71, 0, 0, 0, 0, 0, 0, 0, []),
  (71, .getfield 19, 74, 0, 1, 5, 1, 110, 0, 0, []),
  (74, .getfield 233, 77, 2, 4, 0, 0, 94, 0, 0, []),
  (77, .ireturn, 78, 0, 0, 0, 0, 0, 0, 0, []),
  (78, .aload_n 0, 79, 0, 0, 0, 0, 0, 0, 0, []),
  (79, .getfield 93, 82, 0, 8, 0, 0, 117, 0, 0, [])],
 [(82, .ireturn, 83, 0, 0, 0, 0, 0, 0, 0, []),
  (83, .aload_n 0, 84, 0, 0, 0, 0, 0, 0, 0, []),
  (84, .getfield 96, 87, 0, 9, 0, 0, 118, 0, 0, []),
  (87, .ireturn, 88, 0, 0, 0, 0, 0, 0, 0, []),
  (88, .aload_n 0, 89, 0, 0, 0, 0, 0, 0, 0, []),
  (89, .getfield 68, 92, 0, 10, 0, 0, 119, 0, 0, []),
  (92, .ireturn, 93, 0, 0, 0, 0, 0, 0, 0, []),
  (93, .aload_n 0, 94, 0, 0, 0, 0, 0, 0, 0, []),
  (94, .getfield 200, 97, 0, 11, 0, 0, 120, 0, 0, [])],
 [(97, .ireturn, 98, 0, 0, 0, 0, 0, 0, 0, []),
  (98, .aload_n 0, 99, 0, 0, 0, 0, 0, 0, 0, []),
  (99, .getfield 36, 102, 0, 7, 0, 0, 116, 0, 0, []),
  (102, .ireturn, 103, 0, 0, 0, 0, 0, 0, 0, []),
  (103, .bipush (-2), 105, 0, 0, 0, 0, 0, (-2), 0, []),
  (105, .ireturn, 106, 0, 0, 0, 0, 0, 0, 0, [])]]
def cd_X8_digest : List (List sd_I) := [[(0, .ldc2_w 236, 3, 0, 0, 0, 0, 648, 0, 17, []),
  (3, .lstore_n 1, 4, 1, 0, 0, 0, 0, 0, 0, []),
  (4, .iconst 0, 5, 0, 0, 0, 0, 0, 0, 0, []),
  (5, .istore_n 3, 6, 3, 0, 0, 0, 0, 0, 0, []),
  (6, .iload_n 3, 7, 3, 0, 0, 0, 0, 0, 0, []),
  (7, .bipush 8, 9, 0, 0, 0, 0, 0, 8, 0, []),
  (9, .if_icmp .gt 22, 12, 31, 0, 0, 0, 0, 0, 0, []),
  (12, .ldc2_w 238, 15, 0, 0, 0, 0, 649, 0, 31, []),
  (15, .lload_n 1, 16, 1, 0, 0, 0, 0, 0, 0, [])],
 [(16, .lmul, 17, 0, 0, 0, 0, 0, 0, 0, []),
  (17, .aload_n 0, 18, 0, 0, 0, 0, 0, 0, 0, []),
  (18, .iload_n 3, 19, 3, 0, 0, 0, 0, 0, 0, []),
  (19, .invokevirtual 240, 22, 88, 2, 1, 0, 650, 0, 0, [0, 0]),
  (22, .i2l, 23, 0, 0, 0, 0, 0, 0, 0, []),
  (23, .ladd, 24, 0, 0, 0, 0, 0, 0, 0, []),
  (24, .lstore_n 1, 25, 1, 0, 0, 0, 0, 0, 0, []),
  (25, .iinc 3 1, 28, 3, 0, 0, 0, 0, 1, 0, []),
  (28, .goto (-22), 31, 6, 0, 0, 0, 0, 0, 0, []),
  (31, .iconst 0, 32, 0, 0, 0, 0, 0, 0, 0, [])],
 [(32, .istore_n 3, 33, 3, 0, 0, 0, 0, 0, 0, []),
  (33, .iload_n 3, 34, 3, 0, 0, 0, 0, 0, 0, []),
  (34, .aload_n 0, 35, 0, 0, 0, 0, 0, 0, 0, []),
  (35, .getfield 106, 38, 0, 5, 0, 0, 114, 0, 0, []),
  (38, .if_icmp .ge 52, 41, 90, 0, 0, 0, 0, 0, 0, []),
  (41, .iconst 0, 42, 0, 0, 0, 0, 0, 0, 0, []),
  (42, .istore 4, 44, 4, 0, 0, 0, 0, 0, 0, []),
  (44, .iload 4, 46, 4, 0, 0, 0, 0, 0, 0, []),
  (46, .bipush 16, 48, 0, 0, 0, 0, 0, 16, 0, [])],
 [(48, .if_icmp .gt 24, 51, 72, 0, 0, 0, 0, 0, 0, []),
  (51, .ldc2_w 238, 54, 0, 0, 0, 0, 649, 0, 31, []),
  (54, .lload_n 1, 55, 1, 0, 0, 0, 0, 0, 0, []),
  (55, .lmul, 56, 0, 0, 0, 0, 0, 0, 0, []),
  (56, .aload_n 0, 57, 0, 0, 0, 0, 0, 0, 0, []),
  (57, .iload_n 3, 58, 3, 0, 0, 0, 0, 0, 0, []),
  (58, .iload 4, 60, 4, 0, 0, 0, 0, 0, 0, []),
  (60, .invokevirtual 243, 63, 75, 3, 1, 0, 651, 0, 0, [0, 0]),
  (63, .i2l, 64, 0, 0, 0, 0, 0, 0, 0, [])],
 [(64, .ladd, 65, 0, 0, 0, 0, 0, 0, 0, []),
  (65, .lstore_n 1, 66, 1, 0, 0, 0, 0, 0, 0, []),
  (66, .iinc 4 1, 69, 4, 0, 0, 0, 0, 1, 0, []),
  (69, .goto (-25), 72, 44, 0, 0, 0, 0, 0, 0, []),
  (72, .ldc2_w 238, 75, 0, 0, 0, 0, 649, 0, 31, []),
  (75, .lload_n 1, 76, 1, 0, 0, 0, 0, 0, 0, []),
  (76, .lmul, 77, 0, 0, 0, 0, 0, 0, 0, []),
  (77, .aload_n 0, 78, 0, 0, 0, 0, 0, 0, 0, []),
  (78, .iload_n 3, 79, 3, 0, 0, 0, 0, 0, 0, []),
  (79, .invokevirtual 246, 82, 76, 2, 2, 0, 652, 0, 0, [0, 0])],
 [(82, .ladd, 83, 0, 0, 0, 0, 0, 0, 0, []),
  (83, .lstore_n 1, 84, 1, 0, 0, 0, 0, 0, 0, []),
  (84, .iinc 3 1, 87, 3, 0, 0, 0, 0, 1, 0, []),
  (87, .goto (-54), 90, 33, 0, 0, 0, 0, 0, 0, []),
  (90, .iconst 0, 91, 0, 0, 0, 0, 0, 0, 0, []),
  (91, .istore_n 3, 92, 3, 0, 0, 0, 0, 0, 0, []),
  (92, .iload_n 3, 93, 3, 0, 0, 0, 0, 0, 0, []),
  (93, .aload_n 0, 94, 0, 0, 0, 0, 0, 0, 0, []),
  (94, .getfield 10, 97, 0, 0, 4, 1, 109, 0, 0, [])],
 [(97, .getfield 40, 100, 1, 1, 0, 0, 76, 0, 0, []),
  (100, .if_icmp .ge 25, 103, 125, 0, 0, 0, 0, 0, 0, []),
  (103, .ldc2_w 238, 106, 0, 0, 0, 0, 649, 0, 31, []),
  (106, .lload_n 1, 107, 1, 0, 0, 0, 0, 0, 0, []),
  (107, .lmul, 108, 0, 0, 0, 0, 0, 0, 0, []),
  (108, .aload_n 0, 109, 0, 0, 0, 0, 0, 0, 0, []),
  (109, .getfield 10, 112, 0, 0, 4, 1, 109, 0, 0, [])],
 [(112, .iload_n 3, 113, 3, 0, 0, 0, 0, 0, 0, []),
  (113, .invokevirtual 51, 116, 28, 2, 1, 0, 169, 0, 0, [0, 0]),
  (116, .i2l, 117, 0, 0, 0, 0, 0, 0, 0, []),
  (117, .ladd, 118, 0, 0, 0, 0, 0, 0, 0, []),
  (118, .lstore_n 1, 119, 1, 0, 0, 0, 0, 0, 0, []),
  (119, .iinc 3 1, 122, 3, 0, 0, 0, 0, 1, 0, []),
  (122, .goto (-30), 125, 92, 0, 0, 0, 0, 0, 0, []),
  (125, .lload_n 1, 126, 1, 0, 0, 0, 0, 0, 0, []),
  (126, .lreturn, 127, 0, 0, 0, 0, 0, 0, 0, [])]]
def cd_X9_init : List (List sd_I) := [[(0, .aload_n 0, 1, 0, 0, 0, 0, 0, 0, 0, []),
  (1, .invokespecial 1, 4, 0, 0, 0, 3, 658, 0, 0, []),
  (4, .aload_n 0, 5, 0, 0, 0, 0, 0, 0, 0, []),
  (5, .bipush 100, 7, 0, 0, 0, 0, 0, 100, 0, []),
  (7, .putfield 7, 10, 7, 1, 0, 0, 660, 0, 0, []),
  (10, .aload_n 0, 11, 0, 0, 0, 0, 0, 0, 0, []),
  (11, .sipush 300, 14, 0, 0, 0, 0, 0, 300, 0, []),
  (14, .newarray .int, 16, 19, 300, 0, 0, 82, 0, 0, [])],
 [(16, .putfield 13, 19, 7, 3, 22, 1, 662, 0, 0, []),
  (19, .aload_n 0, 20, 0, 0, 0, 0, 0, 0, 0, []),
  (20, .sipush 128, 23, 0, 0, 0, 0, 0, 128, 0, []),
  (23, .newarray .int, 25, 20, 128, 0, 0, 82, 0, 0, []),
  (25, .putfield 17, 28, 7, 4, 23, 1, 663, 0, 0, []),
  (28, .aload_n 0, 29, 0, 0, 0, 0, 0, 0, 0, []),
  (29, .bipush 6, 31, 0, 0, 0, 0, 0, 6, 0, []),
  (31, .newarray .int, 33, 21, 6, 0, 0, 82, 0, 0, [])],
 [(33, .putfield 20, 36, 7, 9, 24, 1, 668, 0, 0, []),
  (36, .aload_n 0, 37, 0, 0, 0, 0, 0, 0, 0, []),
  (37, .bipush 6, 39, 0, 0, 0, 0, 0, 6, 0, []),
  (39, .newarray .int, 41, 22, 6, 0, 0, 82, 0, 0, []),
  (41, .putfield 23, 44, 7, 10, 25, 1, 669, 0, 0, []),
  (44, .aload_n 0, 45, 0, 0, 0, 0, 0, 0, 0, []),
  (45, .bipush 6, 47, 0, 0, 0, 0, 0, 6, 0, []),
  (47, .newarray .int, 49, 23, 6, 0, 0, 82, 0, 0, [])],
 [(49, .putfield 26, 52, 7, 11, 26, 1, 670, 0, 0, []),
  (52, .aload_n 0, 53, 0, 0, 0, 0, 0, 0, 0, []),
  (53, .bipush 6, 55, 0, 0, 0, 0, 0, 6, 0, []),
  (55, .newarray .int, 57, 24, 6, 0, 0, 82, 0, 0, []),
  (57, .putfield 29, 60, 7, 12, 27, 1, 671, 0, 0, []),
  (60, .aload_n 0, 61, 0, 0, 0, 0, 0, 0, 0, []),
  (61, .bipush 6, 63, 0, 0, 0, 0, 0, 6, 0, []),
  (63, .newarray .int, 65, 25, 6, 0, 0, 82, 0, 0, [])],
 [(65, .putfield 32, 68, 7, 13, 28, 1, 672, 0, 0, []),
  (68, .aload_n 0, 69, 0, 0, 0, 0, 0, 0, 0, []),
  (69, .bipush 6, 71, 0, 0, 0, 0, 0, 6, 0, []),
  (71, .newarray .int, 73, 26, 6, 0, 0, 82, 0, 0, []),
  (73, .putfield 35, 76, 7, 14, 29, 1, 673, 0, 0, []),
  (76, .aload_n 0, 77, 0, 0, 0, 0, 0, 0, 0, []),
  (77, .bipush 6, 79, 0, 0, 0, 0, 0, 6, 0, []),
  (79, .newarray .int, 81, 27, 6, 0, 0, 82, 0, 0, [])],
 [(81, .putfield 38, 84, 7, 15, 30, 1, 674, 0, 0, []),
  (84, .aload_n 0, 85, 0, 0, 0, 0, 0, 0, 0, []),
  (85, .bipush 6, 87, 0, 0, 0, 0, 0, 6, 0, []),
  (87, .newarray .int, 89, 28, 6, 0, 0, 82, 0, 0, []),
  (89, .putfield 41, 92, 7, 16, 31, 1, 675, 0, 0, []),
  (92, .aload_n 0, 93, 0, 0, 0, 0, 0, 0, 0, []),
  (93, .bipush 6, 95, 0, 0, 0, 0, 0, 6, 0, []),
  (95, .newarray .int, 97, 29, 6, 0, 0, 82, 0, 0, [])],
 [(97, .putfield 44, 100, 7, 17, 32, 1, 676, 0, 0, []),
  (100, .aload_n 0, 101, 0, 0, 0, 0, 0, 0, 0, []),
  (101, .bipush 6, 103, 0, 0, 0, 0, 0, 6, 0, []),
  (103, .newarray .boolean, 105, 30, 6, 0, 0, 282, 0, 0, []),
  (105, .putfield 47, 108, 7, 18, 33, 1, 677, 0, 0, []),
  (108, .aload_n 0, 109, 0, 0, 0, 0, 0, 0, 0, []),
  (109, .bipush 6, 111, 0, 0, 0, 0, 0, 6, 0, []),
  (111, .newarray .int, 113, 31, 6, 0, 0, 82, 0, 0, [])],
 [(113, .putfield 51, 116, 7, 19, 34, 1, 678, 0, 0, []),
  (116, .aload_n 0, 117, 0, 0, 0, 0, 0, 0, 0, []),
  (117, .bipush 6, 119, 0, 0, 0, 0, 0, 6, 0, []),
  (119, .newarray .int, 121, 32, 6, 0, 0, 82, 0, 0, []),
  (121, .putfield 54, 124, 7, 20, 35, 1, 679, 0, 0, []),
  (124, .aload_n 0, 125, 0, 0, 0, 0, 0, 0, 0, []),
  (125, .bipush 6, 127, 0, 0, 0, 0, 0, 6, 0, []),
  (127, .newarray .boolean, 129, 33, 6, 0, 0, 282, 0, 0, [])],
 [(129, .putfield 57, 132, 7, 21, 36, 1, 680, 0, 0, []),
  (132, .aload_n 0, 133, 0, 0, 0, 0, 0, 0, 0, []),
  (133, .bipush 6, 135, 0, 0, 0, 0, 0, 6, 0, []),
  (135, .newarray .boolean, 137, 34, 6, 0, 0, 282, 0, 0, []),
  (137, .putfield 60, 140, 7, 22, 37, 1, 681, 0, 0, []),
  (140, .aload_n 0, 141, 0, 0, 0, 0, 0, 0, 0, []),
  (141, .bipush 6, 143, 0, 0, 0, 0, 0, 6, 0, []),
  (143, .newarray .int, 145, 35, 6, 0, 0, 82, 0, 0, [])],
 [(145, .putfield 63, 148, 7, 23, 38, 1, 682, 0, 0, []),
  (148, .aload_n 0, 149, 0, 0, 0, 0, 0, 0, 0, []),
  (149, .bipush 6, 151, 0, 0, 0, 0, 0, 6, 0, []),
  (151, .newarray .int, 153, 36, 6, 0, 0, 82, 0, 0, []),
  (153, .putfield 66, 156, 7, 24, 39, 1, 683, 0, 0, []),
  (156, .aload_n 0, 157, 0, 0, 0, 0, 0, 0, 0, []),
  (157, .bipush 6, 159, 0, 0, 0, 0, 0, 6, 0, []),
  (159, .newarray .boolean, 161, 37, 6, 0, 0, 282, 0, 0, [])],
 [(161, .putfield 69, 164, 7, 25, 40, 1, 684, 0, 0, []),
  (164, .aload_n 0, 165, 0, 0, 0, 0, 0, 0, 0, []),
  (165, .bipush 6, 167, 0, 0, 0, 0, 0, 6, 0, []),
  (167, .newarray .long, 169, 38, 6, 0, 0, 106, 0, 0, []),
  (169, .putfield 72, 172, 7, 26, 41, 1, 685, 0, 0, []),
  (172, .aload_n 0, 173, 0, 0, 0, 0, 0, 0, 0, []),
  (173, .bipush 6, 175, 0, 0, 0, 0, 0, 6, 0, []),
  (175, .newarray .long, 177, 39, 6, 0, 0, 106, 0, 0, [])],
 [(177, .putfield 76, 180, 7, 27, 42, 1, 686, 0, 0, []),
  (180, .aload_n 0, 181, 0, 0, 0, 0, 0, 0, 0, []),
  (181, .bipush 6, 183, 0, 0, 0, 0, 0, 6, 0, []),
  (183, .newarray .int, 185, 40, 6, 0, 0, 82, 0, 0, []),
  (185, .putfield 79, 188, 7, 28, 43, 1, 687, 0, 0, []),
  (188, .aload_n 0, 189, 0, 0, 0, 0, 0, 0, 0, []),
  (189, .sipush 192, 192, 0, 0, 0, 0, 0, 192, 0, [])],
 [(192, .newarray .boolean, 194, 41, 192, 0, 0, 282, 0, 0, []),
  (194, .putfield 82, 197, 7, 29, 44, 1, 688, 0, 0, []),
  (197, .aload_n 0, 198, 0, 0, 0, 0, 0, 0, 0, []),
  (198, .sipush 192, 201, 0, 0, 0, 0, 0, 192, 0, []),
  (201, .newarray .long, 203, 42, 192, 0, 0, 106, 0, 0, []),
  (203, .putfield 85, 206, 7, 30, 45, 1, 689, 0, 0, []),
  (206, .aload_n 0, 207, 0, 0, 0, 0, 0, 0, 0, []),
  (207, .bipush 36, 209, 0, 0, 0, 0, 0, 36, 0, [])],
 [(209, .newarray .int, 211, 43, 36, 0, 0, 82, 0, 0, []),
  (211, .putfield 88, 214, 7, 31, 46, 1, 690, 0, 0, []),
  (214, .aload_n 0, 215, 0, 0, 0, 0, 0, 0, 0, []),
  (215, .sipush 256, 218, 0, 0, 0, 0, 0, 256, 0, []),
  (218, .newarray .long, 220, 44, 256, 0, 0, 106, 0, 0, []),
  (220, .putfield 91, 223, 7, 36, 47, 1, 695, 0, 0, []),
  (223, .aload_n 0, 224, 0, 0, 0, 0, 0, 0, 0, [])],
 [(224, .bipush 7, 226, 0, 0, 0, 0, 0, 7, 0, []),
  (226, .newarray .int, 228, 45, 7, 0, 0, 82, 0, 0, []),
  (228, .putfield 94, 231, 7, 40, 48, 1, 699, 0, 0, []),
  (231, .return_, 232, 0, 0, 0, 0, 0, 0, 0, [])]]
def cd_X9_in : List (List sd_I) := [[(0, .lload_n 0, 1, 0, 0, 0, 0, 0, 0, 0, []),
  (1, .lload_n 2, 2, 2, 0, 0, 0, 0, 0, 0, []),
  (2, .lcmp, 3, 0, 0, 0, 0, 0, 0, 0, []),
  (3, .ifCond .lt 14, 6, 17, 0, 0, 0, 0, 0, 0, []),
  (6, .lload_n 0, 7, 0, 0, 0, 0, 0, 0, 0, []),
  (7, .lload 4, 9, 4, 0, 0, 0, 0, 0, 0, []),
  (9, .lcmp, 10, 0, 0, 0, 0, 0, 0, 0, []),
  (10, .ifCond .gt 7, 13, 17, 0, 0, 0, 0, 0, 0, []),
  (13, .iconst 1, 14, 0, 0, 0, 0, 0, 1, 0, []),
  (14, .goto 4, 17, 18, 0, 0, 0, 0, 0, 0, [])],
 [(17, .iconst 0, 18, 0, 0, 0, 0, 0, 0, 0, []),
  (18, .ireturn, 19, 0, 0, 0, 0, 0, 0, 0, [])]]
def cd_X9_put : List (List sd_I) := [[(0, .aload_n 0, 1, 0, 0, 0, 0, 0, 0, 0, []),
  (1, .getfield 13, 4, 7, 3, 22, 1, 662, 0, 0, []),
  (4, .aload_n 0, 5, 0, 0, 0, 0, 0, 0, 0, []),
  (5, .getfield 97, 8, 7, 2, 0, 0, 661, 0, 0, []),
  (8, .iload_n 1, 9, 1, 0, 0, 0, 0, 0, 0, []),
  (9, .sipush 255, 12, 0, 0, 0, 0, 0, 255, 0, []),
  (12, .iand, 13, 0, 0, 0, 0, 0, 0, 0, []),
  (13, .iastore, 14, 0, 0, 0, 0, 0, 0, 0, []),
  (14, .aload_n 0, 15, 0, 0, 0, 0, 0, 0, 0, []),
  (15, .dup, 16, 0, 0, 0, 0, 0, 0, 0, [])],
 [(16, .getfield 97, 19, 7, 2, 0, 0, 661, 0, 0, []),
  (19, .iconst 1, 20, 0, 0, 0, 0, 0, 1, 0, []),
  (20, .iadd, 21, 0, 0, 0, 0, 0, 0, 0, []),
  (21, .putfield 97, 24, 7, 2, 0, 0, 661, 0, 0, []),
  (24, .return_, 25, 0, 0, 0, 0, 0, 0, 0, [])]]
def cd_X9_putAll : List (List sd_I) := [[(0, .iload_n 2, 1, 2, 0, 0, 0, 0, 0, 0, []),
  (1, .iconst 1, 2, 0, 0, 0, 0, 0, 1, 0, []),
  (2, .isub, 3, 0, 0, 0, 0, 0, 0, 0, []),
  (3, .istore_n 3, 4, 3, 0, 0, 0, 0, 0, 0, []),
  (4, .iload_n 3, 5, 3, 0, 0, 0, 0, 0, 0, []),
  (5, .ifCond .lt 19, 8, 24, 0, 0, 0, 0, 0, 0, []),
  (8, .aload_n 0, 9, 0, 0, 0, 0, 0, 0, 0, []),
  (9, .iload_n 1, 10, 1, 0, 0, 0, 0, 0, 0, []),
  (10, .bipush 8, 12, 0, 0, 0, 0, 0, 8, 0, []),
  (12, .iload_n 3, 13, 3, 0, 0, 0, 0, 0, 0, []),
  (13, .imul, 14, 0, 0, 0, 0, 0, 0, 0, []),
  (14, .ishr, 15, 0, 0, 0, 0, 0, 0, 0, []),
  (15, .invokevirtual 100, 18, 92, 2, 0, 0, 791, 0, 0, [0, 0])],
 [(18, .iinc 3 (-1), 21, 3, 0, 0, 0, 0, (-1), 0, []),
  (21, .goto (-17), 24, 4, 0, 0, 0, 0, 0, 0, []),
  (24, .return_, 25, 0, 0, 0, 0, 0, 0, 0, [])]]
def cd_X9_type : List (List sd_I) := [[(0, .iload_n 3, 1, 3, 0, 0, 0, 0, 0, 0, []),
  (1, .i2l, 2, 0, 0, 0, 0, 0, 0, 0, []),
  (2, .lconst 0, 3, 0, 0, 0, 0, 0, 0, 0, []),
  (3, .ldc2_w 104, 6, 0, 0, 0, 0, 787, 0, 8, []),
  (6, .invokestatic 106, 9, 91, 3, 1, 1, 788, 0, 0, [0, 0]),
  (9, .ifCond .ne 6, 12, 15, 0, 0, 0, 0, 0, 0, []),
  (12, .bipush (-2), 14, 0, 0, 0, 0, 0, (-2), 0, []),
  (14, .ireturn, 15, 0, 0, 0, 0, 0, 0, 0, []),
  (15, .aload_n 0, 16, 0, 0, 0, 0, 0, 0, 0, [])],
 [(16, .getfield 97, 19, 7, 2, 0, 0, 661, 0, 0, []),
  (19, .iload_n 3, 20, 3, 0, 0, 0, 0, 0, 0, []),
  (20, .iadd, 21, 0, 0, 0, 0, 0, 0, 0, []),
  (21, .sipush 300, 24, 0, 0, 0, 0, 0, 300, 0, []),
  (24, .if_icmp .le 6, 27, 30, 0, 0, 0, 0, 0, 0, []),
  (27, .bipush (-3), 29, 0, 0, 0, 0, 0, (-3), 0, []),
  (29, .ireturn, 30, 0, 0, 0, 0, 0, 0, 0, []),
  (30, .iload_n 3, 31, 3, 0, 0, 0, 0, 0, 0, []),
  (31, .iconst 1, 32, 0, 0, 0, 0, 0, 1, 0, [])],
 [(32, .isub, 33, 0, 0, 0, 0, 0, 0, 0, []),
  (33, .istore 4, 35, 4, 0, 0, 0, 0, 0, 0, []),
  (35, .iload 4, 37, 4, 0, 0, 0, 0, 0, 0, []),
  (37, .ifCond .lt 21, 40, 58, 0, 0, 0, 0, 0, 0, []),
  (40, .aload_n 0, 41, 0, 0, 0, 0, 0, 0, 0, []),
  (41, .lload_n 1, 42, 1, 0, 0, 0, 0, 0, 0, []),
  (42, .bipush 8, 44, 0, 0, 0, 0, 0, 8, 0, []),
  (44, .iload 4, 46, 4, 0, 0, 0, 0, 0, 0, []),
  (46, .imul, 47, 0, 0, 0, 0, 0, 0, 0, []),
  (47, .lshr, 48, 0, 0, 0, 0, 0, 0, 0, [])],
 [(48, .l2i, 49, 0, 0, 0, 0, 0, 0, 0, []),
  (49, .invokevirtual 100, 52, 92, 2, 0, 0, 791, 0, 0, [0, 0]),
  (52, .iinc 4 (-1), 55, 4, 0, 0, 0, 0, (-1), 0, []),
  (55, .goto (-20), 58, 35, 0, 0, 0, 0, 0, 0, []),
  (58, .aload_n 0, 59, 0, 0, 0, 0, 0, 0, 0, []),
  (59, .getfield 97, 62, 7, 2, 0, 0, 661, 0, 0, []),
  (62, .ireturn, 63, 0, 0, 0, 0, 0, 0, 0, [])]]
def cd_X9_clear : List (List sd_I) := [[(0, .aload_n 0, 1, 0, 0, 0, 0, 0, 0, 0, []),
  (1, .getfield 97, 4, 7, 2, 0, 0, 661, 0, 0, []),
  (4, .istore_n 1, 5, 1, 0, 0, 0, 0, 0, 0, []),
  (5, .aload_n 0, 6, 0, 0, 0, 0, 0, 0, 0, []),
  (6, .iconst 0, 7, 0, 0, 0, 0, 0, 0, 0, []),
  (7, .putfield 97, 10, 7, 2, 0, 0, 661, 0, 0, []),
  (10, .iload_n 1, 11, 1, 0, 0, 0, 0, 0, 0, []),
  (11, .ireturn, 12, 0, 0, 0, 0, 0, 0, 0, [])]]
def cd_X9_alter : List (List sd_I) := [[(0, .iload_n 1, 1, 1, 0, 0, 0, 0, 0, 0, []),
  (1, .i2l, 2, 0, 0, 0, 0, 0, 0, 0, []),
  (2, .lconst 0, 3, 0, 0, 0, 0, 0, 0, 0, []),
  (3, .aload_n 0, 4, 0, 0, 0, 0, 0, 0, 0, []),
  (4, .getfield 97, 7, 7, 2, 0, 0, 661, 0, 0, []),
  (7, .iconst 1, 8, 0, 0, 0, 0, 0, 1, 0, []),
  (8, .isub, 9, 0, 0, 0, 0, 0, 0, 0, []),
  (9, .i2l, 10, 0, 0, 0, 0, 0, 0, 0, []),
  (10, .invokestatic 106, 13, 91, 3, 1, 1, 788, 0, 0, [0, 0]),
  (13, .ifCond .eq 15, 16, 28, 0, 0, 0, 0, 0, 0, [])],
 [(16, .iload_n 2, 17, 2, 0, 0, 0, 0, 0, 0, []),
  (17, .i2l, 18, 0, 0, 0, 0, 0, 0, 0, []),
  (18, .lconst 0, 19, 0, 0, 0, 0, 0, 0, 0, []),
  (19, .ldc2_w 110, 22, 0, 0, 0, 0, 803, 0, 255, []),
  (22, .invokestatic 106, 25, 91, 3, 1, 1, 788, 0, 0, [0, 0]),
  (25, .ifCond .ne 6, 28, 31, 0, 0, 0, 0, 0, 0, []),
  (28, .bipush (-2), 30, 0, 0, 0, 0, 0, (-2), 0, []),
  (30, .ireturn, 31, 0, 0, 0, 0, 0, 0, 0, []),
  (31, .aload_n 0, 32, 0, 0, 0, 0, 0, 0, 0, [])],
 [(32, .getfield 13, 35, 7, 3, 22, 1, 662, 0, 0, []),
  (35, .iload_n 1, 36, 1, 0, 0, 0, 0, 0, 0, []),
  (36, .iaload, 37, 0, 0, 0, 0, 0, 0, 0, []),
  (37, .istore_n 3, 38, 3, 0, 0, 0, 0, 0, 0, []),
  (38, .aload_n 0, 39, 0, 0, 0, 0, 0, 0, 0, []),
  (39, .getfield 13, 42, 7, 3, 22, 1, 662, 0, 0, []),
  (42, .iload_n 1, 43, 1, 0, 0, 0, 0, 0, 0, []),
  (43, .iload_n 2, 44, 2, 0, 0, 0, 0, 0, 0, []),
  (44, .iastore, 45, 0, 0, 0, 0, 0, 0, 0, []),
  (45, .iload_n 3, 46, 3, 0, 0, 0, 0, 0, 0, []),
  (46, .ireturn, 47, 0, 0, 0, 0, 0, 0, 0, [])]]
def cd_X9_at : List (List sd_I) := [[(0, .iload_n 1, 1, 1, 0, 0, 0, 0, 0, 0, []),
  (1, .i2l, 2, 0, 0, 0, 0, 0, 0, 0, []),
  (2, .lconst 0, 3, 0, 0, 0, 0, 0, 0, 0, []),
  (3, .aload_n 0, 4, 0, 0, 0, 0, 0, 0, 0, []),
  (4, .getfield 97, 7, 7, 2, 0, 0, 661, 0, 0, []),
  (7, .iconst 1, 8, 0, 0, 0, 0, 0, 1, 0, []),
  (8, .isub, 9, 0, 0, 0, 0, 0, 0, 0, []),
  (9, .i2l, 10, 0, 0, 0, 0, 0, 0, 0, []),
  (10, .invokestatic 106, 13, 91, 3, 1, 1, 788, 0, 0, [0, 0]),
  (13, .ifCond .eq 12, 16, 25, 0, 0, 0, 0, 0, 0, [])],
 [(16, .aload_n 0, 17, 0, 0, 0, 0, 0, 0, 0, []),
  (17, .getfield 13, 20, 7, 3, 22, 1, 662, 0, 0, []),
  (20, .iload_n 1, 21, 1, 0, 0, 0, 0, 0, 0, []),
  (21, .iaload, 22, 0, 0, 0, 0, 0, 0, 0, []),
  (22, .goto 5, 25, 27, 0, 0, 0, 0, 0, 0, []),
  (25, .bipush (-2), 27, 0, 0, 0, 0, 0, (-2), 0, []),
  (27, .ireturn, 28, 0, 0, 0, 0, 0, 0, 0, [])]]
def cd_X9_rate : List (List sd_I) := [[(0, .iload_n 1, 1, 1, 0, 0, 0, 0, 0, 0, []),
  (1, .i2l, 2, 0, 0, 0, 0, 0, 0, 0, []),
  (2, .lconst 0, 3, 0, 0, 0, 0, 0, 0, 0, []),
  (3, .ldc2_w 112, 6, 0, 0, 0, 0, 812, 0, 127, []),
  (6, .invokestatic 106, 9, 91, 3, 1, 1, 788, 0, 0, [0, 0]),
  (9, .ifCond .eq 15, 12, 24, 0, 0, 0, 0, 0, 0, []),
  (12, .iload_n 2, 13, 2, 0, 0, 0, 0, 0, 0, []),
  (13, .i2l, 14, 0, 0, 0, 0, 0, 0, 0, []),
  (14, .lconst 0, 15, 0, 0, 0, 0, 0, 0, 0, []),
  (15, .ldc2_w 114, 18, 0, 0, 0, 0, 813, 0, 200000, [])],
 [(18, .invokestatic 106, 21, 91, 3, 1, 1, 788, 0, 0, [0, 0]),
  (21, .ifCond .ne 6, 24, 27, 0, 0, 0, 0, 0, 0, []),
  (24, .bipush (-2), 26, 0, 0, 0, 0, 0, (-2), 0, []),
  (26, .ireturn, 27, 0, 0, 0, 0, 0, 0, 0, []),
  (27, .aload_n 0, 28, 0, 0, 0, 0, 0, 0, 0, []),
  (28, .getfield 17, 31, 7, 4, 23, 1, 663, 0, 0, []),
  (31, .iload_n 1, 32, 1, 0, 0, 0, 0, 0, 0, [])],
 [(32, .iaload, 33, 0, 0, 0, 0, 0, 0, 0, []),
  (33, .istore_n 3, 34, 3, 0, 0, 0, 0, 0, 0, []),
  (34, .aload_n 0, 35, 0, 0, 0, 0, 0, 0, 0, []),
  (35, .getfield 17, 38, 7, 4, 23, 1, 663, 0, 0, []),
  (38, .iload_n 1, 39, 1, 0, 0, 0, 0, 0, 0, []),
  (39, .iload_n 2, 40, 2, 0, 0, 0, 0, 0, 0, []),
  (40, .iastore, 41, 0, 0, 0, 0, 0, 0, 0, []),
  (41, .iload_n 3, 42, 3, 0, 0, 0, 0, 0, 0, []),
  (42, .ireturn, 43, 0, 0, 0, 0, 0, 0, 0, [])]]
def cd_X9_two : List (List sd_I) := [[(0, .sipush 256, 3, 0, 0, 0, 0, 0, 256, 0, []),
  (3, .aload_n 0, 4, 0, 0, 0, 0, 0, 0, 0, []),
  (4, .getfield 13, 7, 7, 3, 22, 1, 662, 0, 0, []),
  (7, .iload_n 1, 8, 1, 0, 0, 0, 0, 0, 0, []),
  (8, .iaload, 9, 0, 0, 0, 0, 0, 0, 0, []),
  (9, .imul, 10, 0, 0, 0, 0, 0, 0, 0, []),
  (10, .aload_n 0, 11, 0, 0, 0, 0, 0, 0, 0, []),
  (11, .getfield 13, 14, 7, 3, 22, 1, 662, 0, 0, []),
  (14, .iload_n 1, 15, 1, 0, 0, 0, 0, 0, 0, []),
  (15, .iconst 1, 16, 0, 0, 0, 0, 0, 1, 0, [])],
 [(16, .iadd, 17, 0, 0, 0, 0, 0, 0, 0, []),
  (17, .iaload, 18, 0, 0, 0, 0, 0, 0, 0, []),
  (18, .iadd, 19, 0, 0, 0, 0, 0, 0, 0, []),
  (19, .ireturn, 20, 0, 0, 0, 0, 0, 0, 0, [])]]
def cd_X9_four : List (List sd_I) := [[(0, .aload_n 0, 1, 0, 0, 0, 0, 0, 0, 0, []),
  (1, .getfield 13, 4, 7, 3, 22, 1, 662, 0, 0, []),
  (4, .iload_n 1, 5, 1, 0, 0, 0, 0, 0, 0, []),
  (5, .iaload, 6, 0, 0, 0, 0, 0, 0, 0, []),
  (6, .bipush 24, 8, 0, 0, 0, 0, 0, 24, 0, []),
  (8, .ishl, 9, 0, 0, 0, 0, 0, 0, 0, []),
  (9, .aload_n 0, 10, 0, 0, 0, 0, 0, 0, 0, []),
  (10, .getfield 13, 13, 7, 3, 22, 1, 662, 0, 0, []),
  (13, .iload_n 1, 14, 1, 0, 0, 0, 0, 0, 0, []),
  (14, .iconst 1, 15, 0, 0, 0, 0, 0, 1, 0, []),
  (15, .iadd, 16, 0, 0, 0, 0, 0, 0, 0, [])],
 [(16, .iaload, 17, 0, 0, 0, 0, 0, 0, 0, []),
  (17, .bipush 16, 19, 0, 0, 0, 0, 0, 16, 0, []),
  (19, .ishl, 20, 0, 0, 0, 0, 0, 0, 0, []),
  (20, .ior, 21, 0, 0, 0, 0, 0, 0, 0, []),
  (21, .aload_n 0, 22, 0, 0, 0, 0, 0, 0, 0, []),
  (22, .getfield 13, 25, 7, 3, 22, 1, 662, 0, 0, []),
  (25, .iload_n 1, 26, 1, 0, 0, 0, 0, 0, 0, []),
  (26, .iconst 2, 27, 0, 0, 0, 0, 0, 2, 0, []),
  (27, .iadd, 28, 0, 0, 0, 0, 0, 0, 0, []),
  (28, .iaload, 29, 0, 0, 0, 0, 0, 0, 0, []),
  (29, .bipush 8, 31, 0, 0, 0, 0, 0, 8, 0, []),
  (31, .ishl, 32, 0, 0, 0, 0, 0, 0, 0, [])],
 [(32, .ior, 33, 0, 0, 0, 0, 0, 0, 0, []),
  (33, .aload_n 0, 34, 0, 0, 0, 0, 0, 0, 0, []),
  (34, .getfield 13, 37, 7, 3, 22, 1, 662, 0, 0, []),
  (37, .iload_n 1, 38, 1, 0, 0, 0, 0, 0, 0, []),
  (38, .iconst 3, 39, 0, 0, 0, 0, 0, 3, 0, []),
  (39, .iadd, 40, 0, 0, 0, 0, 0, 0, 0, []),
  (40, .iaload, 41, 0, 0, 0, 0, 0, 0, 0, []),
  (41, .ior, 42, 0, 0, 0, 0, 0, 0, 0, []),
  (42, .ireturn, 43, 0, 0, 0, 0, 0, 0, 0, [])]]
def cd_X9_formOf : List (List sd_I) := [[(0, .aload_n 0, 1, 0, 0, 0, 0, 0, 0, 0, []),
  (1, .getfield 97, 4, 7, 2, 0, 0, 661, 0, 0, []),
  (4, .bipush 12, 6, 0, 0, 0, 0, 0, 12, 0, []),
  (6, .if_icmp .ge 5, 9, 11, 0, 0, 0, 0, 0, 0, []),
  (9, .iconst 1, 10, 0, 0, 0, 0, 0, 1, 0, []),
  (10, .ireturn, 11, 0, 0, 0, 0, 0, 0, 0, []),
  (11, .aload_n 0, 12, 0, 0, 0, 0, 0, 0, 0, []),
  (12, .getfield 13, 15, 7, 3, 22, 1, 662, 0, 0, []),
  (15, .iconst 0, 16, 0, 0, 0, 0, 0, 0, 0, [])],
 [(16, .iaload, 17, 0, 0, 0, 0, 0, 0, 0, []),
  (17, .bipush 6, 19, 0, 0, 0, 0, 0, 6, 0, []),
  (19, .ishr, 20, 0, 0, 0, 0, 0, 0, 0, []),
  (20, .iconst 2, 21, 0, 0, 0, 0, 0, 2, 0, []),
  (21, .if_icmp .eq 5, 24, 26, 0, 0, 0, 0, 0, 0, []),
  (24, .iconst 2, 25, 0, 0, 0, 0, 0, 2, 0, []),
  (25, .ireturn, 26, 0, 0, 0, 0, 0, 0, 0, []),
  (26, .aload_n 0, 27, 0, 0, 0, 0, 0, 0, 0, []),
  (27, .bipush 12, 29, 0, 0, 0, 0, 0, 12, 0, []),
  (29, .iconst 4, 30, 0, 0, 0, 0, 0, 4, 0, []),
  (30, .aload_n 0, 31, 0, 0, 0, 0, 0, 0, 0, []),
  (31, .getfield 13, 34, 7, 3, 22, 1, 662, 0, 0, [])],
 [(34, .iconst 0, 35, 0, 0, 0, 0, 0, 0, 0, []),
  (35, .iaload, 36, 0, 0, 0, 0, 0, 0, 0, []),
  (36, .bipush 15, 38, 0, 0, 0, 0, 0, 15, 0, []),
  (38, .iand, 39, 0, 0, 0, 0, 0, 0, 0, []),
  (39, .imul, 40, 0, 0, 0, 0, 0, 0, 0, []),
  (40, .iadd, 41, 0, 0, 0, 0, 0, 0, 0, []),
  (41, .putfield 116, 44, 7, 5, 0, 0, 664, 0, 0, []),
  (44, .aload_n 0, 45, 0, 0, 0, 0, 0, 0, 0, []),
  (45, .iconst 0, 46, 0, 0, 0, 0, 0, 0, 0, []),
  (46, .putfield 119, 49, 7, 7, 0, 0, 666, 0, 0, [])],
 [(49, .aload_n 0, 50, 0, 0, 0, 0, 0, 0, 0, []),
  (50, .getfield 116, 53, 7, 5, 0, 0, 664, 0, 0, []),
  (53, .aload_n 0, 54, 0, 0, 0, 0, 0, 0, 0, []),
  (54, .getfield 97, 57, 7, 2, 0, 0, 661, 0, 0, []),
  (57, .if_icmp .le 5, 60, 62, 0, 0, 0, 0, 0, 0, []),
  (60, .iconst 3, 61, 0, 0, 0, 0, 0, 3, 0, []),
  (61, .ireturn, 62, 0, 0, 0, 0, 0, 0, 0, []),
  (62, .aload_n 0, 63, 0, 0, 0, 0, 0, 0, 0, []),
  (63, .getfield 13, 66, 7, 3, 22, 1, 662, 0, 0, [])],
 [(66, .iconst 0, 67, 0, 0, 0, 0, 0, 0, 0, []),
  (67, .iaload, 68, 0, 0, 0, 0, 0, 0, 0, []),
  (68, .iconst 4, 69, 0, 0, 0, 0, 0, 4, 0, []),
  (69, .ishr, 70, 0, 0, 0, 0, 0, 0, 0, []),
  (70, .iconst 1, 71, 0, 0, 0, 0, 0, 1, 0, []),
  (71, .iand, 72, 0, 0, 0, 0, 0, 0, 0, []),
  (72, .iconst 1, 73, 0, 0, 0, 0, 0, 1, 0, []),
  (73, .if_icmp .ne 66, 76, 139, 0, 0, 0, 0, 0, 0, []),
  (76, .aload_n 0, 77, 0, 0, 0, 0, 0, 0, 0, []),
  (77, .getfield 116, 80, 7, 5, 0, 0, 664, 0, 0, [])],
 [(80, .iconst 4, 81, 0, 0, 0, 0, 0, 4, 0, []),
  (81, .iadd, 82, 0, 0, 0, 0, 0, 0, 0, []),
  (82, .aload_n 0, 83, 0, 0, 0, 0, 0, 0, 0, []),
  (83, .getfield 97, 86, 7, 2, 0, 0, 661, 0, 0, []),
  (86, .if_icmp .le 5, 89, 91, 0, 0, 0, 0, 0, 0, []),
  (89, .iconst 4, 90, 0, 0, 0, 0, 0, 4, 0, []),
  (90, .ireturn, 91, 0, 0, 0, 0, 0, 0, 0, []),
  (91, .aload_n 0, 92, 0, 0, 0, 0, 0, 0, 0, []),
  (92, .aload_n 0, 93, 0, 0, 0, 0, 0, 0, 0, []),
  (93, .aload_n 0, 94, 0, 0, 0, 0, 0, 0, 0, []),
  (94, .getfield 116, 97, 7, 5, 0, 0, 664, 0, 0, [])],
 [(97, .invokevirtual 122, 100, 99, 2, 1, 0, 827, 0, 0, [0, 0]),
  (100, .putfield 119, 103, 7, 7, 0, 0, 666, 0, 0, []),
  (103, .aload_n 0, 104, 0, 0, 0, 0, 0, 0, 0, []),
  (104, .dup, 105, 0, 0, 0, 0, 0, 0, 0, []),
  (105, .getfield 116, 108, 7, 5, 0, 0, 664, 0, 0, []),
  (108, .iconst 4, 109, 0, 0, 0, 0, 0, 4, 0, []),
  (109, .iconst 4, 110, 0, 0, 0, 0, 0, 4, 0, []),
  (110, .aload_n 0, 111, 0, 0, 0, 0, 0, 0, 0, []),
  (111, .aload_n 0, 112, 0, 0, 0, 0, 0, 0, 0, [])],
 [(112, .getfield 116, 115, 7, 5, 0, 0, 664, 0, 0, []),
  (115, .iconst 2, 116, 0, 0, 0, 0, 0, 2, 0, []),
  (116, .iadd, 117, 0, 0, 0, 0, 0, 0, 0, []),
  (117, .invokevirtual 122, 120, 99, 2, 1, 0, 827, 0, 0, [0, 0]),
  (120, .imul, 121, 0, 0, 0, 0, 0, 0, 0, []),
  (121, .iadd, 122, 0, 0, 0, 0, 0, 0, 0, []),
  (122, .iadd, 123, 0, 0, 0, 0, 0, 0, 0, []),
  (123, .putfield 116, 126, 7, 5, 0, 0, 664, 0, 0, []),
  (126, .aload_n 0, 127, 0, 0, 0, 0, 0, 0, 0, []),
  (127, .getfield 116, 130, 7, 5, 0, 0, 664, 0, 0, [])],
 [(130, .aload_n 0, 131, 0, 0, 0, 0, 0, 0, 0, []),
  (131, .getfield 97, 134, 7, 2, 0, 0, 661, 0, 0, []),
  (134, .if_icmp .le 5, 137, 139, 0, 0, 0, 0, 0, 0, []),
  (137, .iconst 4, 138, 0, 0, 0, 0, 0, 4, 0, []),
  (138, .ireturn, 139, 0, 0, 0, 0, 0, 0, 0, []),
  (139, .aload_n 0, 140, 0, 0, 0, 0, 0, 0, 0, []),
  (140, .aload_n 0, 141, 0, 0, 0, 0, 0, 0, 0, []),
  (141, .getfield 97, 144, 7, 2, 0, 0, 661, 0, 0, [])],
 [(144, .aload_n 0, 145, 0, 0, 0, 0, 0, 0, 0, []),
  (145, .getfield 116, 148, 7, 5, 0, 0, 664, 0, 0, []),
  (148, .isub, 149, 0, 0, 0, 0, 0, 0, 0, []),
  (149, .putfield 126, 152, 7, 6, 0, 0, 665, 0, 0, []),
  (152, .aload_n 0, 153, 0, 0, 0, 0, 0, 0, 0, []),
  (153, .getfield 13, 156, 7, 3, 22, 1, 662, 0, 0, []),
  (156, .iconst 0, 157, 0, 0, 0, 0, 0, 0, 0, []),
  (157, .iaload, 158, 0, 0, 0, 0, 0, 0, 0, []),
  (158, .iconst 5, 159, 0, 0, 0, 0, 0, 5, 0, []),
  (159, .ishr, 160, 0, 0, 0, 0, 0, 0, 0, [])],
 [(160, .iconst 1, 161, 0, 0, 0, 0, 0, 1, 0, []),
  (161, .iand, 162, 0, 0, 0, 0, 0, 0, 0, []),
  (162, .iconst 1, 163, 0, 0, 0, 0, 0, 1, 0, []),
  (163, .if_icmp .ne 39, 166, 202, 0, 0, 0, 0, 0, 0, []),
  (166, .aload_n 0, 167, 0, 0, 0, 0, 0, 0, 0, []),
  (167, .getfield 13, 170, 7, 3, 22, 1, 662, 0, 0, []),
  (170, .aload_n 0, 171, 0, 0, 0, 0, 0, 0, 0, []),
  (171, .getfield 97, 174, 7, 2, 0, 0, 661, 0, 0, []),
  (174, .iconst 1, 175, 0, 0, 0, 0, 0, 1, 0, []),
  (175, .isub, 176, 0, 0, 0, 0, 0, 0, 0, [])],
 [(176, .iaload, 177, 0, 0, 0, 0, 0, 0, 0, []),
  (177, .istore_n 1, 178, 1, 0, 0, 0, 0, 0, 0, []),
  (178, .iload_n 1, 179, 1, 0, 0, 0, 0, 0, 0, []),
  (179, .ifCond .eq 11, 182, 190, 0, 0, 0, 0, 0, 0, []),
  (182, .iload_n 1, 183, 1, 0, 0, 0, 0, 0, 0, []),
  (183, .aload_n 0, 184, 0, 0, 0, 0, 0, 0, 0, []),
  (184, .getfield 126, 187, 7, 6, 0, 0, 665, 0, 0, []),
  (187, .if_icmp .le 5, 190, 192, 0, 0, 0, 0, 0, 0, []),
  (190, .iconst 5, 191, 0, 0, 0, 0, 0, 5, 0, []),
  (191, .ireturn, 192, 0, 0, 0, 0, 0, 0, 0, [])],
 [(192, .aload_n 0, 193, 0, 0, 0, 0, 0, 0, 0, []),
  (193, .dup, 194, 0, 0, 0, 0, 0, 0, 0, []),
  (194, .getfield 126, 197, 7, 6, 0, 0, 665, 0, 0, []),
  (197, .iload_n 1, 198, 1, 0, 0, 0, 0, 0, 0, []),
  (198, .isub, 199, 0, 0, 0, 0, 0, 0, 0, []),
  (199, .putfield 126, 202, 7, 6, 0, 0, 665, 0, 0, []),
  (202, .iconst 0, 203, 0, 0, 0, 0, 0, 0, 0, []),
  (203, .ireturn, 204, 0, 0, 0, 0, 0, 0, 0, [])]]
def cd_X9_faultOf : List (List sd_I) := [[(0, .aload_n 0, 1, 0, 0, 0, 0, 0, 0, 0, []),
  (1, .invokevirtual 129, 4, 101, 1, 1, 0, 823, 0, 0, [0, 0]),
  (4, .istore_n 1, 5, 1, 0, 0, 0, 0, 0, 0, []),
  (5, .iload_n 1, 6, 1, 0, 0, 0, 0, 0, 0, []),
  (6, .ifCond .le 5, 9, 11, 0, 0, 0, 0, 0, 0, []),
  (9, .iload_n 1, 10, 1, 0, 0, 0, 0, 0, 0, []),
  (10, .ireturn, 11, 0, 0, 0, 0, 0, 0, 0, []),
  (11, .aload_n 0, 12, 0, 0, 0, 0, 0, 0, 0, []),
  (12, .getfield 17, 15, 7, 4, 23, 1, 663, 0, 0, []),
  (15, .aload_n 0, 16, 0, 0, 0, 0, 0, 0, 0, [])],
 [(16, .getfield 13, 19, 7, 3, 22, 1, 662, 0, 0, []),
  (19, .iconst 1, 20, 0, 0, 0, 0, 0, 1, 0, []),
  (20, .iaload, 21, 0, 0, 0, 0, 0, 0, 0, []),
  (21, .bipush 127, 23, 0, 0, 0, 0, 0, 127, 0, []),
  (23, .iand, 24, 0, 0, 0, 0, 0, 0, 0, []),
  (24, .iaload, 25, 0, 0, 0, 0, 0, 0, 0, []),
  (25, .ifCond .ne 6, 28, 31, 0, 0, 0, 0, 0, 0, []),
  (28, .bipush 6, 30, 0, 0, 0, 0, 0, 6, 0, []),
  (30, .ireturn, 31, 0, 0, 0, 0, 0, 0, 0, []),
  (31, .aload_n 0, 32, 0, 0, 0, 0, 0, 0, 0, [])],
 [(32, .aload_n 0, 33, 0, 0, 0, 0, 0, 0, 0, []),
  (33, .bipush 8, 35, 0, 0, 0, 0, 0, 8, 0, []),
  (35, .invokevirtual 133, 38, 100, 2, 1, 0, 831, 0, 0, [0, 0]),
  (38, .invokevirtual 136, 41, 104, 2, 1, 0, 835, 0, 0, [0, 0]),
  (41, .iconst (-1), 42, 0, 0, 0, 0, 0, (-1), 0, []),
  (42, .if_icmp .ne 17, 45, 59, 0, 0, 0, 0, 0, 0, []),
  (45, .aload_n 0, 46, 0, 0, 0, 0, 0, 0, 0, []),
  (46, .getfield 139, 49, 7, 8, 0, 0, 667, 0, 0, [])],
 [(49, .bipush 6, 51, 0, 0, 0, 0, 0, 6, 0, []),
  (51, .if_icmp .ne 8, 54, 59, 0, 0, 0, 0, 0, 0, []),
  (54, .bipush 7, 56, 0, 0, 0, 0, 0, 7, 0, []),
  (56, .goto 4, 59, 60, 0, 0, 0, 0, 0, 0, []),
  (59, .iconst 0, 60, 0, 0, 0, 0, 0, 0, 0, []),
  (60, .ireturn, 61, 0, 0, 0, 0, 0, 0, 0, [])]]
def cd_X9_data : List (List sd_I) := [[(0, .iload_n 1, 1, 1, 0, 0, 0, 0, 0, 0, []),
  (1, .i2l, 2, 0, 0, 0, 0, 0, 0, 0, []),
  (2, .lconst 0, 3, 0, 0, 0, 0, 0, 0, 0, []),
  (3, .ldc2_w 142, 6, 0, 0, 0, 0, 818, 0, 9, []),
  (6, .invokestatic 106, 9, 91, 3, 1, 1, 788, 0, 0, [0, 0]),
  (9, .ifCond .ne 6, 12, 15, 0, 0, 0, 0, 0, 0, []),
  (12, .bipush (-2), 14, 0, 0, 0, 0, 0, (-2), 0, []),
  (14, .ireturn, 15, 0, 0, 0, 0, 0, 0, 0, []),
  (15, .aload_n 0, 16, 0, 0, 0, 0, 0, 0, 0, [])],
 [(16, .invokevirtual 144, 19, 102, 1, 1, 0, 819, 0, 0, [0, 0]),
  (19, .istore_n 2, 20, 2, 0, 0, 0, 0, 0, 0, []),
  (20, .iload_n 1, 21, 1, 0, 0, 0, 0, 0, 0, []),
  (21, .ifCond .ne 5, 24, 26, 0, 0, 0, 0, 0, 0, []),
  (24, .iload_n 2, 25, 2, 0, 0, 0, 0, 0, 0, []),
  (25, .ireturn, 26, 0, 0, 0, 0, 0, 0, 0, []),
  (26, .iload_n 2, 27, 2, 0, 0, 0, 0, 0, 0, []),
  (27, .i2l, 28, 0, 0, 0, 0, 0, 0, 0, []),
  (28, .lconst 1, 29, 0, 0, 0, 0, 0, 0, 1, []),
  (29, .ldc2_w 147, 32, 0, 0, 0, 0, 839, 0, 5, [])],
 [(32, .invokestatic 106, 35, 91, 3, 1, 1, 788, 0, 0, [0, 0]),
  (35, .ifCond .eq 5, 38, 40, 0, 0, 0, 0, 0, 0, []),
  (38, .iconst 0, 39, 0, 0, 0, 0, 0, 0, 0, []),
  (39, .ireturn, 40, 0, 0, 0, 0, 0, 0, 0, []),
  (40, .iload_n 1, 41, 1, 0, 0, 0, 0, 0, 0, []),
  (41, .tableswitch 106 1 8 #[47, 57, 67, 73, 79, 86, 96, 101], 88, 147, 0, 0, 0, 0, 1, 0, [88, 98, 108, 114, 120, 127, 137, 142])],
 [],
 [],
 [(88, .aload_n 0, 89, 0, 0, 0, 0, 0, 0, 0, []),
  (89, .getfield 13, 92, 7, 3, 22, 1, 662, 0, 0, []),
  (92, .iconst 1, 93, 0, 0, 0, 0, 0, 1, 0, []),
  (93, .iaload, 94, 0, 0, 0, 0, 0, 0, 0, []),
  (94, .bipush 7, 96, 0, 0, 0, 0, 0, 7, 0, [])],
 [(96, .ishr, 97, 0, 0, 0, 0, 0, 0, 0, []),
  (97, .ireturn, 98, 0, 0, 0, 0, 0, 0, 0, []),
  (98, .aload_n 0, 99, 0, 0, 0, 0, 0, 0, 0, []),
  (99, .getfield 13, 102, 7, 3, 22, 1, 662, 0, 0, []),
  (102, .iconst 1, 103, 0, 0, 0, 0, 0, 1, 0, []),
  (103, .iaload, 104, 0, 0, 0, 0, 0, 0, 0, []),
  (104, .bipush 127, 106, 0, 0, 0, 0, 0, 127, 0, []),
  (106, .iand, 107, 0, 0, 0, 0, 0, 0, 0, []),
  (107, .ireturn, 108, 0, 0, 0, 0, 0, 0, 0, []),
  (108, .aload_n 0, 109, 0, 0, 0, 0, 0, 0, 0, []),
  (109, .iconst 2, 110, 0, 0, 0, 0, 0, 2, 0, []),
  (110, .invokevirtual 122, 113, 99, 2, 1, 0, 827, 0, 0, [0, 0])],
 [(113, .ireturn, 114, 0, 0, 0, 0, 0, 0, 0, []),
  (114, .aload_n 0, 115, 0, 0, 0, 0, 0, 0, 0, []),
  (115, .iconst 4, 116, 0, 0, 0, 0, 0, 4, 0, []),
  (116, .invokevirtual 133, 119, 100, 2, 1, 0, 831, 0, 0, [0, 0]),
  (119, .ireturn, 120, 0, 0, 0, 0, 0, 0, 0, []),
  (120, .aload_n 0, 121, 0, 0, 0, 0, 0, 0, 0, []),
  (121, .bipush 8, 123, 0, 0, 0, 0, 0, 8, 0, []),
  (123, .invokevirtual 133, 126, 100, 2, 1, 0, 831, 0, 0, [0, 0]),
  (126, .ireturn, 127, 0, 0, 0, 0, 0, 0, 0, []),
  (127, .aload_n 0, 128, 0, 0, 0, 0, 0, 0, 0, [])],
 [(128, .getfield 13, 131, 7, 3, 22, 1, 662, 0, 0, []),
  (131, .iconst 0, 132, 0, 0, 0, 0, 0, 0, 0, []),
  (132, .iaload, 133, 0, 0, 0, 0, 0, 0, 0, []),
  (133, .bipush 15, 135, 0, 0, 0, 0, 0, 15, 0, []),
  (135, .iand, 136, 0, 0, 0, 0, 0, 0, 0, []),
  (136, .ireturn, 137, 0, 0, 0, 0, 0, 0, 0, []),
  (137, .aload_n 0, 138, 0, 0, 0, 0, 0, 0, 0, []),
  (138, .getfield 116, 141, 7, 5, 0, 0, 664, 0, 0, []),
  (141, .ireturn, 142, 0, 0, 0, 0, 0, 0, 0, []),
  (142, .aload_n 0, 143, 0, 0, 0, 0, 0, 0, 0, []),
  (143, .getfield 126, 146, 7, 6, 0, 0, 665, 0, 0, [])],
 [(146, .ireturn, 147, 0, 0, 0, 0, 0, 0, 0, []),
  (147, .aload_n 0, 148, 0, 0, 0, 0, 0, 0, 0, []),
  (148, .getfield 119, 151, 7, 7, 0, 0, 666, 0, 0, []),
  (151, .ireturn, 152, 0, 0, 0, 0, 0, 0, 0, [])]]
def cd_X9_senderOf : List (List sd_I) := [[(0, .iconst 0, 1, 0, 0, 0, 0, 0, 0, 0, []),
  (1, .istore_n 2, 2, 2, 0, 0, 0, 0, 0, 0, []),
  (2, .iload_n 2, 3, 2, 0, 0, 0, 0, 0, 0, []),
  (3, .aload_n 0, 4, 0, 0, 0, 0, 0, 0, 0, []),
  (4, .getfield 139, 7, 7, 8, 0, 0, 667, 0, 0, []),
  (7, .if_icmp .ge 21, 10, 28, 0, 0, 0, 0, 0, 0, []),
  (10, .aload_n 0, 11, 0, 0, 0, 0, 0, 0, 0, []),
  (11, .getfield 20, 14, 7, 9, 24, 1, 668, 0, 0, []),
  (14, .iload_n 2, 15, 2, 0, 0, 0, 0, 0, 0, []),
  (15, .iaload, 16, 0, 0, 0, 0, 0, 0, 0, [])],
 [(16, .iload_n 1, 17, 1, 0, 0, 0, 0, 0, 0, []),
  (17, .if_icmp .ne 5, 20, 22, 0, 0, 0, 0, 0, 0, []),
  (20, .iload_n 2, 21, 2, 0, 0, 0, 0, 0, 0, []),
  (21, .ireturn, 22, 0, 0, 0, 0, 0, 0, 0, []),
  (22, .iinc 2 1, 25, 2, 0, 0, 0, 0, 1, 0, []),
  (25, .goto (-23), 28, 2, 0, 0, 0, 0, 0, 0, []),
  (28, .iconst (-1), 29, 0, 0, 0, 0, 0, (-1), 0, []),
  (29, .ireturn, 30, 0, 0, 0, 0, 0, 0, 0, [])]]
def cd_X9_happens : List (List sd_I) := [[(0, .iconst 4, 1, 0, 0, 0, 0, 0, 4, 0, []),
  (1, .aload_n 0, 2, 0, 0, 0, 0, 0, 0, 0, []),
  (2, .getfield 149, 5, 7, 35, 0, 0, 694, 0, 0, []),
  (5, .bipush 64, 7, 0, 0, 0, 0, 0, 64, 0, []),
  (7, .irem, 8, 0, 0, 0, 0, 0, 0, 0, []),
  (8, .imul, 9, 0, 0, 0, 0, 0, 0, 0, []),
  (9, .istore 5, 11, 5, 0, 0, 0, 0, 0, 0, []),
  (11, .aload_n 0, 12, 0, 0, 0, 0, 0, 0, 0, []),
  (12, .getfield 91, 15, 7, 36, 47, 1, 695, 0, 0, []),
  (15, .iload 5, 17, 5, 0, 0, 0, 0, 0, 0, [])],
 [(17, .iload_n 1, 18, 1, 0, 0, 0, 0, 0, 0, []),
  (18, .i2l, 19, 0, 0, 0, 0, 0, 0, 0, []),
  (19, .lastore, 20, 0, 0, 0, 0, 0, 0, 0, []),
  (20, .aload_n 0, 21, 0, 0, 0, 0, 0, 0, 0, []),
  (21, .getfield 91, 24, 7, 36, 47, 1, 695, 0, 0, []),
  (24, .iload 5, 26, 5, 0, 0, 0, 0, 0, 0, []),
  (26, .iconst 1, 27, 0, 0, 0, 0, 0, 1, 0, []),
  (27, .iadd, 28, 0, 0, 0, 0, 0, 0, 0, []),
  (28, .iload_n 2, 29, 2, 0, 0, 0, 0, 0, 0, []),
  (29, .i2l, 30, 0, 0, 0, 0, 0, 0, 0, []),
  (30, .lastore, 31, 0, 0, 0, 0, 0, 0, 0, []),
  (31, .aload_n 0, 32, 0, 0, 0, 0, 0, 0, 0, [])],
 [(32, .getfield 91, 35, 7, 36, 47, 1, 695, 0, 0, []),
  (35, .iload 5, 37, 5, 0, 0, 0, 0, 0, 0, []),
  (37, .iconst 2, 38, 0, 0, 0, 0, 0, 2, 0, []),
  (38, .iadd, 39, 0, 0, 0, 0, 0, 0, 0, []),
  (39, .lload_n 3, 40, 3, 0, 0, 0, 0, 0, 0, []),
  (40, .lastore, 41, 0, 0, 0, 0, 0, 0, 0, []),
  (41, .aload_n 0, 42, 0, 0, 0, 0, 0, 0, 0, []),
  (42, .getfield 91, 45, 7, 36, 47, 1, 695, 0, 0, []),
  (45, .iload 5, 47, 5, 0, 0, 0, 0, 0, 0, []),
  (47, .iconst 3, 48, 0, 0, 0, 0, 0, 3, 0, [])],
 [(48, .iadd, 49, 0, 0, 0, 0, 0, 0, 0, []),
  (49, .aload_n 0, 50, 0, 0, 0, 0, 0, 0, 0, []),
  (50, .getfield 152, 53, 7, 0, 0, 0, 659, 0, 0, []),
  (53, .i2l, 54, 0, 0, 0, 0, 0, 0, 0, []),
  (54, .lastore, 55, 0, 0, 0, 0, 0, 0, 0, []),
  (55, .aload_n 0, 56, 0, 0, 0, 0, 0, 0, 0, []),
  (56, .dup, 57, 0, 0, 0, 0, 0, 0, 0, []),
  (57, .getfield 149, 60, 7, 35, 0, 0, 694, 0, 0, []),
  (60, .iconst 1, 61, 0, 0, 0, 0, 0, 1, 0, []),
  (61, .iadd, 62, 0, 0, 0, 0, 0, 0, 0, []),
  (62, .putfield 149, 65, 7, 35, 0, 0, 694, 0, 0, [])],
 [(65, .iload_n 1, 66, 1, 0, 0, 0, 0, 0, 0, []),
  (66, .iconst 5, 67, 0, 0, 0, 0, 0, 5, 0, []),
  (67, .if_icmp .gt 18, 70, 85, 0, 0, 0, 0, 0, 0, []),
  (70, .aload_n 0, 71, 0, 0, 0, 0, 0, 0, 0, []),
  (71, .getfield 88, 74, 7, 31, 46, 1, 690, 0, 0, []),
  (74, .bipush 6, 76, 0, 0, 0, 0, 0, 6, 0, []),
  (76, .iload_n 2, 77, 2, 0, 0, 0, 0, 0, 0, []),
  (77, .imul, 78, 0, 0, 0, 0, 0, 0, 0, []),
  (78, .iload_n 1, 79, 1, 0, 0, 0, 0, 0, 0, []),
  (79, .iadd, 80, 0, 0, 0, 0, 0, 0, 0, [])],
 [(80, .dup2, 81, 0, 0, 0, 0, 0, 0, 0, []),
  (81, .iaload, 82, 0, 0, 0, 0, 0, 0, 0, []),
  (82, .iconst 1, 83, 0, 0, 0, 0, 0, 1, 0, []),
  (83, .iadd, 84, 0, 0, 0, 0, 0, 0, 0, []),
  (84, .iastore, 85, 0, 0, 0, 0, 0, 0, 0, []),
  (85, .return_, 86, 0, 0, 0, 0, 0, 0, 0, [])]]
def cd_X9_set : List (List sd_I) := [[(0, .aload_n 0, 1, 0, 0, 0, 0, 0, 0, 0, []),
  (1, .getfield 29, 4, 7, 12, 27, 1, 671, 0, 0, []),
  (4, .iload_n 1, 5, 1, 0, 0, 0, 0, 0, 0, []),
  (5, .iload_n 2, 6, 2, 0, 0, 0, 0, 0, 0, []),
  (6, .iastore, 7, 0, 0, 0, 0, 0, 0, 0, []),
  (7, .aload_n 0, 8, 0, 0, 0, 0, 0, 0, 0, []),
  (8, .getfield 23, 11, 7, 10, 25, 1, 669, 0, 0, []),
  (11, .iload_n 1, 12, 1, 0, 0, 0, 0, 0, 0, []),
  (12, .iload_n 2, 13, 2, 0, 0, 0, 0, 0, 0, []),
  (13, .iastore, 14, 0, 0, 0, 0, 0, 0, 0, []),
  (14, .aload_n 0, 15, 0, 0, 0, 0, 0, 0, 0, []),
  (15, .getfield 32, 18, 7, 13, 28, 1, 672, 0, 0, [])],
 [(18, .iload_n 1, 19, 1, 0, 0, 0, 0, 0, 0, []),
  (19, .ldc 155, 21, 0, 0, 0, 0, 852, 65537, 0, []),
  (21, .iastore, 22, 0, 0, 0, 0, 0, 0, 0, []),
  (22, .aload_n 0, 23, 0, 0, 0, 0, 0, 0, 0, []),
  (23, .getfield 26, 26, 7, 11, 26, 1, 670, 0, 0, []),
  (26, .iload_n 1, 27, 1, 0, 0, 0, 0, 0, 0, []),
  (27, .iconst 0, 28, 0, 0, 0, 0, 0, 0, 0, []),
  (28, .iastore, 29, 0, 0, 0, 0, 0, 0, 0, []),
  (29, .aload_n 0, 30, 0, 0, 0, 0, 0, 0, 0, []),
  (30, .getfield 38, 33, 7, 15, 30, 1, 674, 0, 0, [])],
 [(33, .iload_n 1, 34, 1, 0, 0, 0, 0, 0, 0, []),
  (34, .iconst 0, 35, 0, 0, 0, 0, 0, 0, 0, []),
  (35, .iastore, 36, 0, 0, 0, 0, 0, 0, 0, []),
  (36, .aload_n 0, 37, 0, 0, 0, 0, 0, 0, 0, []),
  (37, .getfield 41, 40, 7, 16, 31, 1, 675, 0, 0, []),
  (40, .iload_n 1, 41, 1, 0, 0, 0, 0, 0, 0, []),
  (41, .iconst 0, 42, 0, 0, 0, 0, 0, 0, 0, []),
  (42, .iastore, 43, 0, 0, 0, 0, 0, 0, 0, []),
  (43, .aload_n 0, 44, 0, 0, 0, 0, 0, 0, 0, []),
  (44, .getfield 44, 47, 7, 17, 32, 1, 676, 0, 0, []),
  (47, .iload_n 1, 48, 1, 0, 0, 0, 0, 0, 0, [])],
 [(48, .iconst 0, 49, 0, 0, 0, 0, 0, 0, 0, []),
  (49, .iastore, 50, 0, 0, 0, 0, 0, 0, 0, []),
  (50, .return_, 51, 0, 0, 0, 0, 0, 0, 0, [])]]
def cd_X9_comes : List (List sd_I) := [[(0, .aload_n 0, 1, 0, 0, 0, 0, 0, 0, 0, []),
  (1, .getfield 139, 4, 7, 8, 0, 0, 667, 0, 0, []),
  (4, .istore_n 3, 5, 3, 0, 0, 0, 0, 0, 0, []),
  (5, .aload_n 0, 6, 0, 0, 0, 0, 0, 0, 0, []),
  (6, .getfield 20, 9, 7, 9, 24, 1, 668, 0, 0, []),
  (9, .iload_n 3, 10, 3, 0, 0, 0, 0, 0, 0, []),
  (10, .iload_n 1, 11, 1, 0, 0, 0, 0, 0, 0, []),
  (11, .iastore, 12, 0, 0, 0, 0, 0, 0, 0, []),
  (12, .aload_n 0, 13, 0, 0, 0, 0, 0, 0, 0, []),
  (13, .iload_n 3, 14, 3, 0, 0, 0, 0, 0, 0, []),
  (14, .iload_n 2, 15, 2, 0, 0, 0, 0, 0, 0, []),
  (15, .invokevirtual 156, 18, 106, 3, 0, 0, 848, 0, 0, [0, 0])],
 [(18, .aload_n 0, 19, 0, 0, 0, 0, 0, 0, 0, []),
  (19, .getfield 23, 22, 7, 10, 25, 1, 669, 0, 0, []),
  (22, .iload_n 3, 23, 3, 0, 0, 0, 0, 0, 0, []),
  (23, .iload_n 2, 24, 2, 0, 0, 0, 0, 0, 0, []),
  (24, .iconst 1, 25, 0, 0, 0, 0, 0, 1, 0, []),
  (25, .isub, 26, 0, 0, 0, 0, 0, 0, 0, []),
  (26, .ldc 160, 28, 0, 0, 0, 0, 853, 65535, 0, []),
  (28, .iand, 29, 0, 0, 0, 0, 0, 0, 0, []),
  (29, .iastore, 30, 0, 0, 0, 0, 0, 0, 0, []),
  (30, .aload_n 0, 31, 0, 0, 0, 0, 0, 0, 0, []),
  (31, .getfield 35, 34, 7, 14, 29, 1, 673, 0, 0, [])],
 [(34, .iload_n 3, 35, 3, 0, 0, 0, 0, 0, 0, []),
  (35, .iconst 2, 36, 0, 0, 0, 0, 0, 2, 0, []),
  (36, .iastore, 37, 0, 0, 0, 0, 0, 0, 0, []),
  (37, .aload_n 0, 38, 0, 0, 0, 0, 0, 0, 0, []),
  (38, .dup, 39, 0, 0, 0, 0, 0, 0, 0, []),
  (39, .getfield 139, 42, 7, 8, 0, 0, 667, 0, 0, []),
  (42, .iconst 1, 43, 0, 0, 0, 0, 0, 1, 0, []),
  (43, .iadd, 44, 0, 0, 0, 0, 0, 0, 0, []),
  (44, .putfield 139, 47, 7, 8, 0, 0, 667, 0, 0, []),
  (47, .iload_n 3, 48, 3, 0, 0, 0, 0, 0, 0, [])],
 [(48, .ireturn, 49, 0, 0, 0, 0, 0, 0, 0, [])]]
def cd_X9_believes : List (List sd_I) := [[(0, .aload_n 0, 1, 0, 0, 0, 0, 0, 0, 0, []),
  (1, .iconst 0, 2, 0, 0, 0, 0, 0, 0, 0, []),
  (2, .putfield 161, 5, 7, 37, 2, 0, 696, 0, 0, []),
  (5, .aload_n 0, 6, 0, 0, 0, 0, 0, 0, 0, []),
  (6, .getfield 35, 9, 7, 14, 29, 1, 673, 0, 0, []),
  (9, .iload_n 1, 10, 1, 0, 0, 0, 0, 0, 0, []),
  (10, .iaload, 11, 0, 0, 0, 0, 0, 0, 0, []),
  (11, .ifCond .le 77, 14, 88, 0, 0, 0, 0, 0, 0, []),
  (14, .iload_n 2, 15, 2, 0, 0, 0, 0, 0, 0, []),
  (15, .aload_n 0, 16, 0, 0, 0, 0, 0, 0, 0, [])],
 [(16, .getfield 23, 19, 7, 10, 25, 1, 669, 0, 0, []),
  (19, .iload_n 1, 20, 1, 0, 0, 0, 0, 0, 0, []),
  (20, .iaload, 21, 0, 0, 0, 0, 0, 0, 0, []),
  (21, .iconst 1, 22, 0, 0, 0, 0, 0, 1, 0, []),
  (22, .iadd, 23, 0, 0, 0, 0, 0, 0, 0, []),
  (23, .ldc 160, 25, 0, 0, 0, 0, 853, 65535, 0, []),
  (25, .iand, 26, 0, 0, 0, 0, 0, 0, 0, []),
  (26, .if_icmp .eq 19, 29, 45, 0, 0, 0, 0, 0, 0, []),
  (29, .aload_n 0, 30, 0, 0, 0, 0, 0, 0, 0, []),
  (30, .getfield 35, 33, 7, 14, 29, 1, 673, 0, 0, [])],
 [(33, .iload_n 1, 34, 1, 0, 0, 0, 0, 0, 0, []),
  (34, .iconst 1, 35, 0, 0, 0, 0, 0, 1, 0, []),
  (35, .iastore, 36, 0, 0, 0, 0, 0, 0, 0, []),
  (36, .aload_n 0, 37, 0, 0, 0, 0, 0, 0, 0, []),
  (37, .getfield 23, 40, 7, 10, 25, 1, 669, 0, 0, []),
  (40, .iload_n 1, 41, 1, 0, 0, 0, 0, 0, 0, []),
  (41, .iload_n 2, 42, 2, 0, 0, 0, 0, 0, 0, []),
  (42, .iastore, 43, 0, 0, 0, 0, 0, 0, 0, []),
  (43, .iconst 0, 44, 0, 0, 0, 0, 0, 0, 0, []),
  (44, .ireturn, 45, 0, 0, 0, 0, 0, 0, 0, []),
  (45, .aload_n 0, 46, 0, 0, 0, 0, 0, 0, 0, []),
  (46, .getfield 35, 49, 7, 14, 29, 1, 673, 0, 0, [])],
 [(49, .iload_n 1, 50, 1, 0, 0, 0, 0, 0, 0, []),
  (50, .dup2, 51, 0, 0, 0, 0, 0, 0, 0, []),
  (51, .iaload, 52, 0, 0, 0, 0, 0, 0, 0, []),
  (52, .iconst 1, 53, 0, 0, 0, 0, 0, 1, 0, []),
  (53, .isub, 54, 0, 0, 0, 0, 0, 0, 0, []),
  (54, .iastore, 55, 0, 0, 0, 0, 0, 0, 0, []),
  (55, .aload_n 0, 56, 0, 0, 0, 0, 0, 0, 0, []),
  (56, .getfield 23, 59, 7, 10, 25, 1, 669, 0, 0, []),
  (59, .iload_n 1, 60, 1, 0, 0, 0, 0, 0, 0, []),
  (60, .iload_n 2, 61, 2, 0, 0, 0, 0, 0, 0, []),
  (61, .iastore, 62, 0, 0, 0, 0, 0, 0, 0, []),
  (62, .aload_n 0, 63, 0, 0, 0, 0, 0, 0, 0, []),
  (63, .getfield 35, 66, 7, 14, 29, 1, 673, 0, 0, [])],
 [(66, .iload_n 1, 67, 1, 0, 0, 0, 0, 0, 0, []),
  (67, .iaload, 68, 0, 0, 0, 0, 0, 0, 0, []),
  (68, .ifCond .le 5, 71, 73, 0, 0, 0, 0, 0, 0, []),
  (71, .iconst 0, 72, 0, 0, 0, 0, 0, 0, 0, []),
  (72, .ireturn, 73, 0, 0, 0, 0, 0, 0, 0, []),
  (73, .aload_n 0, 74, 0, 0, 0, 0, 0, 0, 0, []),
  (74, .iload_n 1, 75, 1, 0, 0, 0, 0, 0, 0, []),
  (75, .iload_n 2, 76, 2, 0, 0, 0, 0, 0, 0, []),
  (76, .invokevirtual 156, 79, 106, 3, 0, 0, 848, 0, 0, [0, 0]),
  (79, .aload_n 0, 80, 0, 0, 0, 0, 0, 0, 0, [])],
 [(80, .getfield 38, 83, 7, 15, 30, 1, 674, 0, 0, []),
  (83, .iload_n 1, 84, 1, 0, 0, 0, 0, 0, 0, []),
  (84, .iconst 1, 85, 0, 0, 0, 0, 0, 1, 0, []),
  (85, .iastore, 86, 0, 0, 0, 0, 0, 0, 0, []),
  (86, .iconst 1, 87, 0, 0, 0, 0, 0, 1, 0, []),
  (87, .ireturn, 88, 0, 0, 0, 0, 0, 0, 0, []),
  (88, .iload_n 2, 89, 2, 0, 0, 0, 0, 0, 0, []),
  (89, .aload_n 0, 90, 0, 0, 0, 0, 0, 0, 0, []),
  (90, .getfield 23, 93, 7, 10, 25, 1, 669, 0, 0, []),
  (93, .iload_n 1, 94, 1, 0, 0, 0, 0, 0, 0, []),
  (94, .iaload, 95, 0, 0, 0, 0, 0, 0, 0, []),
  (95, .isub, 96, 0, 0, 0, 0, 0, 0, 0, [])],
 [(96, .ldc 160, 98, 0, 0, 0, 0, 853, 65535, 0, []),
  (98, .iand, 99, 0, 0, 0, 0, 0, 0, 0, []),
  (99, .istore_n 3, 100, 3, 0, 0, 0, 0, 0, 0, []),
  (100, .iload_n 3, 101, 3, 0, 0, 0, 0, 0, 0, []),
  (101, .sipush 3000, 104, 0, 0, 0, 0, 0, 3000, 0, []),
  (104, .if_icmp .ge 38, 107, 142, 0, 0, 0, 0, 0, 0, []),
  (107, .aload_n 0, 108, 0, 0, 0, 0, 0, 0, 0, []),
  (108, .getfield 26, 111, 7, 11, 26, 1, 670, 0, 0, []),
  (111, .iload_n 1, 112, 1, 0, 0, 0, 0, 0, 0, [])],
 [(112, .dup2, 113, 0, 0, 0, 0, 0, 0, 0, []),
  (113, .iaload, 114, 0, 0, 0, 0, 0, 0, 0, []),
  (114, .iload_n 2, 115, 2, 0, 0, 0, 0, 0, 0, []),
  (115, .aload_n 0, 116, 0, 0, 0, 0, 0, 0, 0, []),
  (116, .getfield 23, 119, 7, 10, 25, 1, 669, 0, 0, []),
  (119, .iload_n 1, 120, 1, 0, 0, 0, 0, 0, 0, []),
  (120, .iaload, 121, 0, 0, 0, 0, 0, 0, 0, []),
  (121, .if_icmp .ge 8, 124, 129, 0, 0, 0, 0, 0, 0, []),
  (124, .ldc 165, 126, 0, 0, 0, 0, 858, 65536, 0, []),
  (126, .goto 4, 129, 130, 0, 0, 0, 0, 0, 0, [])],
 [(129, .iconst 0, 130, 0, 0, 0, 0, 0, 0, 0, []),
  (130, .iadd, 131, 0, 0, 0, 0, 0, 0, 0, []),
  (131, .iastore, 132, 0, 0, 0, 0, 0, 0, 0, []),
  (132, .aload_n 0, 133, 0, 0, 0, 0, 0, 0, 0, []),
  (133, .getfield 23, 136, 7, 10, 25, 1, 669, 0, 0, []),
  (136, .iload_n 1, 137, 1, 0, 0, 0, 0, 0, 0, []),
  (137, .iload_n 2, 138, 2, 0, 0, 0, 0, 0, 0, []),
  (138, .iastore, 139, 0, 0, 0, 0, 0, 0, 0, []),
  (139, .goto 44, 142, 183, 0, 0, 0, 0, 0, 0, []),
  (142, .iload_n 3, 143, 3, 0, 0, 0, 0, 0, 0, []),
  (143, .ldc 166, 145, 0, 0, 0, 0, 859, 65436, 0, [])],
 [(145, .if_icmp .gt 38, 148, 183, 0, 0, 0, 0, 0, 0, []),
  (148, .iload_n 2, 149, 2, 0, 0, 0, 0, 0, 0, []),
  (149, .aload_n 0, 150, 0, 0, 0, 0, 0, 0, 0, []),
  (150, .getfield 32, 153, 7, 13, 28, 1, 672, 0, 0, []),
  (153, .iload_n 1, 154, 1, 0, 0, 0, 0, 0, 0, []),
  (154, .iaload, 155, 0, 0, 0, 0, 0, 0, 0, []),
  (155, .if_icmp .eq 17, 158, 172, 0, 0, 0, 0, 0, 0, []),
  (158, .aload_n 0, 159, 0, 0, 0, 0, 0, 0, 0, []),
  (159, .getfield 32, 162, 7, 13, 28, 1, 672, 0, 0, [])],
 [(162, .iload_n 1, 163, 1, 0, 0, 0, 0, 0, 0, []),
  (163, .iload_n 2, 164, 2, 0, 0, 0, 0, 0, 0, []),
  (164, .iconst 1, 165, 0, 0, 0, 0, 0, 1, 0, []),
  (165, .iadd, 166, 0, 0, 0, 0, 0, 0, 0, []),
  (166, .ldc 160, 168, 0, 0, 0, 0, 853, 65535, 0, []),
  (168, .iand, 169, 0, 0, 0, 0, 0, 0, 0, []),
  (169, .iastore, 170, 0, 0, 0, 0, 0, 0, 0, []),
  (170, .iconst 0, 171, 0, 0, 0, 0, 0, 0, 0, []),
  (171, .ireturn, 172, 0, 0, 0, 0, 0, 0, 0, []),
  (172, .aload_n 0, 173, 0, 0, 0, 0, 0, 0, 0, []),
  (173, .iload_n 1, 174, 1, 0, 0, 0, 0, 0, 0, []),
  (174, .iload_n 2, 175, 2, 0, 0, 0, 0, 0, 0, []),
  (175, .invokevirtual 156, 178, 106, 3, 0, 0, 848, 0, 0, [0, 0])],
 [(178, .aload_n 0, 179, 0, 0, 0, 0, 0, 0, 0, []),
  (179, .iconst 1, 180, 0, 0, 0, 0, 0, 1, 0, []),
  (180, .putfield 161, 183, 7, 37, 2, 0, 696, 0, 0, []),
  (183, .aload_n 0, 184, 0, 0, 0, 0, 0, 0, 0, []),
  (184, .getfield 38, 187, 7, 15, 30, 1, 674, 0, 0, []),
  (187, .iload_n 1, 188, 1, 0, 0, 0, 0, 0, 0, []),
  (188, .dup2, 189, 0, 0, 0, 0, 0, 0, 0, []),
  (189, .iaload, 190, 0, 0, 0, 0, 0, 0, 0, []),
  (190, .iconst 1, 191, 0, 0, 0, 0, 0, 1, 0, []),
  (191, .iadd, 192, 0, 0, 0, 0, 0, 0, 0, [])],
 [(192, .iastore, 193, 0, 0, 0, 0, 0, 0, 0, []),
  (193, .iconst 1, 194, 0, 0, 0, 0, 0, 1, 0, []),
  (194, .ireturn, 195, 0, 0, 0, 0, 0, 0, 0, [])]]
def cd_X9_jitters : List (List sd_I) := [[(0, .aload_n 0, 1, 0, 0, 0, 0, 0, 0, 0, []),
  (1, .getfield 152, 4, 7, 0, 0, 0, 659, 0, 0, []),
  (4, .i2l, 5, 0, 0, 0, 0, 0, 0, 0, []),
  (5, .iload_n 2, 6, 2, 0, 0, 0, 0, 0, 0, []),
  (6, .i2l, 7, 0, 0, 0, 0, 0, 0, 0, []),
  (7, .lmul, 8, 0, 0, 0, 0, 0, 0, 0, []),
  (8, .ldc2_w 167, 11, 0, 0, 0, 0, 864, 0, 1000, []),
  (11, .ldiv, 12, 0, 0, 0, 0, 0, 0, 0, []),
  (12, .l2i, 13, 0, 0, 0, 0, 0, 0, 0, []),
  (13, .iload_n 3, 14, 3, 0, 0, 0, 0, 0, 0, []),
  (14, .isub, 15, 0, 0, 0, 0, 0, 0, 0, []),
  (15, .istore 4, 17, 4, 0, 0, 0, 0, 0, 0, [])],
 [(17, .aload_n 0, 18, 0, 0, 0, 0, 0, 0, 0, []),
  (18, .getfield 47, 21, 7, 18, 33, 1, 677, 0, 0, []),
  (21, .iload_n 1, 22, 1, 0, 0, 0, 0, 0, 0, []),
  (22, .baload, 23, 0, 0, 0, 0, 0, 0, 0, []),
  (23, .ifCond .eq 56, 26, 79, 0, 0, 0, 0, 0, 0, []),
  (26, .iload 4, 28, 4, 0, 0, 0, 0, 0, 0, []),
  (28, .aload_n 0, 29, 0, 0, 0, 0, 0, 0, 0, []),
  (29, .getfield 51, 32, 7, 19, 34, 1, 678, 0, 0, [])],
 [(32, .iload_n 1, 33, 1, 0, 0, 0, 0, 0, 0, []),
  (33, .iaload, 34, 0, 0, 0, 0, 0, 0, 0, []),
  (34, .isub, 35, 0, 0, 0, 0, 0, 0, 0, []),
  (35, .istore 5, 37, 5, 0, 0, 0, 0, 0, 0, []),
  (37, .iload 5, 39, 5, 0, 0, 0, 0, 0, 0, []),
  (39, .ifCond .ge 9, 42, 48, 0, 0, 0, 0, 0, 0, []),
  (42, .iload 5, 44, 5, 0, 0, 0, 0, 0, 0, []),
  (44, .ineg, 45, 0, 0, 0, 0, 0, 0, 0, []),
  (45, .goto 5, 48, 50, 0, 0, 0, 0, 0, 0, [])],
 [(48, .iload 5, 50, 5, 0, 0, 0, 0, 0, 0, []),
  (50, .istore 5, 52, 5, 0, 0, 0, 0, 0, 0, []),
  (52, .aload_n 0, 53, 0, 0, 0, 0, 0, 0, 0, []),
  (53, .getfield 54, 56, 7, 20, 35, 1, 679, 0, 0, []),
  (56, .iload_n 1, 57, 1, 0, 0, 0, 0, 0, 0, []),
  (57, .aload_n 0, 58, 0, 0, 0, 0, 0, 0, 0, []),
  (58, .getfield 54, 61, 7, 20, 35, 1, 679, 0, 0, []),
  (61, .iload_n 1, 62, 1, 0, 0, 0, 0, 0, 0, []),
  (62, .iaload, 63, 0, 0, 0, 0, 0, 0, 0, []),
  (63, .iload 5, 65, 5, 0, 0, 0, 0, 0, 0, [])],
 [(65, .iadd, 66, 0, 0, 0, 0, 0, 0, 0, []),
  (66, .aload_n 0, 67, 0, 0, 0, 0, 0, 0, 0, []),
  (67, .getfield 54, 70, 7, 20, 35, 1, 679, 0, 0, []),
  (70, .iload_n 1, 71, 1, 0, 0, 0, 0, 0, 0, []),
  (71, .iaload, 72, 0, 0, 0, 0, 0, 0, 0, []),
  (72, .bipush 8, 74, 0, 0, 0, 0, 0, 8, 0, []),
  (74, .iadd, 75, 0, 0, 0, 0, 0, 0, 0, []),
  (75, .iconst 4, 76, 0, 0, 0, 0, 0, 4, 0, []),
  (76, .ishr, 77, 0, 0, 0, 0, 0, 0, 0, []),
  (77, .isub, 78, 0, 0, 0, 0, 0, 0, 0, []),
  (78, .iastore, 79, 0, 0, 0, 0, 0, 0, 0, []),
  (79, .aload_n 0, 80, 0, 0, 0, 0, 0, 0, 0, [])],
 [(80, .getfield 47, 83, 7, 18, 33, 1, 677, 0, 0, []),
  (83, .iload_n 1, 84, 1, 0, 0, 0, 0, 0, 0, []),
  (84, .iconst 1, 85, 0, 0, 0, 0, 0, 1, 0, []),
  (85, .bastore, 86, 0, 0, 0, 0, 0, 0, 0, []),
  (86, .aload_n 0, 87, 0, 0, 0, 0, 0, 0, 0, []),
  (87, .getfield 51, 90, 7, 19, 34, 1, 678, 0, 0, []),
  (90, .iload_n 1, 91, 1, 0, 0, 0, 0, 0, 0, []),
  (91, .iload 4, 93, 4, 0, 0, 0, 0, 0, 0, []),
  (93, .iastore, 94, 0, 0, 0, 0, 0, 0, 0, []),
  (94, .return_, 95, 0, 0, 0, 0, 0, 0, 0, [])]]
def cd_X9_forget : List (List sd_I) := [[(0, .iconst 0, 1, 0, 0, 0, 0, 0, 0, 0, []),
  (1, .istore_n 2, 2, 2, 0, 0, 0, 0, 0, 0, []),
  (2, .iload_n 2, 3, 2, 0, 0, 0, 0, 0, 0, []),
  (3, .bipush 32, 5, 0, 0, 0, 0, 0, 32, 0, []),
  (5, .if_icmp .ge 21, 8, 26, 0, 0, 0, 0, 0, 0, []),
  (8, .aload_n 0, 9, 0, 0, 0, 0, 0, 0, 0, []),
  (9, .getfield 82, 12, 7, 29, 44, 1, 688, 0, 0, []),
  (12, .bipush 32, 14, 0, 0, 0, 0, 0, 32, 0, []),
  (14, .iload_n 1, 15, 1, 0, 0, 0, 0, 0, 0, []),
  (15, .imul, 16, 0, 0, 0, 0, 0, 0, 0, [])],
 [(16, .iload_n 2, 17, 2, 0, 0, 0, 0, 0, 0, []),
  (17, .iadd, 18, 0, 0, 0, 0, 0, 0, 0, []),
  (18, .iconst 0, 19, 0, 0, 0, 0, 0, 0, 0, []),
  (19, .bastore, 20, 0, 0, 0, 0, 0, 0, 0, []),
  (20, .iinc 2 1, 23, 2, 0, 0, 0, 0, 1, 0, []),
  (23, .goto (-21), 26, 2, 0, 0, 0, 0, 0, 0, []),
  (26, .return_, 27, 0, 0, 0, 0, 0, 0, 0, [])]]
def cd_X9_waiting : List (List sd_I) := [[(0, .iconst 0, 1, 0, 0, 0, 0, 0, 0, 0, []),
  (1, .istore_n 2, 2, 2, 0, 0, 0, 0, 0, 0, []),
  (2, .iconst 0, 3, 0, 0, 0, 0, 0, 0, 0, []),
  (3, .istore_n 3, 4, 3, 0, 0, 0, 0, 0, 0, []),
  (4, .iload_n 3, 5, 3, 0, 0, 0, 0, 0, 0, []),
  (5, .bipush 32, 7, 0, 0, 0, 0, 0, 32, 0, []),
  (7, .if_icmp .ge 31, 10, 38, 0, 0, 0, 0, 0, 0, []),
  (10, .iload_n 2, 11, 2, 0, 0, 0, 0, 0, 0, []),
  (11, .aload_n 0, 12, 0, 0, 0, 0, 0, 0, 0, []),
  (12, .getfield 82, 15, 7, 29, 44, 1, 688, 0, 0, []),
  (15, .bipush 32, 17, 0, 0, 0, 0, 0, 32, 0, [])],
 [(17, .iload_n 1, 18, 1, 0, 0, 0, 0, 0, 0, []),
  (18, .imul, 19, 0, 0, 0, 0, 0, 0, 0, []),
  (19, .iload_n 3, 20, 3, 0, 0, 0, 0, 0, 0, []),
  (20, .iadd, 21, 0, 0, 0, 0, 0, 0, 0, []),
  (21, .baload, 22, 0, 0, 0, 0, 0, 0, 0, []),
  (22, .ifCond .eq 7, 25, 29, 0, 0, 0, 0, 0, 0, []),
  (25, .iconst 1, 26, 0, 0, 0, 0, 0, 1, 0, []),
  (26, .goto 4, 29, 30, 0, 0, 0, 0, 0, 0, []),
  (29, .iconst 0, 30, 0, 0, 0, 0, 0, 0, 0, []),
  (30, .iadd, 31, 0, 0, 0, 0, 0, 0, 0, []),
  (31, .istore_n 2, 32, 2, 0, 0, 0, 0, 0, 0, [])],
 [(32, .iinc 3 1, 35, 3, 0, 0, 0, 0, 1, 0, []),
  (35, .goto (-31), 38, 4, 0, 0, 0, 0, 0, 0, []),
  (38, .iload_n 2, 39, 2, 0, 0, 0, 0, 0, 0, []),
  (39, .ireturn, 40, 0, 0, 0, 0, 0, 0, 0, [])]]
def cd_X9_begins : List (List sd_I) := [[(0, .aload_n 0, 1, 0, 0, 0, 0, 0, 0, 0, []),
  (1, .iload_n 1, 2, 1, 0, 0, 0, 0, 0, 0, []),
  (2, .invokevirtual 169, 5, 110, 2, 0, 0, 879, 0, 0, [0, 0]),
  (5, .aload_n 0, 6, 0, 0, 0, 0, 0, 0, 0, []),
  (6, .getfield 69, 9, 7, 25, 40, 1, 684, 0, 0, []),
  (9, .iload_n 1, 10, 1, 0, 0, 0, 0, 0, 0, []),
  (10, .iconst 1, 11, 0, 0, 0, 0, 0, 1, 0, []),
  (11, .bastore, 12, 0, 0, 0, 0, 0, 0, 0, []),
  (12, .aload_n 0, 13, 0, 0, 0, 0, 0, 0, 0, []),
  (13, .getfield 72, 16, 7, 26, 41, 1, 685, 0, 0, [])],
 [(16, .iload_n 1, 17, 1, 0, 0, 0, 0, 0, 0, []),
  (17, .lload_n 2, 18, 2, 0, 0, 0, 0, 0, 0, []),
  (18, .lastore, 19, 0, 0, 0, 0, 0, 0, 0, []),
  (19, .aload_n 0, 20, 0, 0, 0, 0, 0, 0, 0, []),
  (20, .getfield 76, 23, 7, 27, 42, 1, 686, 0, 0, []),
  (23, .iload_n 1, 24, 1, 0, 0, 0, 0, 0, 0, []),
  (24, .aload_n 0, 25, 0, 0, 0, 0, 0, 0, 0, []),
  (25, .getfield 152, 28, 7, 0, 0, 0, 659, 0, 0, []),
  (28, .i2l, 29, 0, 0, 0, 0, 0, 0, 0, []),
  (29, .aload_n 0, 30, 0, 0, 0, 0, 0, 0, 0, []),
  (30, .getfield 7, 33, 7, 1, 0, 0, 660, 0, 0, [])],
 [(33, .i2l, 34, 0, 0, 0, 0, 0, 0, 0, []),
  (34, .ladd, 35, 0, 0, 0, 0, 0, 0, 0, []),
  (35, .lastore, 36, 0, 0, 0, 0, 0, 0, 0, []),
  (36, .aload_n 0, 37, 0, 0, 0, 0, 0, 0, 0, []),
  (37, .getfield 79, 40, 7, 28, 43, 1, 687, 0, 0, []),
  (40, .iload_n 1, 41, 1, 0, 0, 0, 0, 0, 0, []),
  (41, .iload 4, 43, 4, 0, 0, 0, 0, 0, 0, []),
  (43, .iastore, 44, 0, 0, 0, 0, 0, 0, 0, []),
  (44, .aload_n 0, 45, 0, 0, 0, 0, 0, 0, 0, []),
  (45, .bipush 6, 47, 0, 0, 0, 0, 0, 6, 0, []),
  (47, .iload_n 1, 48, 1, 0, 0, 0, 0, 0, 0, [])],
 [(48, .lload_n 2, 49, 2, 0, 0, 0, 0, 0, 0, []),
  (49, .invokevirtual 172, 52, 105, 4, 0, 0, 883, 0, 0, [0, 0]),
  (52, .aload_n 0, 53, 0, 0, 0, 0, 0, 0, 0, []),
  (53, .getfield 82, 56, 7, 29, 44, 1, 688, 0, 0, []),
  (56, .bipush 32, 58, 0, 0, 0, 0, 0, 32, 0, []),
  (58, .iload_n 1, 59, 1, 0, 0, 0, 0, 0, 0, []),
  (59, .imul, 60, 0, 0, 0, 0, 0, 0, 0, []),
  (60, .iconst 1, 61, 0, 0, 0, 0, 0, 1, 0, []),
  (61, .bastore, 62, 0, 0, 0, 0, 0, 0, 0, []),
  (62, .aload_n 0, 63, 0, 0, 0, 0, 0, 0, 0, []),
  (63, .getfield 85, 66, 7, 30, 45, 1, 689, 0, 0, [])],
 [(66, .bipush 32, 68, 0, 0, 0, 0, 0, 32, 0, []),
  (68, .iload_n 1, 69, 1, 0, 0, 0, 0, 0, 0, []),
  (69, .imul, 70, 0, 0, 0, 0, 0, 0, 0, []),
  (70, .aload_n 0, 71, 0, 0, 0, 0, 0, 0, 0, []),
  (71, .getfield 76, 74, 7, 27, 42, 1, 686, 0, 0, []),
  (74, .iload_n 1, 75, 1, 0, 0, 0, 0, 0, 0, []),
  (75, .laload, 76, 0, 0, 0, 0, 0, 0, 0, []),
  (76, .lastore, 77, 0, 0, 0, 0, 0, 0, 0, []),
  (77, .return_, 78, 0, 0, 0, 0, 0, 0, 0, [])]]
def cd_X9_down : List (List sd_I) := [[(0, .lload_n 0, 1, 0, 0, 0, 0, 0, 0, 0, []),
  (1, .lload_n 2, 2, 2, 0, 0, 0, 0, 0, 0, []),
  (2, .ldiv, 3, 0, 0, 0, 0, 0, 0, 0, []),
  (3, .lstore 4, 5, 4, 0, 0, 0, 0, 0, 0, []),
  (5, .lload_n 0, 6, 0, 0, 0, 0, 0, 0, 0, []),
  (6, .lload_n 2, 7, 2, 0, 0, 0, 0, 0, 0, []),
  (7, .lrem, 8, 0, 0, 0, 0, 0, 0, 0, []),
  (8, .lconst 0, 9, 0, 0, 0, 0, 0, 0, 0, []),
  (9, .lcmp, 10, 0, 0, 0, 0, 0, 0, 0, []),
  (10, .ifCond .eq 16, 13, 26, 0, 0, 0, 0, 0, 0, []),
  (13, .lload_n 0, 14, 0, 0, 0, 0, 0, 0, 0, []),
  (14, .lconst 0, 15, 0, 0, 0, 0, 0, 0, 0, []),
  (15, .lcmp, 16, 0, 0, 0, 0, 0, 0, 0, [])],
 [(16, .ifCond .ge 10, 19, 26, 0, 0, 0, 0, 0, 0, []),
  (19, .lload 4, 21, 4, 0, 0, 0, 0, 0, 0, []),
  (21, .lconst 1, 22, 0, 0, 0, 0, 0, 0, 1, []),
  (22, .lsub, 23, 0, 0, 0, 0, 0, 0, 0, []),
  (23, .goto 5, 26, 28, 0, 0, 0, 0, 0, 0, []),
  (26, .lload 4, 28, 4, 0, 0, 0, 0, 0, 0, []),
  (28, .lreturn, 29, 0, 0, 0, 0, 0, 0, 0, [])]]
def cd_X9_lays : List (List sd_I) := [[(0, .aload_n 0, 1, 0, 0, 0, 0, 0, 0, 0, []),
  (1, .getfield 69, 4, 7, 25, 40, 1, 684, 0, 0, []),
  (4, .iload_n 1, 5, 1, 0, 0, 0, 0, 0, 0, []),
  (5, .baload, 6, 0, 0, 0, 0, 0, 0, 0, []),
  (6, .ifCond .eq 33, 9, 39, 0, 0, 0, 0, 0, 0, []),
  (9, .aload_n 0, 10, 0, 0, 0, 0, 0, 0, 0, []),
  (10, .getfield 161, 13, 7, 37, 2, 0, 696, 0, 0, []),
  (13, .ifCond .ne 26, 16, 39, 0, 0, 0, 0, 0, 0, [])],
 [(16, .lload_n 2, 17, 2, 0, 0, 0, 0, 0, 0, []),
  (17, .aload_n 0, 18, 0, 0, 0, 0, 0, 0, 0, []),
  (18, .getfield 72, 21, 7, 26, 41, 1, 685, 0, 0, []),
  (21, .iload_n 1, 22, 1, 0, 0, 0, 0, 0, 0, []),
  (22, .laload, 23, 0, 0, 0, 0, 0, 0, 0, []),
  (23, .lsub, 24, 0, 0, 0, 0, 0, 0, 0, []),
  (24, .ldc2_w 176, 27, 0, 0, 0, 0, 870, 0, 32, []),
  (27, .lcmp, 28, 0, 0, 0, 0, 0, 0, 0, []),
  (28, .ifCond .lt 22, 31, 50, 0, 0, 0, 0, 0, 0, []),
  (31, .aload_n 0, 32, 0, 0, 0, 0, 0, 0, 0, [])],
 [(32, .iload_n 1, 33, 1, 0, 0, 0, 0, 0, 0, []),
  (33, .invokevirtual 178, 36, 111, 2, 1, 0, 871, 0, 0, [0, 0]),
  (36, .ifCond .ne 14, 39, 50, 0, 0, 0, 0, 0, 0, []),
  (39, .aload_n 0, 40, 0, 0, 0, 0, 0, 0, 0, []),
  (40, .iload_n 1, 41, 1, 0, 0, 0, 0, 0, 0, []),
  (41, .lload_n 2, 42, 2, 0, 0, 0, 0, 0, 0, []),
  (42, .iload 4, 44, 4, 0, 0, 0, 0, 0, 0, []),
  (44, .invokevirtual 181, 47, 112, 4, 0, 0, 875, 0, 0, [0, 0]),
  (47, .goto 133, 50, 180, 0, 0, 0, 0, 0, 0, [])],
 [(50, .lload_n 2, 51, 2, 0, 0, 0, 0, 0, 0, []),
  (51, .aload_n 0, 52, 0, 0, 0, 0, 0, 0, 0, []),
  (52, .getfield 72, 55, 7, 26, 41, 1, 685, 0, 0, []),
  (55, .iload_n 1, 56, 1, 0, 0, 0, 0, 0, 0, []),
  (56, .laload, 57, 0, 0, 0, 0, 0, 0, 0, []),
  (57, .lcmp, 58, 0, 0, 0, 0, 0, 0, 0, []),
  (58, .ifCond .ge 11, 61, 69, 0, 0, 0, 0, 0, 0, []),
  (61, .aload_n 0, 62, 0, 0, 0, 0, 0, 0, 0, []),
  (62, .iconst 3, 63, 0, 0, 0, 0, 0, 3, 0, []),
  (63, .iload_n 1, 64, 1, 0, 0, 0, 0, 0, 0, [])],
 [(64, .lload_n 2, 65, 2, 0, 0, 0, 0, 0, 0, []),
  (65, .invokevirtual 172, 68, 105, 4, 0, 0, 883, 0, 0, [0, 0]),
  (68, .return_, 69, 0, 0, 0, 0, 0, 0, 0, []),
  (69, .lload_n 2, 70, 2, 0, 0, 0, 0, 0, 0, []),
  (70, .aload_n 0, 71, 0, 0, 0, 0, 0, 0, 0, []),
  (71, .getfield 72, 74, 7, 26, 41, 1, 685, 0, 0, []),
  (74, .iload_n 1, 75, 1, 0, 0, 0, 0, 0, 0, []),
  (75, .laload, 76, 0, 0, 0, 0, 0, 0, 0, []),
  (76, .lsub, 77, 0, 0, 0, 0, 0, 0, 0, []),
  (77, .ldc2_w 176, 80, 0, 0, 0, 0, 870, 0, 32, [])],
 [(80, .lcmp, 81, 0, 0, 0, 0, 0, 0, 0, []),
  (81, .ifCond .lt 11, 84, 92, 0, 0, 0, 0, 0, 0, []),
  (84, .aload_n 0, 85, 0, 0, 0, 0, 0, 0, 0, []),
  (85, .iconst 4, 86, 0, 0, 0, 0, 0, 4, 0, []),
  (86, .iload_n 1, 87, 1, 0, 0, 0, 0, 0, 0, []),
  (87, .lload_n 2, 88, 2, 0, 0, 0, 0, 0, 0, []),
  (88, .invokevirtual 172, 91, 105, 4, 0, 0, 883, 0, 0, [0, 0]),
  (91, .return_, 92, 0, 0, 0, 0, 0, 0, 0, []),
  (92, .aload_n 0, 93, 0, 0, 0, 0, 0, 0, 0, []),
  (93, .getfield 82, 96, 7, 29, 44, 1, 688, 0, 0, [])],
 [(96, .bipush 32, 98, 0, 0, 0, 0, 0, 32, 0, []),
  (98, .iload_n 1, 99, 1, 0, 0, 0, 0, 0, 0, []),
  (99, .imul, 100, 0, 0, 0, 0, 0, 0, 0, []),
  (100, .lload_n 2, 101, 2, 0, 0, 0, 0, 0, 0, []),
  (101, .aload_n 0, 102, 0, 0, 0, 0, 0, 0, 0, []),
  (102, .getfield 72, 105, 7, 26, 41, 1, 685, 0, 0, []),
  (105, .iload_n 1, 106, 1, 0, 0, 0, 0, 0, 0, []),
  (106, .laload, 107, 0, 0, 0, 0, 0, 0, 0, []),
  (107, .lsub, 108, 0, 0, 0, 0, 0, 0, 0, []),
  (108, .l2i, 109, 0, 0, 0, 0, 0, 0, 0, []),
  (109, .iadd, 110, 0, 0, 0, 0, 0, 0, 0, []),
  (110, .baload, 111, 0, 0, 0, 0, 0, 0, 0, []),
  (111, .ifCond .eq 11, 114, 122, 0, 0, 0, 0, 0, 0, [])],
 [(114, .aload_n 0, 115, 0, 0, 0, 0, 0, 0, 0, []),
  (115, .iconst 5, 116, 0, 0, 0, 0, 0, 5, 0, []),
  (116, .iload_n 1, 117, 1, 0, 0, 0, 0, 0, 0, []),
  (117, .lload_n 2, 118, 2, 0, 0, 0, 0, 0, 0, []),
  (118, .invokevirtual 172, 121, 105, 4, 0, 0, 883, 0, 0, [0, 0]),
  (121, .return_, 122, 0, 0, 0, 0, 0, 0, 0, []),
  (122, .bipush 32, 124, 0, 0, 0, 0, 0, 32, 0, []),
  (124, .iload_n 1, 125, 1, 0, 0, 0, 0, 0, 0, []),
  (125, .imul, 126, 0, 0, 0, 0, 0, 0, 0, []),
  (126, .lload_n 2, 127, 2, 0, 0, 0, 0, 0, 0, []),
  (127, .aload_n 0, 128, 0, 0, 0, 0, 0, 0, 0, [])],
 [(128, .getfield 72, 131, 7, 26, 41, 1, 685, 0, 0, []),
  (131, .iload_n 1, 132, 1, 0, 0, 0, 0, 0, 0, []),
  (132, .laload, 133, 0, 0, 0, 0, 0, 0, 0, []),
  (133, .lsub, 134, 0, 0, 0, 0, 0, 0, 0, []),
  (134, .l2i, 135, 0, 0, 0, 0, 0, 0, 0, []),
  (135, .iadd, 136, 0, 0, 0, 0, 0, 0, 0, []),
  (136, .istore 6, 138, 6, 0, 0, 0, 0, 0, 0, []),
  (138, .aload_n 0, 139, 0, 0, 0, 0, 0, 0, 0, []),
  (139, .getfield 82, 142, 7, 29, 44, 1, 688, 0, 0, []),
  (142, .iload 6, 144, 6, 0, 0, 0, 0, 0, 0, [])],
 [(144, .iconst 1, 145, 0, 0, 0, 0, 0, 1, 0, []),
  (145, .bastore, 146, 0, 0, 0, 0, 0, 0, 0, []),
  (146, .aload_n 0, 147, 0, 0, 0, 0, 0, 0, 0, []),
  (147, .getfield 85, 150, 7, 30, 45, 1, 689, 0, 0, []),
  (150, .iload 6, 152, 6, 0, 0, 0, 0, 0, 0, []),
  (152, .aload_n 0, 153, 0, 0, 0, 0, 0, 0, 0, []),
  (153, .getfield 76, 156, 7, 27, 42, 1, 686, 0, 0, []),
  (156, .iload_n 1, 157, 1, 0, 0, 0, 0, 0, 0, []),
  (157, .laload, 158, 0, 0, 0, 0, 0, 0, 0, []),
  (158, .iload 4, 160, 4, 0, 0, 0, 0, 0, 0, [])],
 [(160, .aload_n 0, 161, 0, 0, 0, 0, 0, 0, 0, []),
  (161, .getfield 79, 164, 7, 28, 43, 1, 687, 0, 0, []),
  (164, .iload_n 1, 165, 1, 0, 0, 0, 0, 0, 0, []),
  (165, .iaload, 166, 0, 0, 0, 0, 0, 0, 0, []),
  (166, .isub, 167, 0, 0, 0, 0, 0, 0, 0, []),
  (167, .i2l, 168, 0, 0, 0, 0, 0, 0, 0, []),
  (168, .ldc2_w 167, 171, 0, 0, 0, 0, 864, 0, 1000, []),
  (171, .lmul, 172, 0, 0, 0, 0, 0, 0, 0, []),
  (172, .iload 5, 174, 5, 0, 0, 0, 0, 0, 0, []),
  (174, .i2l, 175, 0, 0, 0, 0, 0, 0, 0, []),
  (175, .invokestatic 185, 178, 113, 2, 2, 1, 887, 0, 0, [0, 0])],
 [(178, .ladd, 179, 0, 0, 0, 0, 0, 0, 0, []),
  (179, .lastore, 180, 0, 0, 0, 0, 0, 0, 0, []),
  (180, .aload_n 0, 181, 0, 0, 0, 0, 0, 0, 0, []),
  (181, .iload_n 1, 182, 1, 0, 0, 0, 0, 0, 0, []),
  (182, .invokevirtual 189, 185, 116, 2, 1, 0, 890, 0, 0, [0, 0]),
  (185, .istore 6, 187, 6, 0, 0, 0, 0, 0, 0, []),
  (187, .return_, 188, 0, 0, 0, 0, 0, 0, 0, [])]]
def cd_X9_shift : List (List sd_I) := [[(0, .iconst 0, 1, 0, 0, 0, 0, 0, 0, 0, []),
  (1, .istore_n 3, 2, 3, 0, 0, 0, 0, 0, 0, []),
  (2, .iload_n 3, 3, 3, 0, 0, 0, 0, 0, 0, []),
  (3, .bipush 32, 5, 0, 0, 0, 0, 0, 32, 0, []),
  (5, .if_icmp .ge 103, 8, 108, 0, 0, 0, 0, 0, 0, []),
  (8, .iload_n 3, 9, 3, 0, 0, 0, 0, 0, 0, []),
  (9, .iload_n 2, 10, 2, 0, 0, 0, 0, 0, 0, []),
  (10, .iadd, 11, 0, 0, 0, 0, 0, 0, 0, []),
  (11, .bipush 32, 13, 0, 0, 0, 0, 0, 32, 0, []),
  (13, .if_icmp .ge 7, 16, 20, 0, 0, 0, 0, 0, 0, [])],
 [(16, .iconst 1, 17, 0, 0, 0, 0, 0, 1, 0, []),
  (17, .goto 4, 20, 21, 0, 0, 0, 0, 0, 0, []),
  (20, .iconst 0, 21, 0, 0, 0, 0, 0, 0, 0, []),
  (21, .istore 4, 23, 4, 0, 0, 0, 0, 0, 0, []),
  (23, .aload_n 0, 24, 0, 0, 0, 0, 0, 0, 0, []),
  (24, .getfield 82, 27, 7, 29, 44, 1, 688, 0, 0, []),
  (27, .bipush 32, 29, 0, 0, 0, 0, 0, 32, 0, []),
  (29, .iload_n 1, 30, 1, 0, 0, 0, 0, 0, 0, []),
  (30, .imul, 31, 0, 0, 0, 0, 0, 0, 0, []),
  (31, .iload_n 3, 32, 3, 0, 0, 0, 0, 0, 0, [])],
 [(32, .iadd, 33, 0, 0, 0, 0, 0, 0, 0, []),
  (33, .iload 4, 35, 4, 0, 0, 0, 0, 0, 0, []),
  (35, .ifCond .eq 32, 38, 67, 0, 0, 0, 0, 0, 0, []),
  (38, .aload_n 0, 39, 0, 0, 0, 0, 0, 0, 0, []),
  (39, .getfield 82, 42, 7, 29, 44, 1, 688, 0, 0, []),
  (42, .bipush 32, 44, 0, 0, 0, 0, 0, 32, 0, []),
  (44, .iload_n 1, 45, 1, 0, 0, 0, 0, 0, 0, []),
  (45, .imul, 46, 0, 0, 0, 0, 0, 0, 0, []),
  (46, .iload 4, 48, 4, 0, 0, 0, 0, 0, 0, [])],
 [(48, .ifCond .eq 9, 51, 57, 0, 0, 0, 0, 0, 0, []),
  (51, .iload_n 3, 52, 3, 0, 0, 0, 0, 0, 0, []),
  (52, .iload_n 2, 53, 2, 0, 0, 0, 0, 0, 0, []),
  (53, .iadd, 54, 0, 0, 0, 0, 0, 0, 0, []),
  (54, .goto 4, 57, 58, 0, 0, 0, 0, 0, 0, []),
  (57, .iconst 0, 58, 0, 0, 0, 0, 0, 0, 0, []),
  (58, .iadd, 59, 0, 0, 0, 0, 0, 0, 0, []),
  (59, .baload, 60, 0, 0, 0, 0, 0, 0, 0, []),
  (60, .ifCond .eq 7, 63, 67, 0, 0, 0, 0, 0, 0, []),
  (63, .iconst 1, 64, 0, 0, 0, 0, 0, 1, 0, [])],
 [(64, .goto 4, 67, 68, 0, 0, 0, 0, 0, 0, []),
  (67, .iconst 0, 68, 0, 0, 0, 0, 0, 0, 0, []),
  (68, .bastore, 69, 0, 0, 0, 0, 0, 0, 0, []),
  (69, .aload_n 0, 70, 0, 0, 0, 0, 0, 0, 0, []),
  (70, .getfield 85, 73, 7, 30, 45, 1, 689, 0, 0, []),
  (73, .bipush 32, 75, 0, 0, 0, 0, 0, 32, 0, []),
  (75, .iload_n 1, 76, 1, 0, 0, 0, 0, 0, 0, []),
  (76, .imul, 77, 0, 0, 0, 0, 0, 0, 0, []),
  (77, .iload_n 3, 78, 3, 0, 0, 0, 0, 0, 0, []),
  (78, .iadd, 79, 0, 0, 0, 0, 0, 0, 0, []),
  (79, .aload_n 0, 80, 0, 0, 0, 0, 0, 0, 0, [])],
 [(80, .getfield 85, 83, 7, 30, 45, 1, 689, 0, 0, []),
  (83, .bipush 32, 85, 0, 0, 0, 0, 0, 32, 0, []),
  (85, .iload_n 1, 86, 1, 0, 0, 0, 0, 0, 0, []),
  (86, .imul, 87, 0, 0, 0, 0, 0, 0, 0, []),
  (87, .iload 4, 89, 4, 0, 0, 0, 0, 0, 0, []),
  (89, .ifCond .eq 9, 92, 98, 0, 0, 0, 0, 0, 0, []),
  (92, .iload_n 3, 93, 3, 0, 0, 0, 0, 0, 0, []),
  (93, .iload_n 2, 94, 2, 0, 0, 0, 0, 0, 0, []),
  (94, .iadd, 95, 0, 0, 0, 0, 0, 0, 0, []),
  (95, .goto 4, 98, 99, 0, 0, 0, 0, 0, 0, [])],
 [(98, .iconst 0, 99, 0, 0, 0, 0, 0, 0, 0, []),
  (99, .iadd, 100, 0, 0, 0, 0, 0, 0, 0, []),
  (100, .laload, 101, 0, 0, 0, 0, 0, 0, 0, []),
  (101, .lastore, 102, 0, 0, 0, 0, 0, 0, 0, []),
  (102, .iinc 3 1, 105, 3, 0, 0, 0, 0, 1, 0, []),
  (105, .goto (-103), 108, 2, 0, 0, 0, 0, 0, 0, []),
  (108, .aload_n 0, 109, 0, 0, 0, 0, 0, 0, 0, []),
  (109, .getfield 72, 112, 7, 26, 41, 1, 685, 0, 0, [])],
 [(112, .iload_n 1, 113, 1, 0, 0, 0, 0, 0, 0, []),
  (113, .dup2, 114, 0, 0, 0, 0, 0, 0, 0, []),
  (114, .laload, 115, 0, 0, 0, 0, 0, 0, 0, []),
  (115, .iload_n 2, 116, 2, 0, 0, 0, 0, 0, 0, []),
  (116, .i2l, 117, 0, 0, 0, 0, 0, 0, 0, []),
  (117, .ladd, 118, 0, 0, 0, 0, 0, 0, 0, []),
  (118, .lastore, 119, 0, 0, 0, 0, 0, 0, 0, []),
  (119, .return_, 120, 0, 0, 0, 0, 0, 0, 0, [])]]
def cd_X9_plays : List (List sd_I) := [[(0, .iconst 0, 1, 0, 0, 0, 0, 0, 0, 0, []),
  (1, .istore_n 2, 2, 2, 0, 0, 0, 0, 0, 0, []),
  (2, .iconst 0, 3, 0, 0, 0, 0, 0, 0, 0, []),
  (3, .istore_n 3, 4, 3, 0, 0, 0, 0, 0, 0, []),
  (4, .iload_n 3, 5, 3, 0, 0, 0, 0, 0, 0, []),
  (5, .bipush 32, 7, 0, 0, 0, 0, 0, 32, 0, []),
  (7, .if_icmp .ge 108, 10, 115, 0, 0, 0, 0, 0, 0, []),
  (10, .aload_n 0, 11, 0, 0, 0, 0, 0, 0, 0, []),
  (11, .getfield 82, 14, 7, 29, 44, 1, 688, 0, 0, []),
  (14, .bipush 32, 16, 0, 0, 0, 0, 0, 32, 0, [])],
 [(16, .iload_n 1, 17, 1, 0, 0, 0, 0, 0, 0, []),
  (17, .imul, 18, 0, 0, 0, 0, 0, 0, 0, []),
  (18, .iload_n 3, 19, 3, 0, 0, 0, 0, 0, 0, []),
  (19, .iadd, 20, 0, 0, 0, 0, 0, 0, 0, []),
  (20, .baload, 21, 0, 0, 0, 0, 0, 0, 0, []),
  (21, .ifCond .eq 88, 24, 109, 0, 0, 0, 0, 0, 0, []),
  (24, .aload_n 0, 25, 0, 0, 0, 0, 0, 0, 0, []),
  (25, .getfield 85, 28, 7, 30, 45, 1, 689, 0, 0, []),
  (28, .bipush 32, 30, 0, 0, 0, 0, 0, 32, 0, []),
  (30, .iload_n 1, 31, 1, 0, 0, 0, 0, 0, 0, []),
  (31, .imul, 32, 0, 0, 0, 0, 0, 0, 0, [])],
 [(32, .iload_n 3, 33, 3, 0, 0, 0, 0, 0, 0, []),
  (33, .iadd, 34, 0, 0, 0, 0, 0, 0, 0, []),
  (34, .laload, 35, 0, 0, 0, 0, 0, 0, 0, []),
  (35, .aload_n 0, 36, 0, 0, 0, 0, 0, 0, 0, []),
  (36, .getfield 152, 39, 7, 0, 0, 0, 659, 0, 0, []),
  (39, .i2l, 40, 0, 0, 0, 0, 0, 0, 0, []),
  (40, .lcmp, 41, 0, 0, 0, 0, 0, 0, 0, []),
  (41, .ifCond .gt 68, 44, 109, 0, 0, 0, 0, 0, 0, []),
  (44, .iconst 0, 45, 0, 0, 0, 0, 0, 0, 0, []),
  (45, .istore 4, 47, 4, 0, 0, 0, 0, 0, 0, []),
  (47, .iload 4, 49, 4, 0, 0, 0, 0, 0, 0, [])],
 [(49, .iload_n 3, 50, 3, 0, 0, 0, 0, 0, 0, []),
  (50, .if_icmp .ge 25, 53, 75, 0, 0, 0, 0, 0, 0, []),
  (53, .aload_n 0, 54, 0, 0, 0, 0, 0, 0, 0, []),
  (54, .iconst 2, 55, 0, 0, 0, 0, 0, 2, 0, []),
  (55, .iload_n 1, 56, 1, 0, 0, 0, 0, 0, 0, []),
  (56, .aload_n 0, 57, 0, 0, 0, 0, 0, 0, 0, []),
  (57, .getfield 72, 60, 7, 26, 41, 1, 685, 0, 0, []),
  (60, .iload_n 1, 61, 1, 0, 0, 0, 0, 0, 0, []),
  (61, .laload, 62, 0, 0, 0, 0, 0, 0, 0, []),
  (62, .iload 4, 64, 4, 0, 0, 0, 0, 0, 0, [])],
 [(64, .i2l, 65, 0, 0, 0, 0, 0, 0, 0, []),
  (65, .ladd, 66, 0, 0, 0, 0, 0, 0, 0, []),
  (66, .invokevirtual 172, 69, 105, 4, 0, 0, 883, 0, 0, [0, 0]),
  (69, .iinc 4 1, 72, 4, 0, 0, 0, 0, 1, 0, []),
  (72, .goto (-25), 75, 47, 0, 0, 0, 0, 0, 0, []),
  (75, .aload_n 0, 76, 0, 0, 0, 0, 0, 0, 0, []),
  (76, .iconst 1, 77, 0, 0, 0, 0, 0, 1, 0, []),
  (77, .iload_n 1, 78, 1, 0, 0, 0, 0, 0, 0, []),
  (78, .aload_n 0, 79, 0, 0, 0, 0, 0, 0, 0, []),
  (79, .getfield 72, 82, 7, 26, 41, 1, 685, 0, 0, [])],
 [(82, .iload_n 1, 83, 1, 0, 0, 0, 0, 0, 0, []),
  (83, .laload, 84, 0, 0, 0, 0, 0, 0, 0, []),
  (84, .iload_n 3, 85, 3, 0, 0, 0, 0, 0, 0, []),
  (85, .i2l, 86, 0, 0, 0, 0, 0, 0, 0, []),
  (86, .ladd, 87, 0, 0, 0, 0, 0, 0, 0, []),
  (87, .invokevirtual 172, 90, 105, 4, 0, 0, 883, 0, 0, [0, 0]),
  (90, .iload_n 2, 91, 2, 0, 0, 0, 0, 0, 0, []),
  (91, .iload_n 3, 92, 3, 0, 0, 0, 0, 0, 0, []),
  (92, .iconst 1, 93, 0, 0, 0, 0, 0, 1, 0, []),
  (93, .iadd, 94, 0, 0, 0, 0, 0, 0, 0, []),
  (94, .iadd, 95, 0, 0, 0, 0, 0, 0, 0, []),
  (95, .istore_n 2, 96, 2, 0, 0, 0, 0, 0, 0, [])],
 [(96, .aload_n 0, 97, 0, 0, 0, 0, 0, 0, 0, []),
  (97, .iload_n 1, 98, 1, 0, 0, 0, 0, 0, 0, []),
  (98, .iload_n 3, 99, 3, 0, 0, 0, 0, 0, 0, []),
  (99, .iconst 1, 100, 0, 0, 0, 0, 0, 1, 0, []),
  (100, .iadd, 101, 0, 0, 0, 0, 0, 0, 0, []),
  (101, .invokevirtual 192, 104, 115, 3, 0, 0, 894, 0, 0, [0, 0]),
  (104, .iconst 0, 105, 0, 0, 0, 0, 0, 0, 0, []),
  (105, .istore_n 3, 106, 3, 0, 0, 0, 0, 0, 0, []),
  (106, .goto (-102), 109, 4, 0, 0, 0, 0, 0, 0, []),
  (109, .iinc 3 1, 112, 3, 0, 0, 0, 0, 1, 0, [])],
 [(112, .goto (-108), 115, 4, 0, 0, 0, 0, 0, 0, []),
  (115, .iload_n 2, 116, 2, 0, 0, 0, 0, 0, 0, []),
  (116, .ireturn, 117, 0, 0, 0, 0, 0, 0, 0, [])]]
def cd_X9_take : List (List sd_I) := [[(0, .aload_n 0, 1, 0, 0, 0, 0, 0, 0, 0, []),
  (1, .invokevirtual 144, 4, 102, 1, 1, 0, 819, 0, 0, [0, 0]),
  (4, .istore_n 1, 5, 1, 0, 0, 0, 0, 0, 0, []),
  (5, .iload_n 1, 6, 1, 0, 0, 0, 0, 0, 0, []),
  (6, .ifCond .le 18, 9, 24, 0, 0, 0, 0, 0, 0, []),
  (9, .aload_n 0, 10, 0, 0, 0, 0, 0, 0, 0, []),
  (10, .dup, 11, 0, 0, 0, 0, 0, 0, 0, []),
  (11, .getfield 195, 14, 7, 34, 0, 0, 693, 0, 0, []),
  (14, .iconst 1, 15, 0, 0, 0, 0, 0, 1, 0, []),
  (15, .iadd, 16, 0, 0, 0, 0, 0, 0, 0, [])],
 [(16, .putfield 195, 19, 7, 34, 0, 0, 693, 0, 0, []),
  (19, .bipush (-10), 21, 0, 0, 0, 0, 0, (-10), 0, []),
  (21, .iload_n 1, 22, 1, 0, 0, 0, 0, 0, 0, []),
  (22, .isub, 23, 0, 0, 0, 0, 0, 0, 0, []),
  (23, .ireturn, 24, 0, 0, 0, 0, 0, 0, 0, []),
  (24, .aload_n 0, 25, 0, 0, 0, 0, 0, 0, 0, []),
  (25, .bipush 8, 27, 0, 0, 0, 0, 0, 8, 0, []),
  (27, .invokevirtual 133, 30, 100, 2, 1, 0, 831, 0, 0, [0, 0]),
  (30, .istore_n 2, 31, 2, 0, 0, 0, 0, 0, 0, []),
  (31, .aload_n 0, 32, 0, 0, 0, 0, 0, 0, 0, [])],
 [(32, .iconst 2, 33, 0, 0, 0, 0, 0, 2, 0, []),
  (33, .invokevirtual 122, 36, 99, 2, 1, 0, 827, 0, 0, [0, 0]),
  (36, .istore_n 3, 37, 3, 0, 0, 0, 0, 0, 0, []),
  (37, .aload_n 0, 38, 0, 0, 0, 0, 0, 0, 0, []),
  (38, .iconst 4, 39, 0, 0, 0, 0, 0, 4, 0, []),
  (39, .invokevirtual 133, 42, 100, 2, 1, 0, 831, 0, 0, [0, 0]),
  (42, .istore 4, 44, 4, 0, 0, 0, 0, 0, 0, []),
  (44, .aload_n 0, 45, 0, 0, 0, 0, 0, 0, 0, []),
  (45, .getfield 17, 48, 7, 4, 23, 1, 663, 0, 0, [])],
 [(48, .aload_n 0, 49, 0, 0, 0, 0, 0, 0, 0, []),
  (49, .getfield 13, 52, 7, 3, 22, 1, 662, 0, 0, []),
  (52, .iconst 1, 53, 0, 0, 0, 0, 0, 1, 0, []),
  (53, .iaload, 54, 0, 0, 0, 0, 0, 0, 0, []),
  (54, .bipush 127, 56, 0, 0, 0, 0, 0, 127, 0, []),
  (56, .iand, 57, 0, 0, 0, 0, 0, 0, 0, []),
  (57, .iaload, 58, 0, 0, 0, 0, 0, 0, 0, []),
  (58, .istore 5, 60, 5, 0, 0, 0, 0, 0, 0, []),
  (60, .aload_n 0, 61, 0, 0, 0, 0, 0, 0, 0, []),
  (61, .iload_n 2, 62, 2, 0, 0, 0, 0, 0, 0, []),
  (62, .invokevirtual 136, 65, 104, 2, 1, 0, 835, 0, 0, [0, 0])],
 [(65, .istore 6, 67, 6, 0, 0, 0, 0, 0, 0, []),
  (67, .iload 6, 69, 6, 0, 0, 0, 0, 0, 0, []),
  (69, .iconst (-1), 70, 0, 0, 0, 0, 0, (-1), 0, []),
  (70, .if_icmp .ne 12, 73, 82, 0, 0, 0, 0, 0, 0, []),
  (73, .aload_n 0, 74, 0, 0, 0, 0, 0, 0, 0, []),
  (74, .iload_n 2, 75, 2, 0, 0, 0, 0, 0, 0, []),
  (75, .iload_n 3, 76, 3, 0, 0, 0, 0, 0, 0, []),
  (76, .invokevirtual 198, 79, 107, 3, 1, 0, 844, 0, 0, [0, 0]),
  (79, .goto 5, 82, 84, 0, 0, 0, 0, 0, 0, [])],
 [(82, .iload 6, 84, 6, 0, 0, 0, 0, 0, 0, []),
  (84, .istore 6, 86, 6, 0, 0, 0, 0, 0, 0, []),
  (86, .aload_n 0, 87, 0, 0, 0, 0, 0, 0, 0, []),
  (87, .iload 6, 89, 6, 0, 0, 0, 0, 0, 0, []),
  (89, .iload_n 3, 90, 3, 0, 0, 0, 0, 0, 0, []),
  (90, .invokevirtual 202, 93, 108, 3, 1, 0, 854, 0, 0, [0, 0]),
  (93, .ifCond .ne 15, 96, 108, 0, 0, 0, 0, 0, 0, [])],
 [(96, .aload_n 0, 97, 0, 0, 0, 0, 0, 0, 0, []),
  (97, .dup, 98, 0, 0, 0, 0, 0, 0, 0, []),
  (98, .getfield 206, 101, 7, 33, 0, 0, 692, 0, 0, []),
  (101, .iconst 1, 102, 0, 0, 0, 0, 0, 1, 0, []),
  (102, .iadd, 103, 0, 0, 0, 0, 0, 0, 0, []),
  (103, .putfield 206, 106, 7, 33, 0, 0, 692, 0, 0, []),
  (106, .iconst 0, 107, 0, 0, 0, 0, 0, 0, 0, []),
  (107, .ireturn, 108, 0, 0, 0, 0, 0, 0, 0, []),
  (108, .aload_n 0, 109, 0, 0, 0, 0, 0, 0, 0, []),
  (109, .dup, 110, 0, 0, 0, 0, 0, 0, 0, []),
  (110, .getfield 209, 113, 7, 32, 0, 0, 691, 0, 0, [])],
 [(113, .iconst 1, 114, 0, 0, 0, 0, 0, 1, 0, []),
  (114, .iadd, 115, 0, 0, 0, 0, 0, 0, 0, []),
  (115, .putfield 209, 118, 7, 32, 0, 0, 691, 0, 0, []),
  (118, .aload_n 0, 119, 0, 0, 0, 0, 0, 0, 0, []),
  (119, .iload 6, 121, 6, 0, 0, 0, 0, 0, 0, []),
  (121, .iload 5, 123, 5, 0, 0, 0, 0, 0, 0, []),
  (123, .iload 4, 125, 4, 0, 0, 0, 0, 0, 0, []),
  (125, .invokevirtual 212, 128, 109, 4, 0, 0, 860, 0, 0, [0, 0])],
 [(128, .aload_n 0, 129, 0, 0, 0, 0, 0, 0, 0, []),
  (129, .getfield 26, 132, 7, 11, 26, 1, 670, 0, 0, []),
  (132, .iload 6, 134, 6, 0, 0, 0, 0, 0, 0, []),
  (134, .iaload, 135, 0, 0, 0, 0, 0, 0, 0, []),
  (135, .i2l, 136, 0, 0, 0, 0, 0, 0, 0, []),
  (136, .iload_n 3, 137, 3, 0, 0, 0, 0, 0, 0, []),
  (137, .i2l, 138, 0, 0, 0, 0, 0, 0, 0, []),
  (138, .ladd, 139, 0, 0, 0, 0, 0, 0, 0, []),
  (139, .iload_n 3, 140, 3, 0, 0, 0, 0, 0, 0, []),
  (140, .aload_n 0, 141, 0, 0, 0, 0, 0, 0, 0, []),
  (141, .getfield 23, 144, 7, 10, 25, 1, 669, 0, 0, [])],
 [(144, .iload 6, 146, 6, 0, 0, 0, 0, 0, 0, []),
  (146, .iaload, 147, 0, 0, 0, 0, 0, 0, 0, []),
  (147, .if_icmp .le 9, 150, 156, 0, 0, 0, 0, 0, 0, []),
  (150, .ldc2_w 216, 153, 0, 0, 0, 0, 865, 0, 65536, []),
  (153, .goto 4, 156, 157, 0, 0, 0, 0, 0, 0, []),
  (156, .lconst 0, 157, 0, 0, 0, 0, 0, 0, 0, []),
  (157, .lsub, 158, 0, 0, 0, 0, 0, 0, 0, []),
  (158, .lstore 7, 160, 7, 0, 0, 0, 0, 0, 0, [])],
 [(160, .aload_n 0, 161, 0, 0, 0, 0, 0, 0, 0, []),
  (161, .iload 6, 163, 6, 0, 0, 0, 0, 0, 0, []),
  (163, .lload 7, 165, 7, 0, 0, 0, 0, 0, 0, []),
  (165, .iload 4, 167, 4, 0, 0, 0, 0, 0, 0, []),
  (167, .iload 5, 169, 5, 0, 0, 0, 0, 0, 0, []),
  (169, .invokevirtual 218, 172, 114, 5, 0, 0, 866, 0, 0, [0, 0]),
  (172, .iconst 1, 173, 0, 0, 0, 0, 0, 1, 0, []),
  (173, .ireturn, 174, 0, 0, 0, 0, 0, 0, 0, [])]]
def cd_X9_pass : List (List sd_I) := [[(0, .iload_n 1, 1, 1, 0, 0, 0, 0, 0, 0, []),
  (1, .i2l, 2, 0, 0, 0, 0, 0, 0, 0, []),
  (2, .lconst 0, 3, 0, 0, 0, 0, 0, 0, 0, []),
  (3, .ldc2_w 222, 6, 0, 0, 0, 0, 902, 0, 10000, []),
  (6, .invokestatic 106, 9, 91, 3, 1, 1, 788, 0, 0, [0, 0]),
  (9, .ifCond .ne 6, 12, 15, 0, 0, 0, 0, 0, 0, []),
  (12, .bipush (-2), 14, 0, 0, 0, 0, 0, (-2), 0, []),
  (14, .ireturn, 15, 0, 0, 0, 0, 0, 0, 0, []),
  (15, .aload_n 0, 16, 0, 0, 0, 0, 0, 0, 0, [])],
 [(16, .getfield 152, 19, 7, 0, 0, 0, 659, 0, 0, []),
  (19, .iload_n 1, 20, 1, 0, 0, 0, 0, 0, 0, []),
  (20, .iadd, 21, 0, 0, 0, 0, 0, 0, 0, []),
  (21, .ldc 224, 23, 0, 0, 0, 0, 903, 100000000, 0, []),
  (23, .if_icmp .le 6, 26, 29, 0, 0, 0, 0, 0, 0, []),
  (26, .bipush (-3), 28, 0, 0, 0, 0, 0, (-3), 0, []),
  (28, .ireturn, 29, 0, 0, 0, 0, 0, 0, 0, []),
  (29, .aload_n 0, 30, 0, 0, 0, 0, 0, 0, 0, []),
  (30, .dup, 31, 0, 0, 0, 0, 0, 0, 0, []),
  (31, .getfield 152, 34, 7, 0, 0, 0, 659, 0, 0, [])],
 [(34, .iload_n 1, 35, 1, 0, 0, 0, 0, 0, 0, []),
  (35, .iadd, 36, 0, 0, 0, 0, 0, 0, 0, []),
  (36, .putfield 152, 39, 7, 0, 0, 0, 659, 0, 0, []),
  (39, .iconst 0, 40, 0, 0, 0, 0, 0, 0, 0, []),
  (40, .istore_n 2, 41, 2, 0, 0, 0, 0, 0, 0, []),
  (41, .iconst 0, 42, 0, 0, 0, 0, 0, 0, 0, []),
  (42, .istore_n 3, 43, 3, 0, 0, 0, 0, 0, 0, []),
  (43, .iload_n 3, 44, 3, 0, 0, 0, 0, 0, 0, []),
  (44, .aload_n 0, 45, 0, 0, 0, 0, 0, 0, 0, []),
  (45, .getfield 139, 48, 7, 8, 0, 0, 667, 0, 0, [])],
 [(48, .if_icmp .ge 17, 51, 65, 0, 0, 0, 0, 0, 0, []),
  (51, .iload_n 2, 52, 2, 0, 0, 0, 0, 0, 0, []),
  (52, .aload_n 0, 53, 0, 0, 0, 0, 0, 0, 0, []),
  (53, .iload_n 3, 54, 3, 0, 0, 0, 0, 0, 0, []),
  (54, .invokevirtual 189, 57, 116, 2, 1, 0, 890, 0, 0, [0, 0]),
  (57, .iadd, 58, 0, 0, 0, 0, 0, 0, 0, []),
  (58, .istore_n 2, 59, 2, 0, 0, 0, 0, 0, 0, []),
  (59, .iinc 3 1, 62, 3, 0, 0, 0, 0, 1, 0, []),
  (62, .goto (-19), 65, 43, 0, 0, 0, 0, 0, 0, [])],
 [(65, .iload_n 2, 66, 2, 0, 0, 0, 0, 0, 0, []),
  (66, .ireturn, 67, 0, 0, 0, 0, 0, 0, 0, [])]]
def cd_X9_delay : List (List sd_I) := [[(0, .iload_n 1, 1, 1, 0, 0, 0, 0, 0, 0, []),
  (1, .i2l, 2, 0, 0, 0, 0, 0, 0, 0, []),
  (2, .lconst 0, 3, 0, 0, 0, 0, 0, 0, 0, []),
  (3, .ldc2_w 225, 6, 0, 0, 0, 0, 908, 0, 5000, []),
  (6, .invokestatic 106, 9, 91, 3, 1, 1, 788, 0, 0, [0, 0]),
  (9, .ifCond .ne 6, 12, 15, 0, 0, 0, 0, 0, 0, []),
  (12, .bipush (-2), 14, 0, 0, 0, 0, 0, (-2), 0, []),
  (14, .ireturn, 15, 0, 0, 0, 0, 0, 0, 0, []),
  (15, .aload_n 0, 16, 0, 0, 0, 0, 0, 0, 0, [])],
 [(16, .getfield 7, 19, 7, 1, 0, 0, 660, 0, 0, []),
  (19, .istore_n 2, 20, 2, 0, 0, 0, 0, 0, 0, []),
  (20, .aload_n 0, 21, 0, 0, 0, 0, 0, 0, 0, []),
  (21, .iload_n 1, 22, 1, 0, 0, 0, 0, 0, 0, []),
  (22, .putfield 7, 25, 7, 1, 0, 0, 660, 0, 0, []),
  (25, .iload_n 2, 26, 2, 0, 0, 0, 0, 0, 0, []),
  (26, .ireturn, 27, 0, 0, 0, 0, 0, 0, 0, [])]]
def cd_X9_isSender : List (List sd_I) := [[(0, .iload_n 1, 1, 1, 0, 0, 0, 0, 0, 0, []),
  (1, .i2l, 2, 0, 0, 0, 0, 0, 0, 0, []),
  (2, .lconst 0, 3, 0, 0, 0, 0, 0, 0, 0, []),
  (3, .aload_n 0, 4, 0, 0, 0, 0, 0, 0, 0, []),
  (4, .getfield 139, 7, 7, 8, 0, 0, 667, 0, 0, []),
  (7, .iconst 1, 8, 0, 0, 0, 0, 0, 1, 0, []),
  (8, .isub, 9, 0, 0, 0, 0, 0, 0, 0, []),
  (9, .i2l, 10, 0, 0, 0, 0, 0, 0, 0, []),
  (10, .invokestatic 106, 13, 91, 3, 1, 1, 788, 0, 0, [0, 0]),
  (13, .ireturn, 14, 0, 0, 0, 0, 0, 0, 0, [])]]
def cd_X9_dueOf : List (List sd_I) := [[(0, .aload_n 0, 1, 0, 0, 0, 0, 0, 0, 0, []),
  (1, .getfield 26, 4, 7, 11, 26, 1, 670, 0, 0, []),
  (4, .iload_n 1, 5, 1, 0, 0, 0, 0, 0, 0, []),
  (5, .iaload, 6, 0, 0, 0, 0, 0, 0, 0, []),
  (6, .aload_n 0, 7, 0, 0, 0, 0, 0, 0, 0, []),
  (7, .getfield 23, 10, 7, 10, 25, 1, 669, 0, 0, []),
  (10, .iload_n 1, 11, 1, 0, 0, 0, 0, 0, 0, []),
  (11, .iaload, 12, 0, 0, 0, 0, 0, 0, 0, []),
  (12, .iadd, 13, 0, 0, 0, 0, 0, 0, 0, []),
  (13, .aload_n 0, 14, 0, 0, 0, 0, 0, 0, 0, []),
  (14, .getfield 29, 17, 7, 12, 27, 1, 671, 0, 0, [])],
 [(17, .iload_n 1, 18, 1, 0, 0, 0, 0, 0, 0, []),
  (18, .iaload, 19, 0, 0, 0, 0, 0, 0, 0, []),
  (19, .isub, 20, 0, 0, 0, 0, 0, 0, 0, []),
  (20, .iconst 1, 21, 0, 0, 0, 0, 0, 1, 0, []),
  (21, .iadd, 22, 0, 0, 0, 0, 0, 0, 0, []),
  (22, .ireturn, 23, 0, 0, 0, 0, 0, 0, 0, [])]]
def cd_X9_lostOf : List (List sd_I) := [[(0, .aload_n 0, 1, 0, 0, 0, 0, 0, 0, 0, []),
  (1, .iload_n 1, 2, 1, 0, 0, 0, 0, 0, 0, []),
  (2, .invokevirtual 227, 5, 121, 2, 1, 0, 918, 0, 0, [0, 0]),
  (5, .aload_n 0, 6, 0, 0, 0, 0, 0, 0, 0, []),
  (6, .getfield 38, 9, 7, 15, 30, 1, 674, 0, 0, []),
  (9, .iload_n 1, 10, 1, 0, 0, 0, 0, 0, 0, []),
  (10, .iaload, 11, 0, 0, 0, 0, 0, 0, 0, []),
  (11, .isub, 12, 0, 0, 0, 0, 0, 0, 0, []),
  (12, .istore_n 2, 13, 2, 0, 0, 0, 0, 0, 0, []),
  (13, .iload_n 2, 14, 2, 0, 0, 0, 0, 0, 0, []),
  (14, .ldc 230, 16, 0, 0, 0, 0, 926, 8388607, 0, [])],
 [(16, .if_icmp .le 8, 19, 24, 0, 0, 0, 0, 0, 0, []),
  (19, .ldc 230, 21, 0, 0, 0, 0, 926, 8388607, 0, []),
  (21, .goto 15, 24, 36, 0, 0, 0, 0, 0, 0, []),
  (24, .iload_n 2, 25, 2, 0, 0, 0, 0, 0, 0, []),
  (25, .ldc 231, 27, 0, 0, 0, 0, 927, (-8388608), 0, []),
  (27, .if_icmp .ge 8, 30, 35, 0, 0, 0, 0, 0, 0, []),
  (30, .ldc 231, 32, 0, 0, 0, 0, 927, (-8388608), 0, [])],
 [(32, .goto 4, 35, 36, 0, 0, 0, 0, 0, 0, []),
  (35, .iload_n 2, 36, 2, 0, 0, 0, 0, 0, 0, []),
  (36, .ireturn, 37, 0, 0, 0, 0, 0, 0, 0, [])]]
def cd_X9_sender : List (List sd_I) := [[(0, .aload_n 0, 1, 0, 0, 0, 0, 0, 0, 0, []),
  (1, .iload_n 1, 2, 1, 0, 0, 0, 0, 0, 0, []),
  (2, .invokevirtual 232, 5, 120, 2, 1, 0, 913, 0, 0, [0, 0]),
  (5, .ifCond .ne 6, 8, 11, 0, 0, 0, 0, 0, 0, []),
  (8, .ldc 236, 10, 0, 0, 0, 0, 917, (-2147483648), 0, []),
  (10, .ireturn, 11, 0, 0, 0, 0, 0, 0, 0, []),
  (11, .iload_n 2, 12, 2, 0, 0, 0, 0, 0, 0, []),
  (12, .tableswitch 214 0 16 #[84, 91, 98, 105, 112, 119, 126, 133, 140, 159, 178, 178, 178, 178, 178, 193, 199], 96, 226, 0, 0, 0, 0, 0, 0, [96, 103, 110, 117, 124, 131, 138, 145, 152, 171, 190, 190, 190, 190, 190, 205, 211])],
 [],
 [],
 [],
 [],
 [],
 [(96, .aload_n 0, 97, 0, 0, 0, 0, 0, 0, 0, []),
  (97, .getfield 20, 100, 7, 9, 24, 1, 668, 0, 0, []),
  (100, .iload_n 1, 101, 1, 0, 0, 0, 0, 0, 0, []),
  (101, .iaload, 102, 0, 0, 0, 0, 0, 0, 0, []),
  (102, .ireturn, 103, 0, 0, 0, 0, 0, 0, 0, []),
  (103, .aload_n 0, 104, 0, 0, 0, 0, 0, 0, 0, []),
  (104, .getfield 23, 107, 7, 10, 25, 1, 669, 0, 0, []),
  (107, .iload_n 1, 108, 1, 0, 0, 0, 0, 0, 0, []),
  (108, .iaload, 109, 0, 0, 0, 0, 0, 0, 0, []),
  (109, .ireturn, 110, 0, 0, 0, 0, 0, 0, 0, []),
  (110, .aload_n 0, 111, 0, 0, 0, 0, 0, 0, 0, []),
  (111, .getfield 26, 114, 7, 11, 26, 1, 670, 0, 0, [])],
 [(114, .iload_n 1, 115, 1, 0, 0, 0, 0, 0, 0, []),
  (115, .iaload, 116, 0, 0, 0, 0, 0, 0, 0, []),
  (116, .ireturn, 117, 0, 0, 0, 0, 0, 0, 0, []),
  (117, .aload_n 0, 118, 0, 0, 0, 0, 0, 0, 0, []),
  (118, .getfield 29, 121, 7, 12, 27, 1, 671, 0, 0, []),
  (121, .iload_n 1, 122, 1, 0, 0, 0, 0, 0, 0, []),
  (122, .iaload, 123, 0, 0, 0, 0, 0, 0, 0, []),
  (123, .ireturn, 124, 0, 0, 0, 0, 0, 0, 0, []),
  (124, .aload_n 0, 125, 0, 0, 0, 0, 0, 0, 0, []),
  (125, .getfield 32, 128, 7, 13, 28, 1, 672, 0, 0, [])],
 [(128, .iload_n 1, 129, 1, 0, 0, 0, 0, 0, 0, []),
  (129, .iaload, 130, 0, 0, 0, 0, 0, 0, 0, []),
  (130, .ireturn, 131, 0, 0, 0, 0, 0, 0, 0, []),
  (131, .aload_n 0, 132, 0, 0, 0, 0, 0, 0, 0, []),
  (132, .getfield 35, 135, 7, 14, 29, 1, 673, 0, 0, []),
  (135, .iload_n 1, 136, 1, 0, 0, 0, 0, 0, 0, []),
  (136, .iaload, 137, 0, 0, 0, 0, 0, 0, 0, []),
  (137, .ireturn, 138, 0, 0, 0, 0, 0, 0, 0, []),
  (138, .aload_n 0, 139, 0, 0, 0, 0, 0, 0, 0, []),
  (139, .getfield 38, 142, 7, 15, 30, 1, 674, 0, 0, []),
  (142, .iload_n 1, 143, 1, 0, 0, 0, 0, 0, 0, []),
  (143, .iaload, 144, 0, 0, 0, 0, 0, 0, 0, [])],
 [(144, .ireturn, 145, 0, 0, 0, 0, 0, 0, 0, []),
  (145, .aload_n 0, 146, 0, 0, 0, 0, 0, 0, 0, []),
  (146, .getfield 54, 149, 7, 20, 35, 1, 679, 0, 0, []),
  (149, .iload_n 1, 150, 1, 0, 0, 0, 0, 0, 0, []),
  (150, .iaload, 151, 0, 0, 0, 0, 0, 0, 0, []),
  (151, .ireturn, 152, 0, 0, 0, 0, 0, 0, 0, []),
  (152, .aload_n 0, 153, 0, 0, 0, 0, 0, 0, 0, []),
  (153, .getfield 35, 156, 7, 14, 29, 1, 673, 0, 0, []),
  (156, .iload_n 1, 157, 1, 0, 0, 0, 0, 0, 0, []),
  (157, .iaload, 158, 0, 0, 0, 0, 0, 0, 0, []),
  (158, .ifCond .le 7, 161, 165, 0, 0, 0, 0, 0, 0, [])],
 [(161, .iconst 0, 162, 0, 0, 0, 0, 0, 0, 0, []),
  (162, .goto 8, 165, 170, 0, 0, 0, 0, 0, 0, []),
  (165, .aload_n 0, 166, 0, 0, 0, 0, 0, 0, 0, []),
  (166, .iload_n 1, 167, 1, 0, 0, 0, 0, 0, 0, []),
  (167, .invokevirtual 227, 170, 121, 2, 1, 0, 918, 0, 0, [0, 0]),
  (170, .ireturn, 171, 0, 0, 0, 0, 0, 0, 0, []),
  (171, .aload_n 0, 172, 0, 0, 0, 0, 0, 0, 0, []),
  (172, .getfield 35, 175, 7, 14, 29, 1, 673, 0, 0, []),
  (175, .iload_n 1, 176, 1, 0, 0, 0, 0, 0, 0, [])],
 [(176, .iaload, 177, 0, 0, 0, 0, 0, 0, 0, []),
  (177, .ifCond .le 7, 180, 184, 0, 0, 0, 0, 0, 0, []),
  (180, .iconst 0, 181, 0, 0, 0, 0, 0, 0, 0, []),
  (181, .goto 8, 184, 189, 0, 0, 0, 0, 0, 0, []),
  (184, .aload_n 0, 185, 0, 0, 0, 0, 0, 0, 0, []),
  (185, .iload_n 1, 186, 1, 0, 0, 0, 0, 0, 0, []),
  (186, .invokevirtual 237, 189, 122, 2, 1, 0, 922, 0, 0, [0, 0]),
  (189, .ireturn, 190, 0, 0, 0, 0, 0, 0, 0, []),
  (190, .aload_n 0, 191, 0, 0, 0, 0, 0, 0, 0, []),
  (191, .getfield 88, 194, 7, 31, 46, 1, 690, 0, 0, [])],
 [(194, .bipush 6, 196, 0, 0, 0, 0, 0, 6, 0, []),
  (196, .iload_n 1, 197, 1, 0, 0, 0, 0, 0, 0, []),
  (197, .imul, 198, 0, 0, 0, 0, 0, 0, 0, []),
  (198, .iload_n 2, 199, 2, 0, 0, 0, 0, 0, 0, []),
  (199, .iadd, 200, 0, 0, 0, 0, 0, 0, 0, []),
  (200, .bipush 9, 202, 0, 0, 0, 0, 0, 9, 0, []),
  (202, .isub, 203, 0, 0, 0, 0, 0, 0, 0, []),
  (203, .iaload, 204, 0, 0, 0, 0, 0, 0, 0, []),
  (204, .ireturn, 205, 0, 0, 0, 0, 0, 0, 0, []),
  (205, .aload_n 0, 206, 0, 0, 0, 0, 0, 0, 0, []),
  (206, .iload_n 1, 207, 1, 0, 0, 0, 0, 0, 0, []),
  (207, .invokevirtual 178, 210, 111, 2, 1, 0, 871, 0, 0, [0, 0])],
 [(210, .ireturn, 211, 0, 0, 0, 0, 0, 0, 0, []),
  (211, .aload_n 0, 212, 0, 0, 0, 0, 0, 0, 0, []),
  (212, .getfield 57, 215, 7, 21, 36, 1, 680, 0, 0, []),
  (215, .iload_n 1, 216, 1, 0, 0, 0, 0, 0, 0, []),
  (216, .baload, 217, 0, 0, 0, 0, 0, 0, 0, []),
  (217, .ifCond .eq 7, 220, 224, 0, 0, 0, 0, 0, 0, []),
  (220, .iconst 1, 221, 0, 0, 0, 0, 0, 1, 0, []),
  (221, .goto 4, 224, 225, 0, 0, 0, 0, 0, 0, [])],
 [(224, .iconst 0, 225, 0, 0, 0, 0, 0, 0, 0, []),
  (225, .ireturn, 226, 0, 0, 0, 0, 0, 0, 0, []),
  (226, .ldc 236, 228, 0, 0, 0, 0, 917, (-2147483648), 0, []),
  (228, .ireturn, 229, 0, 0, 0, 0, 0, 0, 0, [])]]
def cd_X9_next : List (List sd_I) := [[(0, .aload_n 0, 1, 0, 0, 0, 0, 0, 0, 0, []),
  (1, .iload_n 1, 2, 1, 0, 0, 0, 0, 0, 0, []),
  (2, .invokevirtual 232, 5, 120, 2, 1, 0, 913, 0, 0, [0, 0]),
  (5, .ifCond .eq 21, 8, 26, 0, 0, 0, 0, 0, 0, []),
  (8, .aload_n 0, 9, 0, 0, 0, 0, 0, 0, 0, []),
  (9, .getfield 69, 12, 7, 25, 40, 1, 684, 0, 0, []),
  (12, .iload_n 1, 13, 1, 0, 0, 0, 0, 0, 0, []),
  (13, .baload, 14, 0, 0, 0, 0, 0, 0, 0, []),
  (14, .ifCond .eq 12, 17, 26, 0, 0, 0, 0, 0, 0, [])],
 [(17, .aload_n 0, 18, 0, 0, 0, 0, 0, 0, 0, []),
  (18, .getfield 72, 21, 7, 26, 41, 1, 685, 0, 0, []),
  (21, .iload_n 1, 22, 1, 0, 0, 0, 0, 0, 0, []),
  (22, .laload, 23, 0, 0, 0, 0, 0, 0, 0, []),
  (23, .goto 4, 26, 27, 0, 0, 0, 0, 0, 0, []),
  (26, .lconst 0, 27, 0, 0, 0, 0, 0, 0, 0, []),
  (27, .lreturn, 28, 0, 0, 0, 0, 0, 0, 0, [])]]
def cd_X9_time : List (List sd_I) := [[(0, .aload_n 0, 1, 0, 0, 0, 0, 0, 0, 0, []),
  (1, .iload_n 1, 2, 1, 0, 0, 0, 0, 0, 0, []),
  (2, .invokevirtual 232, 5, 120, 2, 1, 0, 913, 0, 0, [0, 0]),
  (5, .ifCond .ne 7, 8, 12, 0, 0, 0, 0, 0, 0, []),
  (8, .ldc2_w 240, 11, 0, 0, 0, 0, 936, 0, (-2), []),
  (11, .lreturn, 12, 0, 0, 0, 0, 0, 0, 0, []),
  (12, .aload_n 0, 13, 0, 0, 0, 0, 0, 0, 0, []),
  (13, .getfield 69, 16, 7, 25, 40, 1, 684, 0, 0, [])],
 [(16, .iload_n 1, 17, 1, 0, 0, 0, 0, 0, 0, []),
  (17, .baload, 18, 0, 0, 0, 0, 0, 0, 0, []),
  (18, .ifCond .eq 29, 21, 47, 0, 0, 0, 0, 0, 0, []),
  (21, .lload_n 2, 22, 2, 0, 0, 0, 0, 0, 0, []),
  (22, .aload_n 0, 23, 0, 0, 0, 0, 0, 0, 0, []),
  (23, .getfield 72, 26, 7, 26, 41, 1, 685, 0, 0, []),
  (26, .iload_n 1, 27, 1, 0, 0, 0, 0, 0, 0, []),
  (27, .laload, 28, 0, 0, 0, 0, 0, 0, 0, []),
  (28, .lcmp, 29, 0, 0, 0, 0, 0, 0, 0, []),
  (29, .ifCond .lt 18, 32, 47, 0, 0, 0, 0, 0, 0, [])],
 [(32, .lload_n 2, 33, 2, 0, 0, 0, 0, 0, 0, []),
  (33, .aload_n 0, 34, 0, 0, 0, 0, 0, 0, 0, []),
  (34, .getfield 72, 37, 7, 26, 41, 1, 685, 0, 0, []),
  (37, .iload_n 1, 38, 1, 0, 0, 0, 0, 0, 0, []),
  (38, .laload, 39, 0, 0, 0, 0, 0, 0, 0, []),
  (39, .lsub, 40, 0, 0, 0, 0, 0, 0, 0, []),
  (40, .ldc2_w 242, 43, 0, 0, 0, 0, 937, 0, 31, []),
  (43, .lcmp, 44, 0, 0, 0, 0, 0, 0, 0, []),
  (44, .ifCond .le 7, 47, 51, 0, 0, 0, 0, 0, 0, []),
  (47, .ldc2_w 244, 50, 0, 0, 0, 0, 938, 0, (-1), [])],
 [(50, .lreturn, 51, 0, 0, 0, 0, 0, 0, 0, []),
  (51, .bipush 32, 53, 0, 0, 0, 0, 0, 32, 0, []),
  (53, .iload_n 1, 54, 1, 0, 0, 0, 0, 0, 0, []),
  (54, .imul, 55, 0, 0, 0, 0, 0, 0, 0, []),
  (55, .lload_n 2, 56, 2, 0, 0, 0, 0, 0, 0, []),
  (56, .aload_n 0, 57, 0, 0, 0, 0, 0, 0, 0, []),
  (57, .getfield 72, 60, 7, 26, 41, 1, 685, 0, 0, []),
  (60, .iload_n 1, 61, 1, 0, 0, 0, 0, 0, 0, []),
  (61, .laload, 62, 0, 0, 0, 0, 0, 0, 0, []),
  (62, .lsub, 63, 0, 0, 0, 0, 0, 0, 0, []),
  (63, .l2i, 64, 0, 0, 0, 0, 0, 0, 0, [])],
 [(64, .iadd, 65, 0, 0, 0, 0, 0, 0, 0, []),
  (65, .istore 4, 67, 4, 0, 0, 0, 0, 0, 0, []),
  (67, .aload_n 0, 68, 0, 0, 0, 0, 0, 0, 0, []),
  (68, .getfield 82, 71, 7, 29, 44, 1, 688, 0, 0, []),
  (71, .iload 4, 73, 4, 0, 0, 0, 0, 0, 0, []),
  (73, .baload, 74, 0, 0, 0, 0, 0, 0, 0, []),
  (74, .ifCond .eq 13, 77, 87, 0, 0, 0, 0, 0, 0, []),
  (77, .aload_n 0, 78, 0, 0, 0, 0, 0, 0, 0, []),
  (78, .getfield 85, 81, 7, 30, 45, 1, 689, 0, 0, [])],
 [(81, .iload 4, 83, 4, 0, 0, 0, 0, 0, 0, []),
  (83, .laload, 84, 0, 0, 0, 0, 0, 0, 0, []),
  (84, .goto 6, 87, 90, 0, 0, 0, 0, 0, 0, []),
  (87, .ldc2_w 244, 90, 0, 0, 0, 0, 938, 0, (-1), []),
  (90, .lreturn, 91, 0, 0, 0, 0, 0, 0, 0, [])]]
def cd_X9_event : List (List sd_I) := [[(0, .iload_n 1, 1, 1, 0, 0, 0, 0, 0, 0, []),
  (1, .i2l, 2, 0, 0, 0, 0, 0, 0, 0, []),
  (2, .lconst 0, 3, 0, 0, 0, 0, 0, 0, 0, []),
  (3, .ldc2_w 246, 6, 0, 0, 0, 0, 943, 0, 63, []),
  (6, .invokestatic 106, 9, 91, 3, 1, 1, 788, 0, 0, [0, 0]),
  (9, .ifCond .eq 11, 12, 20, 0, 0, 0, 0, 0, 0, []),
  (12, .iload_n 1, 13, 1, 0, 0, 0, 0, 0, 0, []),
  (13, .aload_n 0, 14, 0, 0, 0, 0, 0, 0, 0, []),
  (14, .getfield 149, 17, 7, 35, 0, 0, 694, 0, 0, [])],
 [(17, .if_icmp .lt 7, 20, 24, 0, 0, 0, 0, 0, 0, []),
  (20, .ldc2_w 244, 23, 0, 0, 0, 0, 938, 0, (-1), []),
  (23, .lreturn, 24, 0, 0, 0, 0, 0, 0, 0, []),
  (24, .iload_n 2, 25, 2, 0, 0, 0, 0, 0, 0, []),
  (25, .i2l, 26, 0, 0, 0, 0, 0, 0, 0, []),
  (26, .lconst 0, 27, 0, 0, 0, 0, 0, 0, 0, []),
  (27, .ldc2_w 248, 30, 0, 0, 0, 0, 944, 0, 3, []),
  (30, .invokestatic 106, 33, 91, 3, 1, 1, 788, 0, 0, [0, 0])],
 [(33, .ifCond .eq 26, 36, 59, 0, 0, 0, 0, 0, 0, []),
  (36, .aload_n 0, 37, 0, 0, 0, 0, 0, 0, 0, []),
  (37, .getfield 91, 40, 7, 36, 47, 1, 695, 0, 0, []),
  (40, .iconst 4, 41, 0, 0, 0, 0, 0, 4, 0, []),
  (41, .aload_n 0, 42, 0, 0, 0, 0, 0, 0, 0, []),
  (42, .getfield 149, 45, 7, 35, 0, 0, 694, 0, 0, []),
  (45, .iconst 1, 46, 0, 0, 0, 0, 0, 1, 0, []),
  (46, .isub, 47, 0, 0, 0, 0, 0, 0, 0, []),
  (47, .iload_n 1, 48, 1, 0, 0, 0, 0, 0, 0, [])],
 [(48, .isub, 49, 0, 0, 0, 0, 0, 0, 0, []),
  (49, .bipush 64, 51, 0, 0, 0, 0, 0, 64, 0, []),
  (51, .irem, 52, 0, 0, 0, 0, 0, 0, 0, []),
  (52, .imul, 53, 0, 0, 0, 0, 0, 0, 0, []),
  (53, .iload_n 2, 54, 2, 0, 0, 0, 0, 0, 0, []),
  (54, .iadd, 55, 0, 0, 0, 0, 0, 0, 0, []),
  (55, .laload, 56, 0, 0, 0, 0, 0, 0, 0, []),
  (56, .goto 6, 59, 62, 0, 0, 0, 0, 0, 0, []),
  (59, .ldc2_w 240, 62, 0, 0, 0, 0, 936, 0, (-2), []),
  (62, .lreturn, 63, 0, 0, 0, 0, 0, 0, 0, [])]]
def cd_X9_putBlock : List (List sd_I) := [[(0, .aload_n 0, 1, 0, 0, 0, 0, 0, 0, 0, []),
  (1, .iload_n 1, 2, 1, 0, 0, 0, 0, 0, 0, []),
  (2, .invokevirtual 227, 5, 121, 2, 1, 0, 918, 0, 0, [0, 0]),
  (5, .istore_n 2, 6, 2, 0, 0, 0, 0, 0, 0, []),
  (6, .iload_n 2, 7, 2, 0, 0, 0, 0, 0, 0, []),
  (7, .aload_n 0, 8, 0, 0, 0, 0, 0, 0, 0, []),
  (8, .getfield 44, 11, 7, 17, 32, 1, 676, 0, 0, []),
  (11, .iload_n 1, 12, 1, 0, 0, 0, 0, 0, 0, []),
  (12, .iaload, 13, 0, 0, 0, 0, 0, 0, 0, []),
  (13, .isub, 14, 0, 0, 0, 0, 0, 0, 0, []),
  (14, .istore_n 3, 15, 3, 0, 0, 0, 0, 0, 0, []),
  (15, .iload_n 3, 16, 3, 0, 0, 0, 0, 0, 0, [])],
 [(16, .aload_n 0, 17, 0, 0, 0, 0, 0, 0, 0, []),
  (17, .getfield 38, 20, 7, 15, 30, 1, 674, 0, 0, []),
  (20, .iload_n 1, 21, 1, 0, 0, 0, 0, 0, 0, []),
  (21, .iaload, 22, 0, 0, 0, 0, 0, 0, 0, []),
  (22, .aload_n 0, 23, 0, 0, 0, 0, 0, 0, 0, []),
  (23, .getfield 41, 26, 7, 16, 31, 1, 675, 0, 0, []),
  (26, .iload_n 1, 27, 1, 0, 0, 0, 0, 0, 0, []),
  (27, .iaload, 28, 0, 0, 0, 0, 0, 0, 0, []),
  (28, .isub, 29, 0, 0, 0, 0, 0, 0, 0, []),
  (29, .isub, 30, 0, 0, 0, 0, 0, 0, 0, []),
  (30, .istore 4, 32, 4, 0, 0, 0, 0, 0, 0, [])],
 [(32, .aload_n 0, 33, 0, 0, 0, 0, 0, 0, 0, []),
  (33, .getfield 44, 36, 7, 17, 32, 1, 676, 0, 0, []),
  (36, .iload_n 1, 37, 1, 0, 0, 0, 0, 0, 0, []),
  (37, .iload_n 2, 38, 2, 0, 0, 0, 0, 0, 0, []),
  (38, .iastore, 39, 0, 0, 0, 0, 0, 0, 0, []),
  (39, .aload_n 0, 40, 0, 0, 0, 0, 0, 0, 0, []),
  (40, .getfield 41, 43, 7, 16, 31, 1, 675, 0, 0, []),
  (43, .iload_n 1, 44, 1, 0, 0, 0, 0, 0, 0, []),
  (44, .aload_n 0, 45, 0, 0, 0, 0, 0, 0, 0, []),
  (45, .getfield 38, 48, 7, 15, 30, 1, 674, 0, 0, [])],
 [(48, .iload_n 1, 49, 1, 0, 0, 0, 0, 0, 0, []),
  (49, .iaload, 50, 0, 0, 0, 0, 0, 0, 0, []),
  (50, .iastore, 51, 0, 0, 0, 0, 0, 0, 0, []),
  (51, .aload_n 0, 52, 0, 0, 0, 0, 0, 0, 0, []),
  (52, .aload_n 0, 53, 0, 0, 0, 0, 0, 0, 0, []),
  (53, .getfield 20, 56, 7, 9, 24, 1, 668, 0, 0, []),
  (56, .iload_n 1, 57, 1, 0, 0, 0, 0, 0, 0, []),
  (57, .iaload, 58, 0, 0, 0, 0, 0, 0, 0, []),
  (58, .iconst 4, 59, 0, 0, 0, 0, 0, 4, 0, []),
  (59, .invokevirtual 250, 62, 93, 3, 0, 0, 949, 0, 0, [0, 0]),
  (62, .aload_n 0, 63, 0, 0, 0, 0, 0, 0, 0, []),
  (63, .iload_n 3, 64, 3, 0, 0, 0, 0, 0, 0, [])],
 [(64, .ifCond .eq 8, 67, 72, 0, 0, 0, 0, 0, 0, []),
  (67, .iload 4, 69, 4, 0, 0, 0, 0, 0, 0, []),
  (69, .ifCond .gt 7, 72, 76, 0, 0, 0, 0, 0, 0, []),
  (72, .iconst 0, 73, 0, 0, 0, 0, 0, 0, 0, []),
  (73, .goto 14, 76, 87, 0, 0, 0, 0, 0, 0, []),
  (76, .ldc2_w 253, 79, 0, 0, 0, 0, 957, 0, 256, []),
  (79, .iload 4, 81, 4, 0, 0, 0, 0, 0, 0, [])],
 [(81, .i2l, 82, 0, 0, 0, 0, 0, 0, 0, []),
  (82, .lmul, 83, 0, 0, 0, 0, 0, 0, 0, []),
  (83, .iload_n 3, 84, 3, 0, 0, 0, 0, 0, 0, []),
  (84, .i2l, 85, 0, 0, 0, 0, 0, 0, 0, []),
  (85, .ldiv, 86, 0, 0, 0, 0, 0, 0, 0, []),
  (86, .l2i, 87, 0, 0, 0, 0, 0, 0, 0, []),
  (87, .invokevirtual 100, 90, 92, 2, 0, 0, 791, 0, 0, [0, 0]),
  (90, .aload_n 0, 91, 0, 0, 0, 0, 0, 0, 0, []),
  (91, .aload_n 0, 92, 0, 0, 0, 0, 0, 0, 0, []),
  (92, .iload_n 1, 93, 1, 0, 0, 0, 0, 0, 0, []),
  (93, .invokevirtual 237, 96, 122, 2, 1, 0, 922, 0, 0, [0, 0])],
 [(96, .iconst 3, 97, 0, 0, 0, 0, 0, 3, 0, []),
  (97, .invokevirtual 250, 100, 93, 3, 0, 0, 949, 0, 0, [0, 0]),
  (100, .aload_n 0, 101, 0, 0, 0, 0, 0, 0, 0, []),
  (101, .aload_n 0, 102, 0, 0, 0, 0, 0, 0, 0, []),
  (102, .getfield 26, 105, 7, 11, 26, 1, 670, 0, 0, []),
  (105, .iload_n 1, 106, 1, 0, 0, 0, 0, 0, 0, []),
  (106, .iaload, 107, 0, 0, 0, 0, 0, 0, 0, []),
  (107, .aload_n 0, 108, 0, 0, 0, 0, 0, 0, 0, []),
  (108, .getfield 23, 111, 7, 10, 25, 1, 669, 0, 0, []),
  (111, .iload_n 1, 112, 1, 0, 0, 0, 0, 0, 0, [])],
 [(112, .iaload, 113, 0, 0, 0, 0, 0, 0, 0, []),
  (113, .iadd, 114, 0, 0, 0, 0, 0, 0, 0, []),
  (114, .iconst 4, 115, 0, 0, 0, 0, 0, 4, 0, []),
  (115, .invokevirtual 250, 118, 93, 3, 0, 0, 949, 0, 0, [0, 0]),
  (118, .aload_n 0, 119, 0, 0, 0, 0, 0, 0, 0, []),
  (119, .aload_n 0, 120, 0, 0, 0, 0, 0, 0, 0, []),
  (120, .getfield 54, 123, 7, 20, 35, 1, 679, 0, 0, []),
  (123, .iload_n 1, 124, 1, 0, 0, 0, 0, 0, 0, []),
  (124, .iaload, 125, 0, 0, 0, 0, 0, 0, 0, []),
  (125, .iconst 4, 126, 0, 0, 0, 0, 0, 4, 0, []),
  (126, .ishr, 127, 0, 0, 0, 0, 0, 0, 0, []),
  (127, .iconst 4, 128, 0, 0, 0, 0, 0, 4, 0, [])],
 [(128, .invokevirtual 250, 131, 93, 3, 0, 0, 949, 0, 0, [0, 0]),
  (131, .aload_n 0, 132, 0, 0, 0, 0, 0, 0, 0, []),
  (132, .aload_n 0, 133, 0, 0, 0, 0, 0, 0, 0, []),
  (133, .getfield 60, 136, 7, 22, 37, 1, 681, 0, 0, []),
  (136, .iload_n 1, 137, 1, 0, 0, 0, 0, 0, 0, []),
  (137, .baload, 138, 0, 0, 0, 0, 0, 0, 0, []),
  (138, .ifCond .eq 12, 141, 150, 0, 0, 0, 0, 0, 0, []),
  (141, .aload_n 0, 142, 0, 0, 0, 0, 0, 0, 0, []),
  (142, .getfield 63, 145, 7, 23, 38, 1, 682, 0, 0, [])],
 [(145, .iload_n 1, 146, 1, 0, 0, 0, 0, 0, 0, []),
  (146, .iaload, 147, 0, 0, 0, 0, 0, 0, 0, []),
  (147, .goto 4, 150, 151, 0, 0, 0, 0, 0, 0, []),
  (150, .iconst 0, 151, 0, 0, 0, 0, 0, 0, 0, []),
  (151, .iconst 4, 152, 0, 0, 0, 0, 0, 4, 0, []),
  (152, .invokevirtual 250, 155, 93, 3, 0, 0, 949, 0, 0, [0, 0]),
  (155, .aload_n 0, 156, 0, 0, 0, 0, 0, 0, 0, []),
  (156, .aload_n 0, 157, 0, 0, 0, 0, 0, 0, 0, []),
  (157, .getfield 60, 160, 7, 22, 37, 1, 681, 0, 0, [])],
 [(160, .iload_n 1, 161, 1, 0, 0, 0, 0, 0, 0, []),
  (161, .baload, 162, 0, 0, 0, 0, 0, 0, 0, []),
  (162, .ifCond .eq 27, 165, 189, 0, 0, 0, 0, 0, 0, []),
  (165, .aload_n 0, 166, 0, 0, 0, 0, 0, 0, 0, []),
  (166, .getfield 152, 169, 7, 0, 0, 0, 659, 0, 0, []),
  (169, .aload_n 0, 170, 0, 0, 0, 0, 0, 0, 0, []),
  (170, .getfield 66, 173, 7, 24, 39, 1, 683, 0, 0, []),
  (173, .iload_n 1, 174, 1, 0, 0, 0, 0, 0, 0, []),
  (174, .iaload, 175, 0, 0, 0, 0, 0, 0, 0, []),
  (175, .isub, 176, 0, 0, 0, 0, 0, 0, 0, [])],
 [(176, .i2l, 177, 0, 0, 0, 0, 0, 0, 0, []),
  (177, .ldc2_w 216, 180, 0, 0, 0, 0, 865, 0, 65536, []),
  (180, .lmul, 181, 0, 0, 0, 0, 0, 0, 0, []),
  (181, .ldc2_w 167, 184, 0, 0, 0, 0, 864, 0, 1000, []),
  (184, .ldiv, 185, 0, 0, 0, 0, 0, 0, 0, []),
  (185, .l2i, 186, 0, 0, 0, 0, 0, 0, 0, []),
  (186, .goto 4, 189, 190, 0, 0, 0, 0, 0, 0, []),
  (189, .iconst 0, 190, 0, 0, 0, 0, 0, 0, 0, []),
  (190, .iconst 4, 191, 0, 0, 0, 0, 0, 4, 0, []),
  (191, .invokevirtual 250, 194, 93, 3, 0, 0, 949, 0, 0, [0, 0])],
 [(194, .return_, 195, 0, 0, 0, 0, 0, 0, 0, [])]]
def cd_X9_report : List (List sd_I) := [[(0, .aload_n 0, 1, 0, 0, 0, 0, 0, 0, 0, []),
  (1, .iload_n 1, 2, 1, 0, 0, 0, 0, 0, 0, []),
  (2, .putfield 255, 5, 7, 38, 0, 0, 697, 0, 0, []),
  (5, .iconst 0, 6, 0, 0, 0, 0, 0, 0, 0, []),
  (6, .istore_n 2, 7, 2, 0, 0, 0, 0, 0, 0, []),
  (7, .iconst 0, 8, 0, 0, 0, 0, 0, 0, 0, []),
  (8, .istore_n 3, 9, 3, 0, 0, 0, 0, 0, 0, []),
  (9, .iload_n 3, 10, 3, 0, 0, 0, 0, 0, 0, []),
  (10, .aload_n 0, 11, 0, 0, 0, 0, 0, 0, 0, []),
  (11, .getfield 139, 14, 7, 8, 0, 0, 667, 0, 0, []),
  (14, .if_icmp .ge 35, 17, 49, 0, 0, 0, 0, 0, 0, [])],
 [(17, .iload_n 2, 18, 2, 0, 0, 0, 0, 0, 0, []),
  (18, .aload_n 0, 19, 0, 0, 0, 0, 0, 0, 0, []),
  (19, .getfield 35, 22, 7, 14, 29, 1, 673, 0, 0, []),
  (22, .iload_n 3, 23, 3, 0, 0, 0, 0, 0, 0, []),
  (23, .iaload, 24, 0, 0, 0, 0, 0, 0, 0, []),
  (24, .ifCond .ne 16, 27, 40, 0, 0, 0, 0, 0, 0, []),
  (27, .aload_n 0, 28, 0, 0, 0, 0, 0, 0, 0, []),
  (28, .getfield 57, 31, 7, 21, 36, 1, 680, 0, 0, []),
  (31, .iload_n 3, 32, 3, 0, 0, 0, 0, 0, 0, [])],
 [(32, .baload, 33, 0, 0, 0, 0, 0, 0, 0, []),
  (33, .ifCond .ne 7, 36, 40, 0, 0, 0, 0, 0, 0, []),
  (36, .iconst 1, 37, 0, 0, 0, 0, 0, 1, 0, []),
  (37, .goto 4, 40, 41, 0, 0, 0, 0, 0, 0, []),
  (40, .iconst 0, 41, 0, 0, 0, 0, 0, 0, 0, []),
  (41, .iadd, 42, 0, 0, 0, 0, 0, 0, 0, []),
  (42, .istore_n 2, 43, 2, 0, 0, 0, 0, 0, 0, []),
  (43, .iinc 3 1, 46, 3, 0, 0, 0, 0, 1, 0, []),
  (46, .goto (-37), 49, 9, 0, 0, 0, 0, 0, 0, [])],
 [(49, .aload_n 0, 50, 0, 0, 0, 0, 0, 0, 0, []),
  (50, .iconst 0, 51, 0, 0, 0, 0, 0, 0, 0, []),
  (51, .putfield 97, 54, 7, 2, 0, 0, 661, 0, 0, []),
  (54, .aload_n 0, 55, 0, 0, 0, 0, 0, 0, 0, []),
  (55, .sipush 128, 58, 0, 0, 0, 0, 0, 128, 0, []),
  (58, .iload_n 2, 59, 2, 0, 0, 0, 0, 0, 0, []),
  (59, .iadd, 60, 0, 0, 0, 0, 0, 0, 0, []),
  (60, .invokevirtual 100, 63, 92, 2, 0, 0, 791, 0, 0, [0, 0]),
  (63, .aload_n 0, 64, 0, 0, 0, 0, 0, 0, 0, [])],
 [(64, .sipush 201, 67, 0, 0, 0, 0, 0, 201, 0, []),
  (67, .invokevirtual 100, 70, 92, 2, 0, 0, 791, 0, 0, [0, 0]),
  (70, .aload_n 0, 71, 0, 0, 0, 0, 0, 0, 0, []),
  (71, .iconst 1, 72, 0, 0, 0, 0, 0, 1, 0, []),
  (72, .bipush 6, 74, 0, 0, 0, 0, 0, 6, 0, []),
  (74, .iload_n 2, 75, 2, 0, 0, 0, 0, 0, 0, []),
  (75, .imul, 76, 0, 0, 0, 0, 0, 0, 0, []),
  (76, .iadd, 77, 0, 0, 0, 0, 0, 0, 0, []),
  (77, .iconst 2, 78, 0, 0, 0, 0, 0, 2, 0, []),
  (78, .invokevirtual 250, 81, 93, 3, 0, 0, 949, 0, 0, [0, 0])],
 [(81, .aload_n 0, 82, 0, 0, 0, 0, 0, 0, 0, []),
  (82, .iload_n 1, 83, 1, 0, 0, 0, 0, 0, 0, []),
  (83, .iconst 4, 84, 0, 0, 0, 0, 0, 4, 0, []),
  (84, .invokevirtual 250, 87, 93, 3, 0, 0, 949, 0, 0, [0, 0]),
  (87, .iconst 0, 88, 0, 0, 0, 0, 0, 0, 0, []),
  (88, .istore_n 3, 89, 3, 0, 0, 0, 0, 0, 0, []),
  (89, .iload_n 3, 90, 3, 0, 0, 0, 0, 0, 0, []),
  (90, .aload_n 0, 91, 0, 0, 0, 0, 0, 0, 0, []),
  (91, .getfield 139, 94, 7, 8, 0, 0, 667, 0, 0, []),
  (94, .if_icmp .ge 32, 97, 126, 0, 0, 0, 0, 0, 0, [])],
 [(97, .aload_n 0, 98, 0, 0, 0, 0, 0, 0, 0, []),
  (98, .getfield 35, 101, 7, 14, 29, 1, 673, 0, 0, []),
  (101, .iload_n 3, 102, 3, 0, 0, 0, 0, 0, 0, []),
  (102, .iaload, 103, 0, 0, 0, 0, 0, 0, 0, []),
  (103, .ifCond .ne 17, 106, 120, 0, 0, 0, 0, 0, 0, []),
  (106, .aload_n 0, 107, 0, 0, 0, 0, 0, 0, 0, []),
  (107, .getfield 57, 110, 7, 21, 36, 1, 680, 0, 0, []),
  (110, .iload_n 3, 111, 3, 0, 0, 0, 0, 0, 0, []),
  (111, .baload, 112, 0, 0, 0, 0, 0, 0, 0, [])],
 [(112, .ifCond .ne 8, 115, 120, 0, 0, 0, 0, 0, 0, []),
  (115, .aload_n 0, 116, 0, 0, 0, 0, 0, 0, 0, []),
  (116, .iload_n 3, 117, 3, 0, 0, 0, 0, 0, 0, []),
  (117, .invokevirtual 258, 120, 127, 2, 0, 0, 953, 0, 0, [0, 0]),
  (120, .iinc 3 1, 123, 3, 0, 0, 0, 0, 1, 0, []),
  (123, .goto (-34), 126, 89, 0, 0, 0, 0, 0, 0, []),
  (126, .aload_n 0, 127, 0, 0, 0, 0, 0, 0, 0, []),
  (127, .getfield 97, 130, 7, 2, 0, 0, 661, 0, 0, [])],
 [(130, .ireturn, 131, 0, 0, 0, 0, 0, 0, 0, [])]]
def cd_X9_endOf : List (List sd_I) := [[(0, .iload_n 1, 1, 1, 0, 0, 0, 0, 0, 0, []),
  (1, .iconst 4, 2, 0, 0, 0, 0, 0, 4, 0, []),
  (2, .iadd, 3, 0, 0, 0, 0, 0, 0, 0, []),
  (3, .iconst 4, 4, 0, 0, 0, 0, 0, 4, 0, []),
  (4, .aload_n 0, 5, 0, 0, 0, 0, 0, 0, 0, []),
  (5, .iload_n 1, 6, 1, 0, 0, 0, 0, 0, 0, []),
  (6, .iconst 2, 7, 0, 0, 0, 0, 0, 2, 0, []),
  (7, .iadd, 8, 0, 0, 0, 0, 0, 0, 0, []),
  (8, .invokevirtual 122, 11, 99, 2, 1, 0, 827, 0, 0, [0, 0]),
  (11, .imul, 12, 0, 0, 0, 0, 0, 0, 0, []),
  (12, .iadd, 13, 0, 0, 0, 0, 0, 0, 0, []),
  (13, .ireturn, 14, 0, 0, 0, 0, 0, 0, 0, [])]]
def cd_X9_partFault : List (List sd_I) := [[(0, .aload_n 0, 1, 0, 0, 0, 0, 0, 0, 0, []),
  (1, .getfield 13, 4, 7, 3, 22, 1, 662, 0, 0, []),
  (4, .iload_n 1, 5, 1, 0, 0, 0, 0, 0, 0, []),
  (5, .iaload, 6, 0, 0, 0, 0, 0, 0, 0, []),
  (6, .bipush 6, 8, 0, 0, 0, 0, 0, 6, 0, []),
  (8, .ishr, 9, 0, 0, 0, 0, 0, 0, 0, []),
  (9, .iconst 2, 10, 0, 0, 0, 0, 0, 2, 0, []),
  (10, .if_icmp .eq 6, 13, 16, 0, 0, 0, 0, 0, 0, []),
  (13, .bipush 13, 15, 0, 0, 0, 0, 0, 13, 0, []),
  (15, .ireturn, 16, 0, 0, 0, 0, 0, 0, 0, [])],
 [(16, .aload_n 0, 17, 0, 0, 0, 0, 0, 0, 0, []),
  (17, .iload_n 1, 18, 1, 0, 0, 0, 0, 0, 0, []),
  (18, .invokevirtual 261, 21, 129, 2, 1, 0, 972, 0, 0, [0, 0]),
  (21, .istore_n 2, 22, 2, 0, 0, 0, 0, 0, 0, []),
  (22, .iload_n 2, 23, 2, 0, 0, 0, 0, 0, 0, []),
  (23, .aload_n 0, 24, 0, 0, 0, 0, 0, 0, 0, []),
  (24, .getfield 97, 27, 7, 2, 0, 0, 661, 0, 0, []),
  (27, .if_icmp .le 6, 30, 33, 0, 0, 0, 0, 0, 0, []),
  (30, .bipush 14, 32, 0, 0, 0, 0, 0, 14, 0, [])],
 [(32, .ireturn, 33, 0, 0, 0, 0, 0, 0, 0, []),
  (33, .aload_n 0, 34, 0, 0, 0, 0, 0, 0, 0, []),
  (34, .getfield 13, 37, 7, 3, 22, 1, 662, 0, 0, []),
  (37, .iload_n 1, 38, 1, 0, 0, 0, 0, 0, 0, []),
  (38, .iaload, 39, 0, 0, 0, 0, 0, 0, 0, []),
  (39, .bipush 31, 41, 0, 0, 0, 0, 0, 31, 0, []),
  (41, .iand, 42, 0, 0, 0, 0, 0, 0, 0, []),
  (42, .istore_n 3, 43, 3, 0, 0, 0, 0, 0, 0, []),
  (43, .aload_n 0, 44, 0, 0, 0, 0, 0, 0, 0, []),
  (44, .getfield 13, 47, 7, 3, 22, 1, 662, 0, 0, []),
  (47, .iload_n 1, 48, 1, 0, 0, 0, 0, 0, 0, [])],
 [(48, .iconst 1, 49, 0, 0, 0, 0, 0, 1, 0, []),
  (49, .iadd, 50, 0, 0, 0, 0, 0, 0, 0, []),
  (50, .iaload, 51, 0, 0, 0, 0, 0, 0, 0, []),
  (51, .istore 4, 53, 4, 0, 0, 0, 0, 0, 0, []),
  (53, .iload 4, 55, 4, 0, 0, 0, 0, 0, 0, []),
  (55, .sipush 200, 58, 0, 0, 0, 0, 0, 200, 0, []),
  (58, .if_icmp .ne 13, 61, 71, 0, 0, 0, 0, 0, 0, []),
  (61, .bipush 28, 63, 0, 0, 0, 0, 0, 28, 0, []),
  (63, .bipush 24, 65, 0, 0, 0, 0, 0, 24, 0, [])],
 [(65, .iload_n 3, 66, 3, 0, 0, 0, 0, 0, 0, []),
  (66, .imul, 67, 0, 0, 0, 0, 0, 0, 0, []),
  (67, .iadd, 68, 0, 0, 0, 0, 0, 0, 0, []),
  (68, .goto 38, 71, 106, 0, 0, 0, 0, 0, 0, []),
  (71, .iload 4, 73, 4, 0, 0, 0, 0, 0, 0, []),
  (73, .sipush 201, 76, 0, 0, 0, 0, 0, 201, 0, []),
  (76, .if_icmp .ne 13, 79, 89, 0, 0, 0, 0, 0, 0, []),
  (79, .bipush 8, 81, 0, 0, 0, 0, 0, 8, 0, [])],
 [(81, .bipush 24, 83, 0, 0, 0, 0, 0, 24, 0, []),
  (83, .iload_n 3, 84, 3, 0, 0, 0, 0, 0, 0, []),
  (84, .imul, 85, 0, 0, 0, 0, 0, 0, 0, []),
  (85, .iadd, 86, 0, 0, 0, 0, 0, 0, 0, []),
  (86, .goto 20, 89, 106, 0, 0, 0, 0, 0, 0, []),
  (89, .iload 4, 91, 4, 0, 0, 0, 0, 0, 0, []),
  (91, .sipush 203, 94, 0, 0, 0, 0, 0, 203, 0, []),
  (94, .if_icmp .ne 11, 97, 105, 0, 0, 0, 0, 0, 0, [])],
 [(97, .iconst 4, 98, 0, 0, 0, 0, 0, 4, 0, []),
  (98, .iconst 4, 99, 0, 0, 0, 0, 0, 4, 0, []),
  (99, .iload_n 3, 100, 3, 0, 0, 0, 0, 0, 0, []),
  (100, .imul, 101, 0, 0, 0, 0, 0, 0, 0, []),
  (101, .iadd, 102, 0, 0, 0, 0, 0, 0, 0, []),
  (102, .goto 4, 105, 106, 0, 0, 0, 0, 0, 0, []),
  (105, .iconst 4, 106, 0, 0, 0, 0, 0, 4, 0, []),
  (106, .istore 5, 108, 5, 0, 0, 0, 0, 0, 0, []),
  (108, .iload_n 2, 109, 2, 0, 0, 0, 0, 0, 0, []),
  (109, .iload_n 1, 110, 1, 0, 0, 0, 0, 0, 0, []),
  (110, .isub, 111, 0, 0, 0, 0, 0, 0, 0, []),
  (111, .iload 5, 113, 5, 0, 0, 0, 0, 0, 0, [])],
 [(113, .if_icmp .ge 6, 116, 119, 0, 0, 0, 0, 0, 0, []),
  (116, .bipush 15, 118, 0, 0, 0, 0, 0, 15, 0, []),
  (118, .ireturn, 119, 0, 0, 0, 0, 0, 0, 0, []),
  (119, .aload_n 0, 120, 0, 0, 0, 0, 0, 0, 0, []),
  (120, .getfield 13, 123, 7, 3, 22, 1, 662, 0, 0, []),
  (123, .iload_n 1, 124, 1, 0, 0, 0, 0, 0, 0, []),
  (124, .iaload, 125, 0, 0, 0, 0, 0, 0, 0, []),
  (125, .iconst 5, 126, 0, 0, 0, 0, 0, 5, 0, []),
  (126, .ishr, 127, 0, 0, 0, 0, 0, 0, 0, []),
  (127, .iconst 1, 128, 0, 0, 0, 0, 0, 1, 0, [])],
 [(128, .iand, 129, 0, 0, 0, 0, 0, 0, 0, []),
  (129, .iconst 1, 130, 0, 0, 0, 0, 0, 1, 0, []),
  (130, .if_icmp .ne 7, 133, 137, 0, 0, 0, 0, 0, 0, []),
  (133, .iconst 1, 134, 0, 0, 0, 0, 0, 1, 0, []),
  (134, .goto 4, 137, 138, 0, 0, 0, 0, 0, 0, []),
  (137, .iconst 0, 138, 0, 0, 0, 0, 0, 0, 0, []),
  (138, .istore 6, 140, 6, 0, 0, 0, 0, 0, 0, []),
  (140, .iload 4, 142, 4, 0, 0, 0, 0, 0, 0, []),
  (142, .i2l, 143, 0, 0, 0, 0, 0, 0, 0, []),
  (143, .ldc2_w 264, 146, 0, 0, 0, 0, 966, 0, 200, [])],
 [(146, .ldc2_w 266, 149, 0, 0, 0, 0, 976, 0, 203, []),
  (149, .invokestatic 106, 152, 91, 3, 1, 1, 788, 0, 0, [0, 0]),
  (152, .ifCond .eq 16, 155, 168, 0, 0, 0, 0, 0, 0, []),
  (155, .iload 6, 157, 6, 0, 0, 0, 0, 0, 0, []),
  (157, .ifCond .eq 16, 160, 173, 0, 0, 0, 0, 0, 0, [])],
 [(160, .iload_n 2, 161, 2, 0, 0, 0, 0, 0, 0, []),
  (161, .aload_n 0, 162, 0, 0, 0, 0, 0, 0, 0, []),
  (162, .getfield 97, 165, 7, 2, 0, 0, 661, 0, 0, []),
  (165, .if_icmp .ge 8, 168, 173, 0, 0, 0, 0, 0, 0, []),
  (168, .bipush 16, 170, 0, 0, 0, 0, 0, 16, 0, []),
  (170, .goto 4, 173, 174, 0, 0, 0, 0, 0, 0, []),
  (173, .iconst 0, 174, 0, 0, 0, 0, 0, 0, 0, []),
  (174, .ireturn, 175, 0, 0, 0, 0, 0, 0, 0, [])]]
def cd_X9_reportFault : List (List sd_I) := [[(0, .aload_n 0, 1, 0, 0, 0, 0, 0, 0, 0, []),
  (1, .getfield 97, 4, 7, 2, 0, 0, 661, 0, 0, []),
  (4, .bipush 8, 6, 0, 0, 0, 0, 0, 8, 0, []),
  (6, .if_icmp .lt 12, 9, 18, 0, 0, 0, 0, 0, 0, []),
  (9, .aload_n 0, 10, 0, 0, 0, 0, 0, 0, 0, []),
  (10, .getfield 97, 13, 7, 2, 0, 0, 661, 0, 0, []),
  (13, .iconst 4, 14, 0, 0, 0, 0, 0, 4, 0, []),
  (14, .irem, 15, 0, 0, 0, 0, 0, 0, 0, []),
  (15, .ifCond .eq 6, 18, 21, 0, 0, 0, 0, 0, 0, [])],
 [(18, .bipush 11, 20, 0, 0, 0, 0, 0, 11, 0, []),
  (20, .ireturn, 21, 0, 0, 0, 0, 0, 0, 0, []),
  (21, .aload_n 0, 22, 0, 0, 0, 0, 0, 0, 0, []),
  (22, .getfield 13, 25, 7, 3, 22, 1, 662, 0, 0, []),
  (25, .iconst 1, 26, 0, 0, 0, 0, 0, 1, 0, []),
  (26, .iaload, 27, 0, 0, 0, 0, 0, 0, 0, []),
  (27, .i2l, 28, 0, 0, 0, 0, 0, 0, 0, []),
  (28, .ldc2_w 264, 31, 0, 0, 0, 0, 966, 0, 200, []),
  (31, .ldc2_w 268, 34, 0, 0, 0, 0, 967, 0, 201, [])],
 [(34, .invokestatic 106, 37, 91, 3, 1, 1, 788, 0, 0, [0, 0]),
  (37, .ifCond .eq 17, 40, 54, 0, 0, 0, 0, 0, 0, []),
  (40, .aload_n 0, 41, 0, 0, 0, 0, 0, 0, 0, []),
  (41, .getfield 13, 44, 7, 3, 22, 1, 662, 0, 0, []),
  (44, .iconst 0, 45, 0, 0, 0, 0, 0, 0, 0, []),
  (45, .iaload, 46, 0, 0, 0, 0, 0, 0, 0, []),
  (46, .iconst 5, 47, 0, 0, 0, 0, 0, 5, 0, []),
  (47, .ishr, 48, 0, 0, 0, 0, 0, 0, 0, [])],
 [(48, .iconst 1, 49, 0, 0, 0, 0, 0, 1, 0, []),
  (49, .iand, 50, 0, 0, 0, 0, 0, 0, 0, []),
  (50, .iconst 1, 51, 0, 0, 0, 0, 0, 1, 0, []),
  (51, .if_icmp .ne 6, 54, 57, 0, 0, 0, 0, 0, 0, []),
  (54, .bipush 12, 56, 0, 0, 0, 0, 0, 12, 0, []),
  (56, .ireturn, 57, 0, 0, 0, 0, 0, 0, 0, []),
  (57, .iconst 0, 58, 0, 0, 0, 0, 0, 0, 0, []),
  (58, .istore_n 1, 59, 1, 0, 0, 0, 0, 0, 0, []),
  (59, .iload_n 1, 60, 1, 0, 0, 0, 0, 0, 0, []),
  (60, .aload_n 0, 61, 0, 0, 0, 0, 0, 0, 0, []),
  (61, .getfield 97, 64, 7, 2, 0, 0, 661, 0, 0, [])],
 [(64, .if_icmp .ge 24, 67, 88, 0, 0, 0, 0, 0, 0, []),
  (67, .aload_n 0, 68, 0, 0, 0, 0, 0, 0, 0, []),
  (68, .iload_n 1, 69, 1, 0, 0, 0, 0, 0, 0, []),
  (69, .invokevirtual 270, 72, 130, 2, 1, 0, 968, 0, 0, [0, 0]),
  (72, .istore_n 2, 73, 2, 0, 0, 0, 0, 0, 0, []),
  (73, .iload_n 2, 74, 2, 0, 0, 0, 0, 0, 0, []),
  (74, .ifCond .le 5, 77, 79, 0, 0, 0, 0, 0, 0, []),
  (77, .iload_n 2, 78, 2, 0, 0, 0, 0, 0, 0, []),
  (78, .ireturn, 79, 0, 0, 0, 0, 0, 0, 0, []),
  (79, .aload_n 0, 80, 0, 0, 0, 0, 0, 0, 0, [])],
 [(80, .iload_n 1, 81, 1, 0, 0, 0, 0, 0, 0, []),
  (81, .invokevirtual 261, 84, 129, 2, 1, 0, 972, 0, 0, [0, 0]),
  (84, .istore_n 1, 85, 1, 0, 0, 0, 0, 0, 0, []),
  (85, .goto (-26), 88, 59, 0, 0, 0, 0, 0, 0, []),
  (88, .iconst 0, 89, 0, 0, 0, 0, 0, 0, 0, []),
  (89, .ireturn, 90, 0, 0, 0, 0, 0, 0, 0, [])]]
def cd_X9_hearBlocks : List (List sd_I) := [[(0, .iconst 0, 1, 0, 0, 0, 0, 0, 0, 0, []),
  (1, .istore 4, 3, 4, 0, 0, 0, 0, 0, 0, []),
  (3, .iload 4, 5, 4, 0, 0, 0, 0, 0, 0, []),
  (5, .iload_n 2, 6, 2, 0, 0, 0, 0, 0, 0, []),
  (6, .if_icmp .ge 177, 9, 183, 0, 0, 0, 0, 0, 0, []),
  (9, .iload_n 1, 10, 1, 0, 0, 0, 0, 0, 0, []),
  (10, .bipush 24, 12, 0, 0, 0, 0, 0, 24, 0, []),
  (12, .iload 4, 14, 4, 0, 0, 0, 0, 0, 0, []),
  (14, .imul, 15, 0, 0, 0, 0, 0, 0, 0, []),
  (15, .iadd, 16, 0, 0, 0, 0, 0, 0, 0, [])],
 [(16, .istore 5, 18, 5, 0, 0, 0, 0, 0, 0, []),
  (18, .aload_n 0, 19, 0, 0, 0, 0, 0, 0, 0, []),
  (19, .iload 5, 21, 5, 0, 0, 0, 0, 0, 0, []),
  (21, .invokevirtual 133, 24, 100, 2, 1, 0, 831, 0, 0, [0, 0]),
  (24, .aload_n 0, 25, 0, 0, 0, 0, 0, 0, 0, []),
  (25, .getfield 255, 28, 7, 38, 0, 0, 697, 0, 0, []),
  (28, .if_icmp .ne 149, 31, 177, 0, 0, 0, 0, 0, 0, []),
  (31, .aload_n 0, 32, 0, 0, 0, 0, 0, 0, 0, [])],
 [(32, .getfield 94, 35, 7, 40, 48, 1, 699, 0, 0, []),
  (35, .iconst 0, 36, 0, 0, 0, 0, 0, 0, 0, []),
  (36, .aload_n 0, 37, 0, 0, 0, 0, 0, 0, 0, []),
  (37, .getfield 13, 40, 7, 3, 22, 1, 662, 0, 0, []),
  (40, .iload 5, 42, 5, 0, 0, 0, 0, 0, 0, []),
  (42, .iconst 4, 43, 0, 0, 0, 0, 0, 4, 0, []),
  (43, .iadd, 44, 0, 0, 0, 0, 0, 0, 0, []),
  (44, .iaload, 45, 0, 0, 0, 0, 0, 0, 0, []),
  (45, .iastore, 46, 0, 0, 0, 0, 0, 0, 0, []),
  (46, .aload_n 0, 47, 0, 0, 0, 0, 0, 0, 0, []),
  (47, .getfield 13, 50, 7, 3, 22, 1, 662, 0, 0, [])],
 [(50, .iload 5, 52, 5, 0, 0, 0, 0, 0, 0, []),
  (52, .iconst 5, 53, 0, 0, 0, 0, 0, 5, 0, []),
  (53, .iadd, 54, 0, 0, 0, 0, 0, 0, 0, []),
  (54, .iaload, 55, 0, 0, 0, 0, 0, 0, 0, []),
  (55, .bipush 16, 57, 0, 0, 0, 0, 0, 16, 0, []),
  (57, .ishl, 58, 0, 0, 0, 0, 0, 0, 0, []),
  (58, .aload_n 0, 59, 0, 0, 0, 0, 0, 0, 0, []),
  (59, .getfield 13, 62, 7, 3, 22, 1, 662, 0, 0, []),
  (62, .iload 5, 64, 5, 0, 0, 0, 0, 0, 0, [])],
 [(64, .bipush 6, 66, 0, 0, 0, 0, 0, 6, 0, []),
  (66, .iadd, 67, 0, 0, 0, 0, 0, 0, 0, []),
  (67, .iaload, 68, 0, 0, 0, 0, 0, 0, 0, []),
  (68, .bipush 8, 70, 0, 0, 0, 0, 0, 8, 0, []),
  (70, .ishl, 71, 0, 0, 0, 0, 0, 0, 0, []),
  (71, .ior, 72, 0, 0, 0, 0, 0, 0, 0, []),
  (72, .aload_n 0, 73, 0, 0, 0, 0, 0, 0, 0, []),
  (73, .getfield 13, 76, 7, 3, 22, 1, 662, 0, 0, []),
  (76, .iload 5, 78, 5, 0, 0, 0, 0, 0, 0, []),
  (78, .bipush 7, 80, 0, 0, 0, 0, 0, 7, 0, [])],
 [(80, .iadd, 81, 0, 0, 0, 0, 0, 0, 0, []),
  (81, .iaload, 82, 0, 0, 0, 0, 0, 0, 0, []),
  (82, .ior, 83, 0, 0, 0, 0, 0, 0, 0, []),
  (83, .istore 6, 85, 6, 0, 0, 0, 0, 0, 0, []),
  (85, .aload_n 0, 86, 0, 0, 0, 0, 0, 0, 0, []),
  (86, .getfield 94, 89, 7, 40, 48, 1, 699, 0, 0, []),
  (89, .iconst 1, 90, 0, 0, 0, 0, 0, 1, 0, []),
  (90, .iload 6, 92, 6, 0, 0, 0, 0, 0, 0, []),
  (92, .ldc 230, 94, 0, 0, 0, 0, 926, 8388607, 0, []),
  (94, .if_icmp .le 12, 97, 106, 0, 0, 0, 0, 0, 0, [])],
 [(97, .iload 6, 99, 6, 0, 0, 0, 0, 0, 0, []),
  (99, .ldc_w 273, 102, 0, 0, 0, 0, 985, 16777216, 0, []),
  (102, .isub, 103, 0, 0, 0, 0, 0, 0, 0, []),
  (103, .goto 5, 106, 108, 0, 0, 0, 0, 0, 0, []),
  (106, .iload 6, 108, 6, 0, 0, 0, 0, 0, 0, []),
  (108, .iastore, 109, 0, 0, 0, 0, 0, 0, 0, []),
  (109, .aload_n 0, 110, 0, 0, 0, 0, 0, 0, 0, []),
  (110, .getfield 94, 113, 7, 40, 48, 1, 699, 0, 0, [])],
 [(113, .iconst 2, 114, 0, 0, 0, 0, 0, 2, 0, []),
  (114, .aload_n 0, 115, 0, 0, 0, 0, 0, 0, 0, []),
  (115, .iload 5, 117, 5, 0, 0, 0, 0, 0, 0, []),
  (117, .bipush 8, 119, 0, 0, 0, 0, 0, 8, 0, []),
  (119, .iadd, 120, 0, 0, 0, 0, 0, 0, 0, []),
  (120, .invokevirtual 133, 123, 100, 2, 1, 0, 831, 0, 0, [0, 0]),
  (123, .iastore, 124, 0, 0, 0, 0, 0, 0, 0, []),
  (124, .aload_n 0, 125, 0, 0, 0, 0, 0, 0, 0, []),
  (125, .getfield 94, 128, 7, 40, 48, 1, 699, 0, 0, [])],
 [(128, .iconst 3, 129, 0, 0, 0, 0, 0, 3, 0, []),
  (129, .aload_n 0, 130, 0, 0, 0, 0, 0, 0, 0, []),
  (130, .iload 5, 132, 5, 0, 0, 0, 0, 0, 0, []),
  (132, .bipush 12, 134, 0, 0, 0, 0, 0, 12, 0, []),
  (134, .iadd, 135, 0, 0, 0, 0, 0, 0, 0, []),
  (135, .invokevirtual 133, 138, 100, 2, 1, 0, 831, 0, 0, [0, 0]),
  (138, .iastore, 139, 0, 0, 0, 0, 0, 0, 0, []),
  (139, .aload_n 0, 140, 0, 0, 0, 0, 0, 0, 0, []),
  (140, .getfield 94, 143, 7, 40, 48, 1, 699, 0, 0, []),
  (143, .iconst 4, 144, 0, 0, 0, 0, 0, 4, 0, [])],
 [(144, .aload_n 0, 145, 0, 0, 0, 0, 0, 0, 0, []),
  (145, .iload 5, 147, 5, 0, 0, 0, 0, 0, 0, []),
  (147, .bipush 16, 149, 0, 0, 0, 0, 0, 16, 0, []),
  (149, .iadd, 150, 0, 0, 0, 0, 0, 0, 0, []),
  (150, .invokevirtual 133, 153, 100, 2, 1, 0, 831, 0, 0, [0, 0]),
  (153, .iastore, 154, 0, 0, 0, 0, 0, 0, 0, []),
  (154, .aload_n 0, 155, 0, 0, 0, 0, 0, 0, 0, []),
  (155, .getfield 94, 158, 7, 40, 48, 1, 699, 0, 0, []),
  (158, .iconst 5, 159, 0, 0, 0, 0, 0, 5, 0, []),
  (159, .aload_n 0, 160, 0, 0, 0, 0, 0, 0, 0, [])],
 [(160, .iload 5, 162, 5, 0, 0, 0, 0, 0, 0, []),
  (162, .bipush 20, 164, 0, 0, 0, 0, 0, 20, 0, []),
  (164, .iadd, 165, 0, 0, 0, 0, 0, 0, 0, []),
  (165, .invokevirtual 133, 168, 100, 2, 1, 0, 831, 0, 0, [0, 0]),
  (168, .iastore, 169, 0, 0, 0, 0, 0, 0, 0, []),
  (169, .aload_n 0, 170, 0, 0, 0, 0, 0, 0, 0, []),
  (170, .getfield 94, 173, 7, 40, 48, 1, 699, 0, 0, []),
  (173, .bipush 6, 175, 0, 0, 0, 0, 0, 6, 0, []),
  (175, .iload_n 3, 176, 3, 0, 0, 0, 0, 0, 0, [])],
 [(176, .iastore, 177, 0, 0, 0, 0, 0, 0, 0, []),
  (177, .iinc 4 1, 180, 4, 0, 0, 0, 0, 1, 0, []),
  (180, .goto (-177), 183, 3, 0, 0, 0, 0, 0, 0, []),
  (183, .return_, 184, 0, 0, 0, 0, 0, 0, 0, [])]]
def cd_X9_hearLeaving : List (List sd_I) := [[(0, .iconst 0, 1, 0, 0, 0, 0, 0, 0, 0, []),
  (1, .istore_n 3, 2, 3, 0, 0, 0, 0, 0, 0, []),
  (2, .iload_n 3, 3, 3, 0, 0, 0, 0, 0, 0, []),
  (3, .iload_n 2, 4, 2, 0, 0, 0, 0, 0, 0, []),
  (4, .if_icmp .ge 63, 7, 67, 0, 0, 0, 0, 0, 0, []),
  (7, .aload_n 0, 8, 0, 0, 0, 0, 0, 0, 0, []),
  (8, .aload_n 0, 9, 0, 0, 0, 0, 0, 0, 0, []),
  (9, .iload_n 1, 10, 1, 0, 0, 0, 0, 0, 0, []),
  (10, .iconst 4, 11, 0, 0, 0, 0, 0, 4, 0, []),
  (11, .iload_n 3, 12, 3, 0, 0, 0, 0, 0, 0, []),
  (12, .imul, 13, 0, 0, 0, 0, 0, 0, 0, []),
  (13, .iadd, 14, 0, 0, 0, 0, 0, 0, 0, []),
  (14, .invokevirtual 133, 17, 100, 2, 1, 0, 831, 0, 0, [0, 0])],
 [(17, .invokevirtual 136, 20, 104, 2, 1, 0, 835, 0, 0, [0, 0]),
  (20, .istore 4, 22, 4, 0, 0, 0, 0, 0, 0, []),
  (22, .iload 4, 24, 4, 0, 0, 0, 0, 0, 0, []),
  (24, .iconst (-1), 25, 0, 0, 0, 0, 0, (-1), 0, []),
  (25, .if_icmp .eq 36, 28, 61, 0, 0, 0, 0, 0, 0, []),
  (28, .aload_n 0, 29, 0, 0, 0, 0, 0, 0, 0, []),
  (29, .getfield 57, 32, 7, 21, 36, 1, 680, 0, 0, [])],
 [(32, .iload 4, 34, 4, 0, 0, 0, 0, 0, 0, []),
  (34, .baload, 35, 0, 0, 0, 0, 0, 0, 0, []),
  (35, .ifCond .ne 26, 38, 61, 0, 0, 0, 0, 0, 0, []),
  (38, .aload_n 0, 39, 0, 0, 0, 0, 0, 0, 0, []),
  (39, .getfield 57, 42, 7, 21, 36, 1, 680, 0, 0, []),
  (42, .iload 4, 44, 4, 0, 0, 0, 0, 0, 0, []),
  (44, .iconst 1, 45, 0, 0, 0, 0, 0, 1, 0, []),
  (45, .bastore, 46, 0, 0, 0, 0, 0, 0, 0, []),
  (46, .aload_n 0, 47, 0, 0, 0, 0, 0, 0, 0, []),
  (47, .iload 4, 49, 4, 0, 0, 0, 0, 0, 0, [])],
 [(49, .invokevirtual 169, 52, 110, 2, 0, 0, 879, 0, 0, [0, 0]),
  (52, .aload_n 0, 53, 0, 0, 0, 0, 0, 0, 0, []),
  (53, .bipush 7, 55, 0, 0, 0, 0, 0, 7, 0, []),
  (55, .iload 4, 57, 4, 0, 0, 0, 0, 0, 0, []),
  (57, .lconst 0, 58, 0, 0, 0, 0, 0, 0, 0, []),
  (58, .invokevirtual 172, 61, 105, 4, 0, 0, 883, 0, 0, [0, 0]),
  (61, .iinc 3 1, 64, 3, 0, 0, 0, 0, 1, 0, [])],
 [(64, .goto (-62), 67, 2, 0, 0, 0, 0, 0, 0, []),
  (67, .return_, 68, 0, 0, 0, 0, 0, 0, 0, [])]]
def cd_X9_hearPart : List (List sd_I) := [[(0, .aload_n 0, 1, 0, 0, 0, 0, 0, 0, 0, []),
  (1, .getfield 13, 4, 7, 3, 22, 1, 662, 0, 0, []),
  (4, .iload_n 1, 5, 1, 0, 0, 0, 0, 0, 0, []),
  (5, .iaload, 6, 0, 0, 0, 0, 0, 0, 0, []),
  (6, .bipush 31, 8, 0, 0, 0, 0, 0, 31, 0, []),
  (8, .iand, 9, 0, 0, 0, 0, 0, 0, 0, []),
  (9, .istore_n 2, 10, 2, 0, 0, 0, 0, 0, 0, []),
  (10, .aload_n 0, 11, 0, 0, 0, 0, 0, 0, 0, []),
  (11, .getfield 13, 14, 7, 3, 22, 1, 662, 0, 0, []),
  (14, .iload_n 1, 15, 1, 0, 0, 0, 0, 0, 0, []),
  (15, .iconst 1, 16, 0, 0, 0, 0, 0, 1, 0, [])],
 [(16, .iadd, 17, 0, 0, 0, 0, 0, 0, 0, []),
  (17, .iaload, 18, 0, 0, 0, 0, 0, 0, 0, []),
  (18, .istore_n 3, 19, 3, 0, 0, 0, 0, 0, 0, []),
  (19, .iload_n 3, 20, 3, 0, 0, 0, 0, 0, 0, []),
  (20, .sipush 200, 23, 0, 0, 0, 0, 0, 200, 0, []),
  (23, .if_icmp .ne 75, 26, 98, 0, 0, 0, 0, 0, 0, []),
  (26, .aload_n 0, 27, 0, 0, 0, 0, 0, 0, 0, []),
  (27, .aload_n 0, 28, 0, 0, 0, 0, 0, 0, 0, []),
  (28, .iload_n 1, 29, 1, 0, 0, 0, 0, 0, 0, []),
  (29, .iconst 4, 30, 0, 0, 0, 0, 0, 4, 0, []),
  (30, .iadd, 31, 0, 0, 0, 0, 0, 0, 0, []),
  (31, .invokevirtual 133, 34, 100, 2, 1, 0, 831, 0, 0, [0, 0])],
 [(34, .invokevirtual 136, 37, 104, 2, 1, 0, 835, 0, 0, [0, 0]),
  (37, .istore 4, 39, 4, 0, 0, 0, 0, 0, 0, []),
  (39, .iload 4, 41, 4, 0, 0, 0, 0, 0, 0, []),
  (41, .iconst (-1), 42, 0, 0, 0, 0, 0, (-1), 0, []),
  (42, .if_icmp .eq 37, 45, 79, 0, 0, 0, 0, 0, 0, []),
  (45, .aload_n 0, 46, 0, 0, 0, 0, 0, 0, 0, []),
  (46, .getfield 60, 49, 7, 22, 37, 1, 681, 0, 0, [])],
 [(49, .iload 4, 51, 4, 0, 0, 0, 0, 0, 0, []),
  (51, .iconst 1, 52, 0, 0, 0, 0, 0, 1, 0, []),
  (52, .bastore, 53, 0, 0, 0, 0, 0, 0, 0, []),
  (53, .aload_n 0, 54, 0, 0, 0, 0, 0, 0, 0, []),
  (54, .getfield 63, 57, 7, 23, 38, 1, 682, 0, 0, []),
  (57, .iload 4, 59, 4, 0, 0, 0, 0, 0, 0, []),
  (59, .aload_n 0, 60, 0, 0, 0, 0, 0, 0, 0, []),
  (60, .iload_n 1, 61, 1, 0, 0, 0, 0, 0, 0, []),
  (61, .bipush 10, 63, 0, 0, 0, 0, 0, 10, 0, []),
  (63, .iadd, 64, 0, 0, 0, 0, 0, 0, 0, [])],
 [(64, .invokevirtual 133, 67, 100, 2, 1, 0, 831, 0, 0, [0, 0]),
  (67, .iastore, 68, 0, 0, 0, 0, 0, 0, 0, []),
  (68, .aload_n 0, 69, 0, 0, 0, 0, 0, 0, 0, []),
  (69, .getfield 66, 72, 7, 24, 39, 1, 683, 0, 0, []),
  (72, .iload 4, 74, 4, 0, 0, 0, 0, 0, 0, []),
  (74, .aload_n 0, 75, 0, 0, 0, 0, 0, 0, 0, []),
  (75, .getfield 152, 78, 7, 0, 0, 0, 659, 0, 0, []),
  (78, .iastore, 79, 0, 0, 0, 0, 0, 0, 0, []),
  (79, .aload_n 0, 80, 0, 0, 0, 0, 0, 0, 0, [])],
 [(80, .iload_n 1, 81, 1, 0, 0, 0, 0, 0, 0, []),
  (81, .bipush 28, 83, 0, 0, 0, 0, 0, 28, 0, []),
  (83, .iadd, 84, 0, 0, 0, 0, 0, 0, 0, []),
  (84, .iload_n 2, 85, 2, 0, 0, 0, 0, 0, 0, []),
  (85, .aload_n 0, 86, 0, 0, 0, 0, 0, 0, 0, []),
  (86, .iload_n 1, 87, 1, 0, 0, 0, 0, 0, 0, []),
  (87, .iconst 4, 88, 0, 0, 0, 0, 0, 4, 0, []),
  (88, .iadd, 89, 0, 0, 0, 0, 0, 0, 0, []),
  (89, .invokevirtual 133, 92, 100, 2, 1, 0, 831, 0, 0, [0, 0]),
  (92, .invokevirtual 274, 95, 132, 4, 0, 0, 981, 0, 0, [0, 0]),
  (95, .goto 44, 98, 139, 0, 0, 0, 0, 0, 0, [])],
 [(98, .iload_n 3, 99, 3, 0, 0, 0, 0, 0, 0, []),
  (99, .sipush 201, 102, 0, 0, 0, 0, 0, 201, 0, []),
  (102, .if_icmp .ne 22, 105, 124, 0, 0, 0, 0, 0, 0, []),
  (105, .aload_n 0, 106, 0, 0, 0, 0, 0, 0, 0, []),
  (106, .iload_n 1, 107, 1, 0, 0, 0, 0, 0, 0, []),
  (107, .bipush 8, 109, 0, 0, 0, 0, 0, 8, 0, []),
  (109, .iadd, 110, 0, 0, 0, 0, 0, 0, 0, []),
  (110, .iload_n 2, 111, 2, 0, 0, 0, 0, 0, 0, []),
  (111, .aload_n 0, 112, 0, 0, 0, 0, 0, 0, 0, [])],
 [(112, .iload_n 1, 113, 1, 0, 0, 0, 0, 0, 0, []),
  (113, .iconst 4, 114, 0, 0, 0, 0, 0, 4, 0, []),
  (114, .iadd, 115, 0, 0, 0, 0, 0, 0, 0, []),
  (115, .invokevirtual 133, 118, 100, 2, 1, 0, 831, 0, 0, [0, 0]),
  (118, .invokevirtual 274, 121, 132, 4, 0, 0, 981, 0, 0, [0, 0]),
  (121, .goto 18, 124, 139, 0, 0, 0, 0, 0, 0, []),
  (124, .iload_n 3, 125, 3, 0, 0, 0, 0, 0, 0, []),
  (125, .sipush 203, 128, 0, 0, 0, 0, 0, 203, 0, [])],
 [(128, .if_icmp .ne 11, 131, 139, 0, 0, 0, 0, 0, 0, []),
  (131, .aload_n 0, 132, 0, 0, 0, 0, 0, 0, 0, []),
  (132, .iload_n 1, 133, 1, 0, 0, 0, 0, 0, 0, []),
  (133, .iconst 4, 134, 0, 0, 0, 0, 0, 4, 0, []),
  (134, .iadd, 135, 0, 0, 0, 0, 0, 0, 0, []),
  (135, .iload_n 2, 136, 2, 0, 0, 0, 0, 0, 0, []),
  (136, .invokevirtual 277, 139, 133, 3, 0, 0, 986, 0, 0, [0, 0]),
  (139, .return_, 140, 0, 0, 0, 0, 0, 0, 0, [])]]
def cd_X9_hear : List (List sd_I) := [[(0, .aload_n 0, 1, 0, 0, 0, 0, 0, 0, 0, []),
  (1, .invokevirtual 280, 4, 131, 1, 1, 0, 962, 0, 0, [0, 0]),
  (4, .istore_n 1, 5, 1, 0, 0, 0, 0, 0, 0, []),
  (5, .iload_n 1, 6, 1, 0, 0, 0, 0, 0, 0, []),
  (6, .ifCond .le 8, 9, 14, 0, 0, 0, 0, 0, 0, []),
  (9, .bipush (-10), 11, 0, 0, 0, 0, 0, (-10), 0, []),
  (11, .iload_n 1, 12, 1, 0, 0, 0, 0, 0, 0, []),
  (12, .isub, 13, 0, 0, 0, 0, 0, 0, 0, []),
  (13, .ireturn, 14, 0, 0, 0, 0, 0, 0, 0, []),
  (14, .aload_n 0, 15, 0, 0, 0, 0, 0, 0, 0, []),
  (15, .dup, 16, 0, 0, 0, 0, 0, 0, 0, [])],
 [(16, .getfield 283, 19, 7, 39, 0, 0, 698, 0, 0, []),
  (19, .iconst 1, 20, 0, 0, 0, 0, 0, 1, 0, []),
  (20, .iadd, 21, 0, 0, 0, 0, 0, 0, 0, []),
  (21, .putfield 283, 24, 7, 39, 0, 0, 698, 0, 0, []),
  (24, .iconst 0, 25, 0, 0, 0, 0, 0, 0, 0, []),
  (25, .istore_n 2, 26, 2, 0, 0, 0, 0, 0, 0, []),
  (26, .iconst 0, 27, 0, 0, 0, 0, 0, 0, 0, []),
  (27, .istore_n 3, 28, 3, 0, 0, 0, 0, 0, 0, []),
  (28, .iload_n 3, 29, 3, 0, 0, 0, 0, 0, 0, []),
  (29, .aload_n 0, 30, 0, 0, 0, 0, 0, 0, 0, []),
  (30, .getfield 97, 33, 7, 2, 0, 0, 661, 0, 0, [])],
 [(33, .if_icmp .ge 20, 36, 53, 0, 0, 0, 0, 0, 0, []),
  (36, .aload_n 0, 37, 0, 0, 0, 0, 0, 0, 0, []),
  (37, .iload_n 3, 38, 3, 0, 0, 0, 0, 0, 0, []),
  (38, .invokevirtual 286, 41, 134, 2, 0, 0, 977, 0, 0, [0, 0]),
  (41, .iinc 2 1, 44, 2, 0, 0, 0, 0, 1, 0, []),
  (44, .aload_n 0, 45, 0, 0, 0, 0, 0, 0, 0, []),
  (45, .iload_n 3, 46, 3, 0, 0, 0, 0, 0, 0, []),
  (46, .invokevirtual 261, 49, 129, 2, 1, 0, 972, 0, 0, [0, 0])],
 [(49, .istore_n 3, 50, 3, 0, 0, 0, 0, 0, 0, []),
  (50, .goto (-22), 53, 28, 0, 0, 0, 0, 0, 0, []),
  (53, .iload_n 2, 54, 2, 0, 0, 0, 0, 0, 0, []),
  (54, .ireturn, 55, 0, 0, 0, 0, 0, 0, 0, [])]]
def cd_X9_heard : List (List sd_I) := [[(0, .iload_n 1, 1, 1, 0, 0, 0, 0, 0, 0, []),
  (1, .i2l, 2, 0, 0, 0, 0, 0, 0, 0, []),
  (2, .lconst 0, 3, 0, 0, 0, 0, 0, 0, 0, []),
  (3, .ldc2_w 289, 6, 0, 0, 0, 0, 994, 0, 6, []),
  (6, .invokestatic 106, 9, 91, 3, 1, 1, 788, 0, 0, [0, 0]),
  (9, .ifCond .eq 12, 12, 21, 0, 0, 0, 0, 0, 0, []),
  (12, .aload_n 0, 13, 0, 0, 0, 0, 0, 0, 0, []),
  (13, .getfield 94, 16, 7, 40, 48, 1, 699, 0, 0, [])],
 [(16, .iload_n 1, 17, 1, 0, 0, 0, 0, 0, 0, []),
  (17, .iaload, 18, 0, 0, 0, 0, 0, 0, 0, []),
  (18, .goto 5, 21, 23, 0, 0, 0, 0, 0, 0, []),
  (21, .bipush (-2), 23, 0, 0, 0, 0, 0, (-2), 0, []),
  (23, .ireturn, 24, 0, 0, 0, 0, 0, 0, 0, [])]]
def cd_X9_count : List (List sd_I) := [[(0, .iload_n 1, 1, 1, 0, 0, 0, 0, 0, 0, []),
  (1, .tableswitch 96 0 8 #[51, 56, 61, 66, 71, 76, 81, 86, 91], 52, 97, 0, 0, 0, 0, 0, 0, [52, 57, 62, 67, 72, 77, 82, 87, 92])],
 [],
 [],
 [(52, .aload_n 0, 53, 0, 0, 0, 0, 0, 0, 0, []),
  (53, .getfield 97, 56, 7, 2, 0, 0, 661, 0, 0, []),
  (56, .ireturn, 57, 0, 0, 0, 0, 0, 0, 0, []),
  (57, .aload_n 0, 58, 0, 0, 0, 0, 0, 0, 0, []),
  (58, .getfield 139, 61, 7, 8, 0, 0, 667, 0, 0, []),
  (61, .ireturn, 62, 0, 0, 0, 0, 0, 0, 0, []),
  (62, .aload_n 0, 63, 0, 0, 0, 0, 0, 0, 0, []),
  (63, .getfield 152, 66, 7, 0, 0, 0, 659, 0, 0, [])],
 [(66, .ireturn, 67, 0, 0, 0, 0, 0, 0, 0, []),
  (67, .aload_n 0, 68, 0, 0, 0, 0, 0, 0, 0, []),
  (68, .getfield 149, 71, 7, 35, 0, 0, 694, 0, 0, []),
  (71, .ireturn, 72, 0, 0, 0, 0, 0, 0, 0, []),
  (72, .aload_n 0, 73, 0, 0, 0, 0, 0, 0, 0, []),
  (73, .getfield 209, 76, 7, 32, 0, 0, 691, 0, 0, []),
  (76, .ireturn, 77, 0, 0, 0, 0, 0, 0, 0, []),
  (77, .aload_n 0, 78, 0, 0, 0, 0, 0, 0, 0, []),
  (78, .getfield 206, 81, 7, 33, 0, 0, 692, 0, 0, [])],
 [(81, .ireturn, 82, 0, 0, 0, 0, 0, 0, 0, []),
  (82, .aload_n 0, 83, 0, 0, 0, 0, 0, 0, 0, []),
  (83, .getfield 195, 86, 7, 34, 0, 0, 693, 0, 0, []),
  (86, .ireturn, 87, 0, 0, 0, 0, 0, 0, 0, []),
  (87, .aload_n 0, 88, 0, 0, 0, 0, 0, 0, 0, []),
  (88, .getfield 283, 91, 7, 39, 0, 0, 698, 0, 0, []),
  (91, .ireturn, 92, 0, 0, 0, 0, 0, 0, 0, []),
  (92, .aload_n 0, 93, 0, 0, 0, 0, 0, 0, 0, []),
  (93, .getfield 7, 96, 7, 1, 0, 0, 660, 0, 0, [])],
 [(96, .ireturn, 97, 0, 0, 0, 0, 0, 0, 0, []),
  (97, .bipush (-2), 99, 0, 0, 0, 0, 0, (-2), 0, []),
  (99, .ireturn, 100, 0, 0, 0, 0, 0, 0, 0, [])]]
def cd_X9_digest : List (List sd_I) := [[(0, .ldc2_w 291, 3, 0, 0, 0, 0, 1003, 0, 17, []),
  (3, .lstore_n 1, 4, 1, 0, 0, 0, 0, 0, 0, []),
  (4, .iconst 0, 5, 0, 0, 0, 0, 0, 0, 0, []),
  (5, .istore_n 3, 6, 3, 0, 0, 0, 0, 0, 0, []),
  (6, .iload_n 3, 7, 3, 0, 0, 0, 0, 0, 0, []),
  (7, .bipush 9, 9, 0, 0, 0, 0, 0, 9, 0, []),
  (9, .if_icmp .ge 22, 12, 31, 0, 0, 0, 0, 0, 0, []),
  (12, .ldc2_w 242, 15, 0, 0, 0, 0, 937, 0, 31, []),
  (15, .lload_n 1, 16, 1, 0, 0, 0, 0, 0, 0, [])],
 [(16, .lmul, 17, 0, 0, 0, 0, 0, 0, 0, []),
  (17, .aload_n 0, 18, 0, 0, 0, 0, 0, 0, 0, []),
  (18, .iload_n 3, 19, 3, 0, 0, 0, 0, 0, 0, []),
  (19, .invokevirtual 293, 22, 137, 2, 1, 0, 1004, 0, 0, [0, 0]),
  (22, .i2l, 23, 0, 0, 0, 0, 0, 0, 0, []),
  (23, .ladd, 24, 0, 0, 0, 0, 0, 0, 0, []),
  (24, .lstore_n 1, 25, 1, 0, 0, 0, 0, 0, 0, []),
  (25, .iinc 3 1, 28, 3, 0, 0, 0, 0, 1, 0, []),
  (28, .goto (-22), 31, 6, 0, 0, 0, 0, 0, 0, []),
  (31, .iconst 0, 32, 0, 0, 0, 0, 0, 0, 0, [])],
 [(32, .istore_n 3, 33, 3, 0, 0, 0, 0, 0, 0, []),
  (33, .iload_n 3, 34, 3, 0, 0, 0, 0, 0, 0, []),
  (34, .aload_n 0, 35, 0, 0, 0, 0, 0, 0, 0, []),
  (35, .getfield 139, 38, 7, 8, 0, 0, 667, 0, 0, []),
  (38, .if_icmp .ge 52, 41, 90, 0, 0, 0, 0, 0, 0, []),
  (41, .iconst 0, 42, 0, 0, 0, 0, 0, 0, 0, []),
  (42, .istore 4, 44, 4, 0, 0, 0, 0, 0, 0, []),
  (44, .iload 4, 46, 4, 0, 0, 0, 0, 0, 0, []),
  (46, .bipush 17, 48, 0, 0, 0, 0, 0, 17, 0, [])],
 [(48, .if_icmp .ge 24, 51, 72, 0, 0, 0, 0, 0, 0, []),
  (51, .ldc2_w 242, 54, 0, 0, 0, 0, 937, 0, 31, []),
  (54, .lload_n 1, 55, 1, 0, 0, 0, 0, 0, 0, []),
  (55, .lmul, 56, 0, 0, 0, 0, 0, 0, 0, []),
  (56, .aload_n 0, 57, 0, 0, 0, 0, 0, 0, 0, []),
  (57, .iload_n 3, 58, 3, 0, 0, 0, 0, 0, 0, []),
  (58, .iload 4, 60, 4, 0, 0, 0, 0, 0, 0, []),
  (60, .invokevirtual 296, 63, 123, 3, 1, 0, 1005, 0, 0, [0, 0]),
  (63, .i2l, 64, 0, 0, 0, 0, 0, 0, 0, [])],
 [(64, .ladd, 65, 0, 0, 0, 0, 0, 0, 0, []),
  (65, .lstore_n 1, 66, 1, 0, 0, 0, 0, 0, 0, []),
  (66, .iinc 4 1, 69, 4, 0, 0, 0, 0, 1, 0, []),
  (69, .goto (-25), 72, 44, 0, 0, 0, 0, 0, 0, []),
  (72, .ldc2_w 242, 75, 0, 0, 0, 0, 937, 0, 31, []),
  (75, .lload_n 1, 76, 1, 0, 0, 0, 0, 0, 0, []),
  (76, .lmul, 77, 0, 0, 0, 0, 0, 0, 0, []),
  (77, .aload_n 0, 78, 0, 0, 0, 0, 0, 0, 0, []),
  (78, .iload_n 3, 79, 3, 0, 0, 0, 0, 0, 0, []),
  (79, .invokevirtual 299, 82, 124, 2, 2, 0, 1006, 0, 0, [0, 0])],
 [(82, .ladd, 83, 0, 0, 0, 0, 0, 0, 0, []),
  (83, .lstore_n 1, 84, 1, 0, 0, 0, 0, 0, 0, []),
  (84, .iinc 3 1, 87, 3, 0, 0, 0, 0, 1, 0, []),
  (87, .goto (-54), 90, 33, 0, 0, 0, 0, 0, 0, []),
  (90, .iconst 0, 91, 0, 0, 0, 0, 0, 0, 0, []),
  (91, .istore_n 3, 92, 3, 0, 0, 0, 0, 0, 0, []),
  (92, .iload_n 3, 93, 3, 0, 0, 0, 0, 0, 0, []),
  (93, .aload_n 0, 94, 0, 0, 0, 0, 0, 0, 0, []),
  (94, .getfield 97, 97, 7, 2, 0, 0, 661, 0, 0, [])],
 [(97, .if_icmp .ge 23, 100, 120, 0, 0, 0, 0, 0, 0, []),
  (100, .ldc2_w 242, 103, 0, 0, 0, 0, 937, 0, 31, []),
  (103, .lload_n 1, 104, 1, 0, 0, 0, 0, 0, 0, []),
  (104, .lmul, 105, 0, 0, 0, 0, 0, 0, 0, []),
  (105, .aload_n 0, 106, 0, 0, 0, 0, 0, 0, 0, []),
  (106, .getfield 13, 109, 7, 3, 22, 1, 662, 0, 0, []),
  (109, .iload_n 3, 110, 3, 0, 0, 0, 0, 0, 0, []),
  (110, .iaload, 111, 0, 0, 0, 0, 0, 0, 0, []),
  (111, .i2l, 112, 0, 0, 0, 0, 0, 0, 0, [])],
 [(112, .ladd, 113, 0, 0, 0, 0, 0, 0, 0, []),
  (113, .lstore_n 1, 114, 1, 0, 0, 0, 0, 0, 0, []),
  (114, .iinc 3 1, 117, 3, 0, 0, 0, 0, 1, 0, []),
  (117, .goto (-25), 120, 92, 0, 0, 0, 0, 0, 0, []),
  (120, .lload_n 1, 121, 1, 0, 0, 0, 0, 0, 0, []),
  (121, .lreturn, 122, 0, 0, 0, 0, 0, 0, 0, [])]]
def cd_J9_floorDiv_f86c9 : List (List sd_I) := [[(0, .lload_n 0, 1, 0, 0, 0, 0, 0, 0, 0, []),
  (1, .lload_n 2, 2, 2, 0, 0, 0, 0, 0, 0, []),
  (2, .ldiv, 3, 0, 0, 0, 0, 0, 0, 0, []),
  (3, .lstore 4, 5, 4, 0, 0, 0, 0, 0, 0, []),
  (5, .lload_n 0, 6, 0, 0, 0, 0, 0, 0, 0, []),
  (6, .lload_n 2, 7, 2, 0, 0, 0, 0, 0, 0, []),
  (7, .lxor, 8, 0, 0, 0, 0, 0, 0, 0, []),
  (8, .lconst 0, 9, 0, 0, 0, 0, 0, 0, 0, []),
  (9, .lcmp, 10, 0, 0, 0, 0, 0, 0, 0, []),
  (10, .ifCond .ge 17, 13, 27, 0, 0, 0, 0, 0, 0, []),
  (13, .lload 4, 15, 4, 0, 0, 0, 0, 0, 0, []),
  (15, .lload_n 2, 16, 2, 0, 0, 0, 0, 0, 0, [])],
 [(16, .lmul, 17, 0, 0, 0, 0, 0, 0, 0, []),
  (17, .lload_n 0, 18, 0, 0, 0, 0, 0, 0, 0, []),
  (18, .lcmp, 19, 0, 0, 0, 0, 0, 0, 0, []),
  (19, .ifCond .eq 8, 22, 27, 0, 0, 0, 0, 0, 0, []),
  (22, .lload 4, 24, 4, 0, 0, 0, 0, 0, 0, []),
  (24, .lconst 1, 25, 0, 0, 0, 0, 0, 0, 1, []),
  (25, .lsub, 26, 0, 0, 0, 0, 0, 0, 0, []),
  (26, .lreturn, 27, 0, 0, 0, 0, 0, 0, 0, []),
  (27, .lload 4, 29, 4, 0, 0, 0, 0, 0, 0, []),
  (29, .lreturn, 30, 0, 0, 0, 0, 0, 0, 0, [])]]
def cd_J9_floorMod_7cf53 : List (List sd_I) := [[(0, .iload_n 0, 1, 0, 0, 0, 0, 0, 0, 0, []),
  (1, .iload_n 1, 2, 1, 0, 0, 0, 0, 0, 0, []),
  (2, .irem, 3, 0, 0, 0, 0, 0, 0, 0, []),
  (3, .istore_n 2, 4, 2, 0, 0, 0, 0, 0, 0, []),
  (4, .iload_n 0, 5, 0, 0, 0, 0, 0, 0, 0, []),
  (5, .iload_n 1, 6, 1, 0, 0, 0, 0, 0, 0, []),
  (6, .ixor, 7, 0, 0, 0, 0, 0, 0, 0, []),
  (7, .ifCond .ge 11, 10, 18, 0, 0, 0, 0, 0, 0, []),
  (10, .iload_n 2, 11, 2, 0, 0, 0, 0, 0, 0, []),
  (11, .ifCond .eq 7, 14, 18, 0, 0, 0, 0, 0, 0, []),
  (14, .iload_n 2, 15, 2, 0, 0, 0, 0, 0, 0, []),
  (15, .iload_n 1, 16, 1, 0, 0, 0, 0, 0, 0, [])],
 [(16, .iadd, 17, 0, 0, 0, 0, 0, 0, 0, []),
  (17, .ireturn, 18, 0, 0, 0, 0, 0, 0, 0, []),
  (18, .iload_n 2, 19, 2, 0, 0, 0, 0, 0, 0, []),
  (19, .ireturn, 20, 0, 0, 0, 0, 0, 0, 0, [])]]
def cd_J9_floorMod_f86c9 : List (List sd_I) := [[(0, .lload_n 0, 1, 0, 0, 0, 0, 0, 0, 0, []),
  (1, .lload_n 2, 2, 2, 0, 0, 0, 0, 0, 0, []),
  (2, .lrem, 3, 0, 0, 0, 0, 0, 0, 0, []),
  (3, .lstore 4, 5, 4, 0, 0, 0, 0, 0, 0, []),
  (5, .lload_n 0, 6, 0, 0, 0, 0, 0, 0, 0, []),
  (6, .lload_n 2, 7, 2, 0, 0, 0, 0, 0, 0, []),
  (7, .lxor, 8, 0, 0, 0, 0, 0, 0, 0, []),
  (8, .lconst 0, 9, 0, 0, 0, 0, 0, 0, 0, []),
  (9, .lcmp, 10, 0, 0, 0, 0, 0, 0, 0, []),
  (10, .ifCond .ge 15, 13, 25, 0, 0, 0, 0, 0, 0, []),
  (13, .lload 4, 15, 4, 0, 0, 0, 0, 0, 0, []),
  (15, .lconst 0, 16, 0, 0, 0, 0, 0, 0, 0, [])],
 [(16, .lcmp, 17, 0, 0, 0, 0, 0, 0, 0, []),
  (17, .ifCond .eq 8, 20, 25, 0, 0, 0, 0, 0, 0, []),
  (20, .lload 4, 22, 4, 0, 0, 0, 0, 0, 0, []),
  (22, .lload_n 2, 23, 2, 0, 0, 0, 0, 0, 0, []),
  (23, .ladd, 24, 0, 0, 0, 0, 0, 0, 0, []),
  (24, .lreturn, 25, 0, 0, 0, 0, 0, 0, 0, []),
  (25, .lload 4, 27, 4, 0, 0, 0, 0, 0, 0, []),
  (27, .lreturn, 28, 0, 0, 0, 0, 0, 0, 0, [])]]
def cd_J9_abs_0f7a4 : List (List sd_I) := [[(0, .iload_n 0, 1, 0, 0, 0, 0, 0, 0, 0, []),
  (1, .ifCond .ge 8, 4, 9, 0, 0, 0, 0, 0, 0, []),
  (4, .iload_n 0, 5, 0, 0, 0, 0, 0, 0, 0, []),
  (5, .ineg, 6, 0, 0, 0, 0, 0, 0, 0, []),
  (6, .goto 4, 9, 10, 0, 0, 0, 0, 0, 0, []),
  (9, .iload_n 0, 10, 0, 0, 0, 0, 0, 0, 0, []),
  (10, .ireturn, 11, 0, 0, 0, 0, 0, 0, 0, [])]]
def cd_J9_max_7cf53 : List (List sd_I) := [[(0, .iload_n 0, 1, 0, 0, 0, 0, 0, 0, 0, []),
  (1, .iload_n 1, 2, 1, 0, 0, 0, 0, 0, 0, []),
  (2, .if_icmp .lt 7, 5, 9, 0, 0, 0, 0, 0, 0, []),
  (5, .iload_n 0, 6, 0, 0, 0, 0, 0, 0, 0, []),
  (6, .goto 4, 9, 10, 0, 0, 0, 0, 0, 0, []),
  (9, .iload_n 1, 10, 1, 0, 0, 0, 0, 0, 0, []),
  (10, .ireturn, 11, 0, 0, 0, 0, 0, 0, 0, [])]]
def cd_J9_min_7cf53 : List (List sd_I) := [[(0, .iload_n 0, 1, 0, 0, 0, 0, 0, 0, 0, []),
  (1, .iload_n 1, 2, 1, 0, 0, 0, 0, 0, 0, []),
  (2, .if_icmp .gt 7, 5, 9, 0, 0, 0, 0, 0, 0, []),
  (5, .iload_n 0, 6, 0, 0, 0, 0, 0, 0, 0, []),
  (6, .goto 4, 9, 10, 0, 0, 0, 0, 0, 0, []),
  (9, .iload_n 1, 10, 1, 0, 0, 0, 0, 0, 0, []),
  (10, .ireturn, 11, 0, 0, 0, 0, 0, 0, 0, [])]]
def cd_L_law : List (List sd_I) := [[(0, .new 7, 3, 0, 13, 59, 47, 58, 0, 0, []),
  (3, .dup, 4, 0, 0, 0, 0, 0, 0, 0, []),
  (4, .invokespecial 9, 7, 60, 1, 0, 2, 60, 0, 0, [10, 704]),
  (7, .astore_n 1, 8, 1, 0, 0, 0, 0, 0, 0, []),
  (8, .new 10, 11, 7, 41, 654, 50, 653, 0, 0, []),
  (11, .dup, 12, 0, 0, 0, 0, 0, 0, 0, []),
  (12, .invokespecial 12, 15, 90, 1, 0, 2, 655, 0, 0, [27, 1231]),
  (15, .astore_n 2, 16, 2, 0, 0, 0, 0, 0, 0, [])],
 [(16, .iconst 0, 17, 0, 0, 0, 0, 0, 0, 0, []),
  (17, .istore_n 3, 18, 3, 0, 0, 0, 0, 0, 0, []),
  (18, .iload_n 3, 19, 3, 0, 0, 0, 0, 0, 0, []),
  (19, .aload_n 0, 20, 0, 0, 0, 0, 0, 0, 0, []),
  (20, .arraylength, 21, 0, 0, 0, 0, 0, 0, 0, []),
  (21, .iconst 4, 22, 0, 0, 0, 0, 0, 4, 0, []),
  (22, .isub, 23, 0, 0, 0, 0, 0, 0, 0, []),
  (23, .if_icmp .gt 601, 26, 624, 0, 0, 0, 0, 0, 0, []),
  (26, .aload_n 0, 27, 0, 0, 0, 0, 0, 0, 0, []),
  (27, .iload_n 3, 28, 3, 0, 0, 0, 0, 0, 0, []),
  (28, .iaload, 29, 0, 0, 0, 0, 0, 0, 0, []),
  (29, .bipush 31, 31, 0, 0, 0, 0, 0, 31, 0, []),
  (31, .iand, 32, 0, 0, 0, 0, 0, 0, 0, [])],
 [(32, .tableswitch 586 0 17 #[88, 151, 164, 197, 220, 253, 266, 289, 312, 335, 368, 392, 456, 490, 513, 526, 549, 572], 120, 618, 0, 0, 0, 0, 0, 0, [120, 183, 196, 229, 252, 285, 298, 321, 344, 367, 400, 424, 488, 522, 545, 558, 581, 604])],
 [],
 [],
 [],
 [],
 [(120, .aload_n 1, 121, 1, 0, 0, 0, 0, 0, 0, []),
  (121, .aload_n 0, 122, 0, 0, 0, 0, 0, 0, 0, []),
  (122, .iload_n 3, 123, 3, 0, 0, 0, 0, 0, 0, []),
  (123, .iconst 1, 124, 0, 0, 0, 0, 0, 1, 0, []),
  (124, .iadd, 125, 0, 0, 0, 0, 0, 0, 0, []),
  (125, .iaload, 126, 0, 0, 0, 0, 0, 0, 0, []),
  (126, .i2l, 127, 0, 0, 0, 0, 0, 0, 0, []),
  (127, .bipush 32, 129, 0, 0, 0, 0, 0, 32, 0, [])],
 [(129, .lshl, 130, 0, 0, 0, 0, 0, 0, 0, []),
  (130, .aload_n 0, 131, 0, 0, 0, 0, 0, 0, 0, []),
  (131, .iload_n 3, 132, 3, 0, 0, 0, 0, 0, 0, []),
  (132, .iconst 2, 133, 0, 0, 0, 0, 0, 2, 0, []),
  (133, .iadd, 134, 0, 0, 0, 0, 0, 0, 0, []),
  (134, .iaload, 135, 0, 0, 0, 0, 0, 0, 0, []),
  (135, .i2l, 136, 0, 0, 0, 0, 0, 0, 0, []),
  (136, .ldc2_w 13, 139, 0, 0, 0, 0, 1007, 0, 4294967295, []),
  (139, .land, 140, 0, 0, 0, 0, 0, 0, 0, []),
  (140, .lor, 141, 0, 0, 0, 0, 0, 0, 0, []),
  (141, .aload_n 0, 142, 0, 0, 0, 0, 0, 0, 0, []),
  (142, .iload_n 3, 143, 3, 0, 0, 0, 0, 0, 0, []),
  (143, .iconst 3, 144, 0, 0, 0, 0, 0, 3, 0, [])],
 [(144, .iadd, 145, 0, 0, 0, 0, 0, 0, 0, []),
  (145, .iaload, 146, 0, 0, 0, 0, 0, 0, 0, []),
  (146, .invokevirtual 15, 149, 61, 3, 1, 0, 149, 0, 0, [0, 0]),
  (149, .aload_n 2, 150, 2, 0, 0, 0, 0, 0, 0, []),
  (150, .aload_n 0, 151, 0, 0, 0, 0, 0, 0, 0, []),
  (151, .iload_n 3, 152, 3, 0, 0, 0, 0, 0, 0, []),
  (152, .iconst 1, 153, 0, 0, 0, 0, 0, 1, 0, []),
  (153, .iadd, 154, 0, 0, 0, 0, 0, 0, 0, []),
  (154, .iaload, 155, 0, 0, 0, 0, 0, 0, 0, []),
  (155, .i2l, 156, 0, 0, 0, 0, 0, 0, 0, []),
  (156, .bipush 32, 158, 0, 0, 0, 0, 0, 32, 0, []),
  (158, .lshl, 159, 0, 0, 0, 0, 0, 0, 0, []),
  (159, .aload_n 0, 160, 0, 0, 0, 0, 0, 0, 0, [])],
 [(160, .iload_n 3, 161, 3, 0, 0, 0, 0, 0, 0, []),
  (161, .iconst 2, 162, 0, 0, 0, 0, 0, 2, 0, []),
  (162, .iadd, 163, 0, 0, 0, 0, 0, 0, 0, []),
  (163, .iaload, 164, 0, 0, 0, 0, 0, 0, 0, []),
  (164, .i2l, 165, 0, 0, 0, 0, 0, 0, 0, []),
  (165, .ldc2_w 13, 168, 0, 0, 0, 0, 1007, 0, 4294967295, []),
  (168, .land, 169, 0, 0, 0, 0, 0, 0, 0, []),
  (169, .lor, 170, 0, 0, 0, 0, 0, 0, 0, []),
  (170, .aload_n 0, 171, 0, 0, 0, 0, 0, 0, 0, []),
  (171, .iload_n 3, 172, 3, 0, 0, 0, 0, 0, 0, []),
  (172, .iconst 3, 173, 0, 0, 0, 0, 0, 3, 0, []),
  (173, .iadd, 174, 0, 0, 0, 0, 0, 0, 0, []),
  (174, .iaload, 175, 0, 0, 0, 0, 0, 0, 0, []),
  (175, .invokevirtual 19, 178, 94, 3, 1, 0, 783, 0, 0, [0, 0])],
 [(178, .if_icmp .eq 440, 181, 618, 0, 0, 0, 0, 0, 0, []),
  (181, .iconst 0, 182, 0, 0, 0, 0, 0, 0, 0, []),
  (182, .ireturn, 183, 0, 0, 0, 0, 0, 0, 0, []),
  (183, .aload_n 1, 184, 1, 0, 0, 0, 0, 0, 0, []),
  (184, .invokevirtual 20, 187, 62, 1, 1, 0, 157, 0, 0, [0, 0]),
  (187, .aload_n 2, 188, 2, 0, 0, 0, 0, 0, 0, []),
  (188, .invokevirtual 24, 191, 95, 1, 1, 0, 795, 0, 0, [0, 0]),
  (191, .if_icmp .eq 427, 194, 618, 0, 0, 0, 0, 0, 0, [])],
 [(194, .iconst 0, 195, 0, 0, 0, 0, 0, 0, 0, []),
  (195, .ireturn, 196, 0, 0, 0, 0, 0, 0, 0, []),
  (196, .aload_n 1, 197, 1, 0, 0, 0, 0, 0, 0, []),
  (197, .aload_n 0, 198, 0, 0, 0, 0, 0, 0, 0, []),
  (198, .iload_n 3, 199, 3, 0, 0, 0, 0, 0, 0, []),
  (199, .iconst 1, 200, 0, 0, 0, 0, 0, 1, 0, []),
  (200, .iadd, 201, 0, 0, 0, 0, 0, 0, 0, []),
  (201, .iaload, 202, 0, 0, 0, 0, 0, 0, 0, []),
  (202, .aload_n 0, 203, 0, 0, 0, 0, 0, 0, 0, []),
  (203, .iload_n 3, 204, 3, 0, 0, 0, 0, 0, 0, []),
  (204, .iconst 2, 205, 0, 0, 0, 0, 0, 2, 0, []),
  (205, .iadd, 206, 0, 0, 0, 0, 0, 0, 0, []),
  (206, .iaload, 207, 0, 0, 0, 0, 0, 0, 0, []),
  (207, .invokevirtual 25, 210, 63, 3, 1, 0, 161, 0, 0, [0, 0])],
 [(210, .aload_n 2, 211, 2, 0, 0, 0, 0, 0, 0, []),
  (211, .aload_n 0, 212, 0, 0, 0, 0, 0, 0, 0, []),
  (212, .iload_n 3, 213, 3, 0, 0, 0, 0, 0, 0, []),
  (213, .iconst 1, 214, 0, 0, 0, 0, 0, 1, 0, []),
  (214, .iadd, 215, 0, 0, 0, 0, 0, 0, 0, []),
  (215, .iaload, 216, 0, 0, 0, 0, 0, 0, 0, []),
  (216, .aload_n 0, 217, 0, 0, 0, 0, 0, 0, 0, []),
  (217, .iload_n 3, 218, 3, 0, 0, 0, 0, 0, 0, []),
  (218, .iconst 2, 219, 0, 0, 0, 0, 0, 2, 0, []),
  (219, .iadd, 220, 0, 0, 0, 0, 0, 0, 0, []),
  (220, .iaload, 221, 0, 0, 0, 0, 0, 0, 0, []),
  (221, .invokevirtual 29, 224, 96, 3, 1, 0, 799, 0, 0, [0, 0])],
 [(224, .if_icmp .eq 394, 227, 618, 0, 0, 0, 0, 0, 0, []),
  (227, .iconst 0, 228, 0, 0, 0, 0, 0, 0, 0, []),
  (228, .ireturn, 229, 0, 0, 0, 0, 0, 0, 0, []),
  (229, .aload_n 1, 230, 1, 0, 0, 0, 0, 0, 0, []),
  (230, .aload_n 0, 231, 0, 0, 0, 0, 0, 0, 0, []),
  (231, .iload_n 3, 232, 3, 0, 0, 0, 0, 0, 0, []),
  (232, .iconst 1, 233, 0, 0, 0, 0, 0, 1, 0, []),
  (233, .iadd, 234, 0, 0, 0, 0, 0, 0, 0, []),
  (234, .iaload, 235, 0, 0, 0, 0, 0, 0, 0, []),
  (235, .invokevirtual 30, 238, 64, 2, 1, 0, 178, 0, 0, [0, 0]),
  (238, .aload_n 2, 239, 2, 0, 0, 0, 0, 0, 0, []),
  (239, .aload_n 0, 240, 0, 0, 0, 0, 0, 0, 0, [])],
 [(240, .iload_n 3, 241, 3, 0, 0, 0, 0, 0, 0, []),
  (241, .iconst 1, 242, 0, 0, 0, 0, 0, 1, 0, []),
  (242, .iadd, 243, 0, 0, 0, 0, 0, 0, 0, []),
  (243, .iaload, 244, 0, 0, 0, 0, 0, 0, 0, []),
  (244, .invokevirtual 34, 247, 97, 2, 1, 0, 804, 0, 0, [0, 0]),
  (247, .if_icmp .eq 371, 250, 618, 0, 0, 0, 0, 0, 0, []),
  (250, .iconst 0, 251, 0, 0, 0, 0, 0, 0, 0, []),
  (251, .ireturn, 252, 0, 0, 0, 0, 0, 0, 0, []),
  (252, .aload_n 1, 253, 1, 0, 0, 0, 0, 0, 0, []),
  (253, .aload_n 0, 254, 0, 0, 0, 0, 0, 0, 0, []),
  (254, .iload_n 3, 255, 3, 0, 0, 0, 0, 0, 0, []),
  (255, .iconst 1, 256, 0, 0, 0, 0, 0, 1, 0, [])],
 [(256, .iadd, 257, 0, 0, 0, 0, 0, 0, 0, []),
  (257, .iaload, 258, 0, 0, 0, 0, 0, 0, 0, []),
  (258, .aload_n 0, 259, 0, 0, 0, 0, 0, 0, 0, []),
  (259, .iload_n 3, 260, 3, 0, 0, 0, 0, 0, 0, []),
  (260, .iconst 2, 261, 0, 0, 0, 0, 0, 2, 0, []),
  (261, .iadd, 262, 0, 0, 0, 0, 0, 0, 0, []),
  (262, .iaload, 263, 0, 0, 0, 0, 0, 0, 0, []),
  (263, .invokevirtual 35, 266, 65, 3, 1, 0, 182, 0, 0, [0, 0]),
  (266, .aload_n 2, 267, 2, 0, 0, 0, 0, 0, 0, []),
  (267, .aload_n 0, 268, 0, 0, 0, 0, 0, 0, 0, []),
  (268, .iload_n 3, 269, 3, 0, 0, 0, 0, 0, 0, []),
  (269, .iconst 1, 270, 0, 0, 0, 0, 0, 1, 0, []),
  (270, .iadd, 271, 0, 0, 0, 0, 0, 0, 0, []),
  (271, .iaload, 272, 0, 0, 0, 0, 0, 0, 0, [])],
 [(272, .aload_n 0, 273, 0, 0, 0, 0, 0, 0, 0, []),
  (273, .iload_n 3, 274, 3, 0, 0, 0, 0, 0, 0, []),
  (274, .iconst 2, 275, 0, 0, 0, 0, 0, 2, 0, []),
  (275, .iadd, 276, 0, 0, 0, 0, 0, 0, 0, []),
  (276, .iaload, 277, 0, 0, 0, 0, 0, 0, 0, []),
  (277, .invokevirtual 38, 280, 98, 3, 1, 0, 808, 0, 0, [0, 0]),
  (280, .if_icmp .eq 338, 283, 618, 0, 0, 0, 0, 0, 0, []),
  (283, .iconst 0, 284, 0, 0, 0, 0, 0, 0, 0, []),
  (284, .ireturn, 285, 0, 0, 0, 0, 0, 0, 0, []),
  (285, .aload_n 1, 286, 1, 0, 0, 0, 0, 0, 0, []),
  (286, .invokevirtual 39, 289, 66, 1, 1, 0, 187, 0, 0, [7, 100])],
 [(289, .aload_n 2, 290, 2, 0, 0, 0, 0, 0, 0, []),
  (290, .invokevirtual 42, 293, 117, 1, 1, 0, 840, 0, 0, [0, 0]),
  (293, .if_icmp .eq 325, 296, 618, 0, 0, 0, 0, 0, 0, []),
  (296, .iconst 0, 297, 0, 0, 0, 0, 0, 0, 0, []),
  (297, .ireturn, 298, 0, 0, 0, 0, 0, 0, 0, []),
  (298, .aload_n 1, 299, 1, 0, 0, 0, 0, 0, 0, []),
  (299, .aload_n 0, 300, 0, 0, 0, 0, 0, 0, 0, []),
  (300, .iload_n 3, 301, 3, 0, 0, 0, 0, 0, 0, []),
  (301, .iconst 1, 302, 0, 0, 0, 0, 0, 1, 0, []),
  (302, .iadd, 303, 0, 0, 0, 0, 0, 0, 0, []),
  (303, .iaload, 304, 0, 0, 0, 0, 0, 0, 0, [])],
 [(304, .invokevirtual 43, 307, 67, 2, 1, 0, 474, 0, 0, [0, 0]),
  (307, .aload_n 2, 308, 2, 0, 0, 0, 0, 0, 0, []),
  (308, .aload_n 0, 309, 0, 0, 0, 0, 0, 0, 0, []),
  (309, .iload_n 3, 310, 3, 0, 0, 0, 0, 0, 0, []),
  (310, .iconst 1, 311, 0, 0, 0, 0, 0, 1, 0, []),
  (311, .iadd, 312, 0, 0, 0, 0, 0, 0, 0, []),
  (312, .iaload, 313, 0, 0, 0, 0, 0, 0, 0, []),
  (313, .invokevirtual 46, 316, 103, 2, 1, 0, 814, 0, 0, [0, 0]),
  (316, .if_icmp .eq 302, 319, 618, 0, 0, 0, 0, 0, 0, []),
  (319, .iconst 0, 320, 0, 0, 0, 0, 0, 0, 0, [])],
 [(320, .ireturn, 321, 0, 0, 0, 0, 0, 0, 0, []),
  (321, .aload_n 1, 322, 1, 0, 0, 0, 0, 0, 0, []),
  (322, .aload_n 0, 323, 0, 0, 0, 0, 0, 0, 0, []),
  (323, .iload_n 3, 324, 3, 0, 0, 0, 0, 0, 0, []),
  (324, .iconst 1, 325, 0, 0, 0, 0, 0, 1, 0, []),
  (325, .iadd, 326, 0, 0, 0, 0, 0, 0, 0, []),
  (326, .iaload, 327, 0, 0, 0, 0, 0, 0, 0, []),
  (327, .invokevirtual 47, 330, 73, 2, 1, 0, 485, 0, 0, [0, 0]),
  (330, .aload_n 2, 331, 2, 0, 0, 0, 0, 0, 0, []),
  (331, .aload_n 0, 332, 0, 0, 0, 0, 0, 0, 0, []),
  (332, .iload_n 3, 333, 3, 0, 0, 0, 0, 0, 0, []),
  (333, .iconst 1, 334, 0, 0, 0, 0, 0, 1, 0, []),
  (334, .iadd, 335, 0, 0, 0, 0, 0, 0, 0, []),
  (335, .iaload, 336, 0, 0, 0, 0, 0, 0, 0, [])],
 [(336, .invokevirtual 50, 339, 118, 2, 1, 0, 898, 0, 0, [0, 0]),
  (339, .if_icmp .eq 279, 342, 618, 0, 0, 0, 0, 0, 0, []),
  (342, .iconst 0, 343, 0, 0, 0, 0, 0, 0, 0, []),
  (343, .ireturn, 344, 0, 0, 0, 0, 0, 0, 0, []),
  (344, .aload_n 1, 345, 1, 0, 0, 0, 0, 0, 0, []),
  (345, .aload_n 0, 346, 0, 0, 0, 0, 0, 0, 0, []),
  (346, .iload_n 3, 347, 3, 0, 0, 0, 0, 0, 0, []),
  (347, .iconst 1, 348, 0, 0, 0, 0, 0, 1, 0, []),
  (348, .iadd, 349, 0, 0, 0, 0, 0, 0, 0, []),
  (349, .iaload, 350, 0, 0, 0, 0, 0, 0, 0, []),
  (350, .invokevirtual 51, 353, 74, 2, 1, 0, 491, 0, 0, [0, 0])],
 [(353, .aload_n 2, 354, 2, 0, 0, 0, 0, 0, 0, []),
  (354, .aload_n 0, 355, 0, 0, 0, 0, 0, 0, 0, []),
  (355, .iload_n 3, 356, 3, 0, 0, 0, 0, 0, 0, []),
  (356, .iconst 1, 357, 0, 0, 0, 0, 0, 1, 0, []),
  (357, .iadd, 358, 0, 0, 0, 0, 0, 0, 0, []),
  (358, .iaload, 359, 0, 0, 0, 0, 0, 0, 0, []),
  (359, .invokevirtual 54, 362, 119, 2, 1, 0, 904, 0, 0, [0, 0]),
  (362, .if_icmp .eq 256, 365, 618, 0, 0, 0, 0, 0, 0, []),
  (365, .iconst 0, 366, 0, 0, 0, 0, 0, 0, 0, []),
  (366, .ireturn, 367, 0, 0, 0, 0, 0, 0, 0, []),
  (367, .aload_n 1, 368, 1, 0, 0, 0, 0, 0, 0, [])],
 [(368, .aload_n 0, 369, 0, 0, 0, 0, 0, 0, 0, []),
  (369, .iload_n 3, 370, 3, 0, 0, 0, 0, 0, 0, []),
  (370, .iconst 1, 371, 0, 0, 0, 0, 0, 1, 0, []),
  (371, .iadd, 372, 0, 0, 0, 0, 0, 0, 0, []),
  (372, .iaload, 373, 0, 0, 0, 0, 0, 0, 0, []),
  (373, .aload_n 0, 374, 0, 0, 0, 0, 0, 0, 0, []),
  (374, .iload_n 3, 375, 3, 0, 0, 0, 0, 0, 0, []),
  (375, .iconst 2, 376, 0, 0, 0, 0, 0, 2, 0, []),
  (376, .iadd, 377, 0, 0, 0, 0, 0, 0, 0, []),
  (377, .iaload, 378, 0, 0, 0, 0, 0, 0, 0, []),
  (378, .invokevirtual 55, 381, 75, 3, 1, 0, 495, 0, 0, [0, 0]),
  (381, .aload_n 2, 382, 2, 0, 0, 0, 0, 0, 0, []),
  (382, .aload_n 0, 383, 0, 0, 0, 0, 0, 0, 0, []),
  (383, .iload_n 3, 384, 3, 0, 0, 0, 0, 0, 0, [])],
 [(384, .iconst 1, 385, 0, 0, 0, 0, 0, 1, 0, []),
  (385, .iadd, 386, 0, 0, 0, 0, 0, 0, 0, []),
  (386, .iaload, 387, 0, 0, 0, 0, 0, 0, 0, []),
  (387, .aload_n 0, 388, 0, 0, 0, 0, 0, 0, 0, []),
  (388, .iload_n 3, 389, 3, 0, 0, 0, 0, 0, 0, []),
  (389, .iconst 2, 390, 0, 0, 0, 0, 0, 2, 0, []),
  (390, .iadd, 391, 0, 0, 0, 0, 0, 0, 0, []),
  (391, .iaload, 392, 0, 0, 0, 0, 0, 0, 0, []),
  (392, .invokevirtual 58, 395, 123, 3, 1, 0, 909, 0, 0, [0, 0]),
  (395, .if_icmp .eq 223, 398, 618, 0, 0, 0, 0, 0, 0, []),
  (398, .iconst 0, 399, 0, 0, 0, 0, 0, 0, 0, []),
  (399, .ireturn, 400, 0, 0, 0, 0, 0, 0, 0, [])],
 [(400, .aload_n 1, 401, 1, 0, 0, 0, 0, 0, 0, []),
  (401, .aload_n 0, 402, 0, 0, 0, 0, 0, 0, 0, []),
  (402, .iload_n 3, 403, 3, 0, 0, 0, 0, 0, 0, []),
  (403, .iconst 1, 404, 0, 0, 0, 0, 0, 1, 0, []),
  (404, .iadd, 405, 0, 0, 0, 0, 0, 0, 0, []),
  (405, .iaload, 406, 0, 0, 0, 0, 0, 0, 0, []),
  (406, .invokevirtual 59, 409, 76, 2, 2, 0, 526, 0, 0, [0, 0]),
  (409, .aload_n 2, 410, 2, 0, 0, 0, 0, 0, 0, []),
  (410, .aload_n 0, 411, 0, 0, 0, 0, 0, 0, 0, []),
  (411, .iload_n 3, 412, 3, 0, 0, 0, 0, 0, 0, []),
  (412, .iconst 1, 413, 0, 0, 0, 0, 0, 1, 0, []),
  (413, .iadd, 414, 0, 0, 0, 0, 0, 0, 0, []),
  (414, .iaload, 415, 0, 0, 0, 0, 0, 0, 0, []),
  (415, .invokevirtual 63, 418, 124, 2, 2, 0, 928, 0, 0, [0, 0])],
 [(418, .lcmp, 419, 0, 0, 0, 0, 0, 0, 0, []),
  (419, .ifCond .eq 199, 422, 618, 0, 0, 0, 0, 0, 0, []),
  (422, .iconst 0, 423, 0, 0, 0, 0, 0, 0, 0, []),
  (423, .ireturn, 424, 0, 0, 0, 0, 0, 0, 0, []),
  (424, .aload_n 1, 425, 1, 0, 0, 0, 0, 0, 0, []),
  (425, .aload_n 0, 426, 0, 0, 0, 0, 0, 0, 0, []),
  (426, .iload_n 3, 427, 3, 0, 0, 0, 0, 0, 0, []),
  (427, .iconst 1, 428, 0, 0, 0, 0, 0, 1, 0, []),
  (428, .iadd, 429, 0, 0, 0, 0, 0, 0, 0, []),
  (429, .iaload, 430, 0, 0, 0, 0, 0, 0, 0, []),
  (430, .aload_n 0, 431, 0, 0, 0, 0, 0, 0, 0, []),
  (431, .iload_n 3, 432, 3, 0, 0, 0, 0, 0, 0, [])],
 [(432, .iconst 2, 433, 0, 0, 0, 0, 0, 2, 0, []),
  (433, .iadd, 434, 0, 0, 0, 0, 0, 0, 0, []),
  (434, .iaload, 435, 0, 0, 0, 0, 0, 0, 0, []),
  (435, .i2l, 436, 0, 0, 0, 0, 0, 0, 0, []),
  (436, .bipush 32, 438, 0, 0, 0, 0, 0, 32, 0, []),
  (438, .lshl, 439, 0, 0, 0, 0, 0, 0, 0, []),
  (439, .aload_n 0, 440, 0, 0, 0, 0, 0, 0, 0, []),
  (440, .iload_n 3, 441, 3, 0, 0, 0, 0, 0, 0, []),
  (441, .iconst 3, 442, 0, 0, 0, 0, 0, 3, 0, []),
  (442, .iadd, 443, 0, 0, 0, 0, 0, 0, 0, []),
  (443, .iaload, 444, 0, 0, 0, 0, 0, 0, 0, []),
  (444, .i2l, 445, 0, 0, 0, 0, 0, 0, 0, []),
  (445, .ldc2_w 13, 448, 0, 0, 0, 0, 1007, 0, 4294967295, [])],
 [(448, .land, 449, 0, 0, 0, 0, 0, 0, 0, []),
  (449, .lor, 450, 0, 0, 0, 0, 0, 0, 0, []),
  (450, .invokevirtual 64, 453, 77, 3, 2, 0, 530, 0, 0, [0, 0]),
  (453, .aload_n 2, 454, 2, 0, 0, 0, 0, 0, 0, []),
  (454, .aload_n 0, 455, 0, 0, 0, 0, 0, 0, 0, []),
  (455, .iload_n 3, 456, 3, 0, 0, 0, 0, 0, 0, []),
  (456, .iconst 1, 457, 0, 0, 0, 0, 0, 1, 0, []),
  (457, .iadd, 458, 0, 0, 0, 0, 0, 0, 0, []),
  (458, .iaload, 459, 0, 0, 0, 0, 0, 0, 0, []),
  (459, .aload_n 0, 460, 0, 0, 0, 0, 0, 0, 0, []),
  (460, .iload_n 3, 461, 3, 0, 0, 0, 0, 0, 0, []),
  (461, .iconst 2, 462, 0, 0, 0, 0, 0, 2, 0, []),
  (462, .iadd, 463, 0, 0, 0, 0, 0, 0, 0, []),
  (463, .iaload, 464, 0, 0, 0, 0, 0, 0, 0, [])],
 [(464, .i2l, 465, 0, 0, 0, 0, 0, 0, 0, []),
  (465, .bipush 32, 467, 0, 0, 0, 0, 0, 32, 0, []),
  (467, .lshl, 468, 0, 0, 0, 0, 0, 0, 0, []),
  (468, .aload_n 0, 469, 0, 0, 0, 0, 0, 0, 0, []),
  (469, .iload_n 3, 470, 3, 0, 0, 0, 0, 0, 0, []),
  (470, .iconst 3, 471, 0, 0, 0, 0, 0, 3, 0, []),
  (471, .iadd, 472, 0, 0, 0, 0, 0, 0, 0, []),
  (472, .iaload, 473, 0, 0, 0, 0, 0, 0, 0, []),
  (473, .i2l, 474, 0, 0, 0, 0, 0, 0, 0, []),
  (474, .ldc2_w 13, 477, 0, 0, 0, 0, 1007, 0, 4294967295, []),
  (477, .land, 478, 0, 0, 0, 0, 0, 0, 0, []),
  (478, .lor, 479, 0, 0, 0, 0, 0, 0, 0, []),
  (479, .invokevirtual 68, 482, 125, 3, 2, 0, 932, 0, 0, [0, 0])],
 [(482, .lcmp, 483, 0, 0, 0, 0, 0, 0, 0, []),
  (483, .ifCond .eq 135, 486, 618, 0, 0, 0, 0, 0, 0, []),
  (486, .iconst 0, 487, 0, 0, 0, 0, 0, 0, 0, []),
  (487, .ireturn, 488, 0, 0, 0, 0, 0, 0, 0, []),
  (488, .aload_n 1, 489, 1, 0, 0, 0, 0, 0, 0, []),
  (489, .aload_n 0, 490, 0, 0, 0, 0, 0, 0, 0, []),
  (490, .iload_n 3, 491, 3, 0, 0, 0, 0, 0, 0, []),
  (491, .iconst 1, 492, 0, 0, 0, 0, 0, 1, 0, []),
  (492, .iadd, 493, 0, 0, 0, 0, 0, 0, 0, []),
  (493, .iaload, 494, 0, 0, 0, 0, 0, 0, 0, []),
  (494, .aload_n 0, 495, 0, 0, 0, 0, 0, 0, 0, []),
  (495, .iload_n 3, 496, 3, 0, 0, 0, 0, 0, 0, [])],
 [(496, .iconst 2, 497, 0, 0, 0, 0, 0, 2, 0, []),
  (497, .iadd, 498, 0, 0, 0, 0, 0, 0, 0, []),
  (498, .iaload, 499, 0, 0, 0, 0, 0, 0, 0, []),
  (499, .invokevirtual 69, 502, 78, 3, 2, 0, 541, 0, 0, [0, 0]),
  (502, .aload_n 2, 503, 2, 0, 0, 0, 0, 0, 0, []),
  (503, .aload_n 0, 504, 0, 0, 0, 0, 0, 0, 0, []),
  (504, .iload_n 3, 505, 3, 0, 0, 0, 0, 0, 0, []),
  (505, .iconst 1, 506, 0, 0, 0, 0, 0, 1, 0, []),
  (506, .iadd, 507, 0, 0, 0, 0, 0, 0, 0, []),
  (507, .iaload, 508, 0, 0, 0, 0, 0, 0, 0, []),
  (508, .aload_n 0, 509, 0, 0, 0, 0, 0, 0, 0, []),
  (509, .iload_n 3, 510, 3, 0, 0, 0, 0, 0, 0, []),
  (510, .iconst 2, 511, 0, 0, 0, 0, 0, 2, 0, []),
  (511, .iadd, 512, 0, 0, 0, 0, 0, 0, 0, [])],
 [(512, .iaload, 513, 0, 0, 0, 0, 0, 0, 0, []),
  (513, .invokevirtual 73, 516, 126, 3, 2, 0, 939, 0, 0, [0, 0]),
  (516, .lcmp, 517, 0, 0, 0, 0, 0, 0, 0, []),
  (517, .ifCond .eq 101, 520, 618, 0, 0, 0, 0, 0, 0, []),
  (520, .iconst 0, 521, 0, 0, 0, 0, 0, 0, 0, []),
  (521, .ireturn, 522, 0, 0, 0, 0, 0, 0, 0, []),
  (522, .aload_n 1, 523, 1, 0, 0, 0, 0, 0, 0, []),
  (523, .aload_n 0, 524, 0, 0, 0, 0, 0, 0, 0, []),
  (524, .iload_n 3, 525, 3, 0, 0, 0, 0, 0, 0, []),
  (525, .iconst 1, 526, 0, 0, 0, 0, 0, 1, 0, []),
  (526, .iadd, 527, 0, 0, 0, 0, 0, 0, 0, []),
  (527, .iaload, 528, 0, 0, 0, 0, 0, 0, 0, [])],
 [(528, .invokevirtual 74, 531, 79, 2, 1, 0, 554, 0, 0, [0, 0]),
  (531, .aload_n 2, 532, 2, 0, 0, 0, 0, 0, 0, []),
  (532, .aload_n 0, 533, 0, 0, 0, 0, 0, 0, 0, []),
  (533, .iload_n 3, 534, 3, 0, 0, 0, 0, 0, 0, []),
  (534, .iconst 1, 535, 0, 0, 0, 0, 0, 1, 0, []),
  (535, .iadd, 536, 0, 0, 0, 0, 0, 0, 0, []),
  (536, .iaload, 537, 0, 0, 0, 0, 0, 0, 0, []),
  (537, .invokevirtual 77, 540, 128, 2, 1, 0, 945, 0, 0, [0, 0]),
  (540, .if_icmp .eq 78, 543, 618, 0, 0, 0, 0, 0, 0, []),
  (543, .iconst 0, 544, 0, 0, 0, 0, 0, 0, 0, [])],
 [(544, .ireturn, 545, 0, 0, 0, 0, 0, 0, 0, []),
  (545, .aload_n 1, 546, 1, 0, 0, 0, 0, 0, 0, []),
  (546, .invokevirtual 78, 549, 81, 1, 1, 0, 574, 0, 0, [0, 0]),
  (549, .aload_n 2, 550, 2, 0, 0, 0, 0, 0, 0, []),
  (550, .invokevirtual 81, 553, 135, 1, 1, 0, 958, 0, 0, [0, 0]),
  (553, .if_icmp .eq 65, 556, 618, 0, 0, 0, 0, 0, 0, []),
  (556, .iconst 0, 557, 0, 0, 0, 0, 0, 0, 0, []),
  (557, .ireturn, 558, 0, 0, 0, 0, 0, 0, 0, []),
  (558, .aload_n 1, 559, 1, 0, 0, 0, 0, 0, 0, []),
  (559, .aload_n 0, 560, 0, 0, 0, 0, 0, 0, 0, [])],
 [(560, .iload_n 3, 561, 3, 0, 0, 0, 0, 0, 0, []),
  (561, .iconst 1, 562, 0, 0, 0, 0, 0, 1, 0, []),
  (562, .iadd, 563, 0, 0, 0, 0, 0, 0, 0, []),
  (563, .iaload, 564, 0, 0, 0, 0, 0, 0, 0, []),
  (564, .invokevirtual 82, 567, 87, 2, 1, 0, 636, 0, 0, [0, 0]),
  (567, .aload_n 2, 568, 2, 0, 0, 0, 0, 0, 0, []),
  (568, .aload_n 0, 569, 0, 0, 0, 0, 0, 0, 0, []),
  (569, .iload_n 3, 570, 3, 0, 0, 0, 0, 0, 0, []),
  (570, .iconst 1, 571, 0, 0, 0, 0, 0, 1, 0, []),
  (571, .iadd, 572, 0, 0, 0, 0, 0, 0, 0, []),
  (572, .iaload, 573, 0, 0, 0, 0, 0, 0, 0, []),
  (573, .invokevirtual 85, 576, 136, 2, 1, 0, 990, 0, 0, [0, 0])],
 [(576, .if_icmp .eq 42, 579, 618, 0, 0, 0, 0, 0, 0, []),
  (579, .iconst 0, 580, 0, 0, 0, 0, 0, 0, 0, []),
  (580, .ireturn, 581, 0, 0, 0, 0, 0, 0, 0, []),
  (581, .aload_n 1, 582, 1, 0, 0, 0, 0, 0, 0, []),
  (582, .aload_n 0, 583, 0, 0, 0, 0, 0, 0, 0, []),
  (583, .iload_n 3, 584, 3, 0, 0, 0, 0, 0, 0, []),
  (584, .iconst 1, 585, 0, 0, 0, 0, 0, 1, 0, []),
  (585, .iadd, 586, 0, 0, 0, 0, 0, 0, 0, []),
  (586, .iaload, 587, 0, 0, 0, 0, 0, 0, 0, []),
  (587, .invokevirtual 86, 590, 88, 2, 1, 0, 640, 0, 0, [0, 0]),
  (590, .aload_n 2, 591, 2, 0, 0, 0, 0, 0, 0, []),
  (591, .aload_n 0, 592, 0, 0, 0, 0, 0, 0, 0, [])],
 [(592, .iload_n 3, 593, 3, 0, 0, 0, 0, 0, 0, []),
  (593, .iconst 1, 594, 0, 0, 0, 0, 0, 1, 0, []),
  (594, .iadd, 595, 0, 0, 0, 0, 0, 0, 0, []),
  (595, .iaload, 596, 0, 0, 0, 0, 0, 0, 0, []),
  (596, .invokevirtual 89, 599, 137, 2, 1, 0, 995, 0, 0, [0, 0]),
  (599, .if_icmp .eq 19, 602, 618, 0, 0, 0, 0, 0, 0, []),
  (602, .iconst 0, 603, 0, 0, 0, 0, 0, 0, 0, []),
  (603, .ireturn, 604, 0, 0, 0, 0, 0, 0, 0, []),
  (604, .aload_n 1, 605, 1, 0, 0, 0, 0, 0, 0, []),
  (605, .invokevirtual 90, 608, 89, 1, 2, 0, 644, 0, 0, [0, 0])],
 [(608, .aload_n 2, 609, 2, 0, 0, 0, 0, 0, 0, []),
  (609, .invokevirtual 94, 612, 138, 1, 2, 0, 999, 0, 0, [0, 0]),
  (612, .lcmp, 613, 0, 0, 0, 0, 0, 0, 0, []),
  (613, .ifCond .eq 5, 616, 618, 0, 0, 0, 0, 0, 0, []),
  (616, .iconst 0, 617, 0, 0, 0, 0, 0, 0, 0, []),
  (617, .ireturn, 618, 0, 0, 0, 0, 0, 0, 0, []),
  (618, .iinc 3 4, 621, 3, 0, 0, 0, 0, 4, 0, []),
  (621, .goto (-603), 624, 18, 0, 0, 0, 0, 0, 0, [])],
 [(624, .iconst 1, 625, 0, 0, 0, 0, 0, 1, 0, []),
  (625, .ireturn, 626, 0, 0, 0, 0, 0, 0, 0, [])]]
abbrev sd_MR : Type := MethodName × ByteArray × Nat × Option FieldType × List (List sd_I)
def mr_X0_shapeFault : sd_MR := (⟨"StreamDesk$DataForm", "shapeFault", "(LStreamDesk$Packet;)I"⟩, prog_2_method_2_code, 3, (some .int), cd_X0_shapeFault)
def mr_X0_field : sd_MR := (⟨"StreamDesk$DataForm", "field", "(LStreamDesk$Packet;I)I"⟩, prog_2_method_3_code, 2, (some .int), cd_X0_field)
def mr_X0_sort : sd_MR := (⟨"StreamDesk$DataForm", "sort", "(LStreamDesk$Packet;)I"⟩, prog_2_method_4_code, 1, (some .int), cd_X0_sort)
def mr_X0_number : sd_MR := (⟨"StreamDesk$DataForm", "number", "(LStreamDesk$Packet;)I"⟩, prog_2_method_5_code, 1, (some .int), cd_X0_number)
def mr_X0_stamp : sd_MR := (⟨"StreamDesk$DataForm", "stamp", "(LStreamDesk$Packet;)I"⟩, prog_2_method_6_code, 1, (some .int), cd_X0_stamp)
def mr_X0_source : sd_MR := (⟨"StreamDesk$DataForm", "source", "(LStreamDesk$Packet;)I"⟩, prog_2_method_7_code, 1, (some .int), cd_X0_source)
def mr_X0_words : sd_MR := (⟨"StreamDesk$DataForm", "words", "(LStreamDesk$Packet;)I"⟩, prog_2_method_8_code, 1, (some .int), cd_X0_words)
def mr_X0_firstHas : sd_MR := (⟨"StreamDesk$DataForm", "firstHas", "(LStreamDesk$Packet;I)Z"⟩, prog_2_method_9_code, 2, (some .boolean), cd_X0_firstHas)
def mr_X0_wordsEnd : sd_MR := (⟨"StreamDesk$DataForm", "wordsEnd", "(LStreamDesk$Packet;)I"⟩, prog_2_method_10_code, 1, (some .int), cd_X0_wordsEnd)
def mr_X0_payloadPlace : sd_MR := (⟨"StreamDesk$DataForm", "payloadPlace", "(LStreamDesk$Packet;)I"⟩, prog_2_method_11_code, 2, (some .int), cd_X0_payloadPlace)
def mr_X0_filling : sd_MR := (⟨"StreamDesk$DataForm", "filling", "(LStreamDesk$Packet;)I"⟩, prog_2_method_12_code, 1, (some .int), cd_X0_filling)
def mr_X1_init : sd_MR := (⟨"StreamDesk$EventLog", "<init>", "()V"⟩, prog_3_method_1_code, 1, none, cd_X1_init)
def mr_X1_add : sd_MR := (⟨"StreamDesk$EventLog", "add", "(IIJI)V"⟩, prog_3_method_2_code, 7, none, cd_X1_add)
def mr_X1_keeps : sd_MR := (⟨"StreamDesk$EventLog", "keeps", "(I)Z"⟩, prog_3_method_3_code, 2, (some .boolean), cd_X1_keeps)
def mr_X1_field : sd_MR := (⟨"StreamDesk$EventLog", "field", "(II)J"⟩, prog_3_method_4_code, 4, (some .long), cd_X1_field)
def mr_X2_init : sd_MR := (⟨"StreamDesk$Jitter", "<init>", "()V"⟩, prog_4_method_1_code, 1, none, cd_X2_init)
def mr_X2_follow : sd_MR := (⟨"StreamDesk$Jitter", "follow", "(I)V"⟩, prog_4_method_2_code, 2, none, cd_X2_follow)
def mr_X3_init : sd_MR := (⟨"StreamDesk$Numbers", "<init>", "(I)V"⟩, prog_5_method_1_code, 2, none, cd_X3_init)
def mr_X3_setBy : sd_MR := (⟨"StreamDesk$Numbers", "setBy", "(I)V"⟩, prog_5_method_2_code, 2, none, cd_X3_setBy)
def mr_X3_judge : sd_MR := (⟨"StreamDesk$Numbers", "judge", "(I)I"⟩, prog_5_method_3_code, 3, (some .int), cd_X3_judge)
def mr_X3_judgeOnProbation : sd_MR := (⟨"StreamDesk$Numbers", "judgeOnProbation", "(I)I"⟩, prog_5_method_4_code, 3, (some .int), cd_X3_judgeOnProbation)
def mr_X3_judgeBelieved : sd_MR := (⟨"StreamDesk$Numbers", "judgeBelieved", "(I)I"⟩, prog_5_method_5_code, 3, (some .int), cd_X3_judgeBelieved)
def mr_X3_longNumber : sd_MR := (⟨"StreamDesk$Numbers", "longNumber", "(I)J"⟩, prog_5_method_6_code, 4, (some .long), cd_X3_longNumber)
def mr_X3_due : sd_MR := (⟨"StreamDesk$Numbers", "due", "()I"⟩, prog_5_method_7_code, 1, (some .int), cd_X3_due)
def mr_X3_lost : sd_MR := (⟨"StreamDesk$Numbers", "lost", "()I"⟩, prog_5_method_8_code, 1, (some .int), cd_X3_lost)
def mr_X3_takeFraction : sd_MR := (⟨"StreamDesk$Numbers", "takeFraction", "()I"⟩, prog_5_method_9_code, 5, (some .int), cd_X3_takeFraction)
def mr_X4_init : sd_MR := (⟨"StreamDesk$Packet", "<init>", "()V"⟩, prog_6_method_1_code, 1, none, cd_X4_init)
def mr_X4_has : sd_MR := (⟨"StreamDesk$Packet", "has", "(I)Z"⟩, prog_6_method_2_code, 2, (some .boolean), cd_X4_has)
def mr_X4_byteAt : sd_MR := (⟨"StreamDesk$Packet", "byteAt", "(I)I"⟩, prog_6_method_3_code, 2, (some .int), cd_X4_byteAt)
def mr_X4_halfAt : sd_MR := (⟨"StreamDesk$Packet", "halfAt", "(I)I"⟩, prog_6_method_4_code, 2, (some .int), cd_X4_halfAt)
def mr_X4_wordAt : sd_MR := (⟨"StreamDesk$Packet", "wordAt", "(I)I"⟩, prog_6_method_5_code, 2, (some .int), cd_X4_wordAt)
def mr_X4_replace : sd_MR := (⟨"StreamDesk$Packet", "replace", "(II)V"⟩, prog_6_method_6_code, 3, none, cd_X4_replace)
def mr_X4_append : sd_MR := (⟨"StreamDesk$Packet", "append", "(JI)V"⟩, prog_6_method_7_code, 5, none, cd_X4_append)
def mr_X5_init : sd_MR := (⟨"StreamDesk$Player", "<init>", "(LStreamDesk$EventLog;I)V"⟩, prog_7_method_1_code, 3, none, cd_X5_init)
def mr_X5_begin : sd_MR := (⟨"StreamDesk$Player", "begin", "(JIII)V"⟩, prog_7_method_2_code, 6, none, cd_X5_begin)
def mr_X5_arrive : sd_MR := (⟨"StreamDesk$Player", "arrive", "(JIIII)V"⟩, prog_7_method_3_code, 7, none, cd_X5_arrive)
def mr_X5_sinceBegin : sd_MR := (⟨"StreamDesk$Player", "sinceBegin", "(II)J"⟩, prog_7_method_4_code, 5, (some .long), cd_X5_sinceBegin)
def mr_X5_hold : sd_MR := (⟨"StreamDesk$Player", "hold", "(JJ)V"⟩, prog_7_method_5_code, 6, none, cd_X5_hold)
def mr_X5_slotOf : sd_MR := (⟨"StreamDesk$Player", "slotOf", "(J)I"⟩, prog_7_method_6_code, 2, (some .int), cd_X5_slotOf)
def mr_X5_waits : sd_MR := (⟨"StreamDesk$Player", "waits", "(J)Z"⟩, prog_7_method_7_code, 3, (some .boolean), cd_X5_waits)
def mr_X5_timeOf : sd_MR := (⟨"StreamDesk$Player", "timeOf", "(J)J"⟩, prog_7_method_8_code, 3, (some .long), cd_X5_timeOf)
def mr_X5_forgetWaiting : sd_MR := (⟨"StreamDesk$Player", "forgetWaiting", "()V"⟩, prog_7_method_9_code, 2, none, cd_X5_forgetWaiting)
def mr_X5_playDue : sd_MR := (⟨"StreamDesk$Player", "playDue", "(I)I"⟩, prog_7_method_10_code, 6, (some .int), cd_X5_playDue)
def mr_X5_gapToDue : sd_MR := (⟨"StreamDesk$Player", "gapToDue", "(I)I"⟩, prog_7_method_11_code, 4, (some .int), cd_X5_gapToDue)
def mr_X5_step : sd_MR := (⟨"StreamDesk$Player", "step", "(II)V"⟩, prog_7_method_12_code, 4, none, cd_X5_step)
def mr_X5_note : sd_MR := (⟨"StreamDesk$Player", "note", "(IJI)V"⟩, prog_7_method_13_code, 5, none, cd_X5_note)
def mr_X5_noted : sd_MR := (⟨"StreamDesk$Player", "noted", "(I)I"⟩, prog_7_method_14_code, 2, (some .int), cd_X5_noted)
def mr_X6_fault : sd_MR := (⟨"StreamDesk$ReportForm", "fault", "(LStreamDesk$Packet;)I"⟩, prog_8_method_2_code, 4, (some .int), cd_X6_fault)
def mr_X6_partFault : sd_MR := (⟨"StreamDesk$ReportForm", "partFault", "(LStreamDesk$Packet;I)I"⟩, prog_8_method_3_code, 4, (some .int), cd_X6_partFault)
def mr_X6_leastLength : sd_MR := (⟨"StreamDesk$ReportForm", "leastLength", "(II)I"⟩, prog_8_method_4_code, 2, (some .int), cd_X6_leastLength)
def mr_X6_sort : sd_MR := (⟨"StreamDesk$ReportForm", "sort", "(LStreamDesk$Packet;I)I"⟩, prog_8_method_5_code, 2, (some .int), cd_X6_sort)
def mr_X6_counted : sd_MR := (⟨"StreamDesk$ReportForm", "counted", "(LStreamDesk$Packet;I)I"⟩, prog_8_method_6_code, 2, (some .int), cd_X6_counted)
def mr_X6_end : sd_MR := (⟨"StreamDesk$ReportForm", "end", "(LStreamDesk$Packet;I)I"⟩, prog_8_method_7_code, 2, (some .int), cd_X6_end)
def mr_X6_isFilled : sd_MR := (⟨"StreamDesk$ReportForm", "isFilled", "(LStreamDesk$Packet;I)Z"⟩, prog_8_method_8_code, 2, (some .boolean), cd_X6_isFilled)
def mr_X7_init : sd_MR := (⟨"StreamDesk$Sender", "<init>", "(IILStreamDesk$Player;)V"⟩, prog_9_method_1_code, 4, none, cd_X7_init)
def mr_X7_receive : sd_MR := (⟨"StreamDesk$Sender", "receive", "(IIIII)Z"⟩, prog_9_method_2_code, 9, (some .boolean), cd_X7_receive)
def mr_X7_keepClock : sd_MR := (⟨"StreamDesk$Sender", "keepClock", "(II)V"⟩, prog_9_method_3_code, 3, none, cd_X7_keepClock)
def mr_X7_leave : sd_MR := (⟨"StreamDesk$Sender", "leave", "(I)V"⟩, prog_9_method_4_code, 2, none, cd_X7_leave)
def mr_X7_field : sd_MR := (⟨"StreamDesk$Sender", "field", "(I)I"⟩, prog_9_method_5_code, 3, (some .int), cd_X7_field)
def mr_X7_writeBlock : sd_MR := (⟨"StreamDesk$Sender", "writeBlock", "(LStreamDesk$Packet;I)V"⟩, prog_9_method_6_code, 3, none, cd_X7_writeBlock)
def mr_X8_init : sd_MR := (⟨"StreamDesk", "<init>", "()V"⟩, prog_1_method_1_code, 1, none, cd_X8_init)
def mr_X8_type : sd_MR := (⟨"StreamDesk", "type", "(JI)I"⟩, prog_1_method_2_code, 4, (some .int), cd_X8_type)
def mr_X8_clear : sd_MR := (⟨"StreamDesk", "clear", "()I"⟩, prog_1_method_3_code, 2, (some .int), cd_X8_clear)
def mr_X8_alter : sd_MR := (⟨"StreamDesk", "alter", "(II)I"⟩, prog_1_method_4_code, 4, (some .int), cd_X8_alter)
def mr_X8_at : sd_MR := (⟨"StreamDesk", "at", "(I)I"⟩, prog_1_method_5_code, 2, (some .int), cd_X8_at)
def mr_X8_rate : sd_MR := (⟨"StreamDesk", "rate", "(II)I"⟩, prog_1_method_6_code, 4, (some .int), cd_X8_rate)
def mr_X8_take : sd_MR := (⟨"StreamDesk", "take", "()I"⟩, prog_1_method_7_code, 4, (some .int), cd_X8_take)
def mr_X8_data : sd_MR := (⟨"StreamDesk", "data", "(I)I"⟩, prog_1_method_8_code, 2, (some .int), cd_X8_data)
def mr_X8_dataFault : sd_MR := (⟨"StreamDesk", "dataFault", "()I"⟩, prog_1_method_9_code, 3, (some .int), cd_X8_dataFault)
def mr_X8_rateOf : sd_MR := (⟨"StreamDesk", "rateOf", "(I)I"⟩, prog_1_method_10_code, 2, (some .int), cd_X8_rateOf)
def mr_X8_senderThatSent : sd_MR := (⟨"StreamDesk", "senderThatSent", "()LStreamDesk$Sender;"⟩, prog_1_method_11_code, 4, (some (.object "StreamDesk$Sender")), cd_X8_senderThatSent)
def mr_X8_senderWith : sd_MR := (⟨"StreamDesk", "senderWith", "(I)LStreamDesk$Sender;"⟩, prog_1_method_12_code, 4, (some (.object "StreamDesk$Sender")), cd_X8_senderWith)
def mr_X8_senderNumbered : sd_MR := (⟨"StreamDesk", "senderNumbered", "(I)LStreamDesk$Sender;"⟩, prog_1_method_13_code, 2, (some (.object "StreamDesk$Sender")), cd_X8_senderNumbered)
def mr_X8_pass : sd_MR := (⟨"StreamDesk", "pass", "(I)I"⟩, prog_1_method_14_code, 5, (some .int), cd_X8_pass)
def mr_X8_delay : sd_MR := (⟨"StreamDesk", "delay", "(I)I"⟩, prog_1_method_15_code, 3, (some .int), cd_X8_delay)
def mr_X8_sender : sd_MR := (⟨"StreamDesk", "sender", "(II)I"⟩, prog_1_method_16_code, 4, (some .int), cd_X8_sender)
def mr_X8_next : sd_MR := (⟨"StreamDesk", "next", "(I)J"⟩, prog_1_method_17_code, 3, (some .long), cd_X8_next)
def mr_X8_time : sd_MR := (⟨"StreamDesk", "time", "(IJ)J"⟩, prog_1_method_18_code, 5, (some .long), cd_X8_time)
def mr_X8_event : sd_MR := (⟨"StreamDesk", "event", "(II)J"⟩, prog_1_method_19_code, 3, (some .long), cd_X8_event)
def mr_X8_report : sd_MR := (⟨"StreamDesk", "report", "(I)I"⟩, prog_1_method_20_code, 5, (some .int), cd_X8_report)
def mr_X8_senderReported : sd_MR := (⟨"StreamDesk", "senderReported", "(I)LStreamDesk$Sender;"⟩, prog_1_method_21_code, 3, (some (.object "StreamDesk$Sender")), cd_X8_senderReported)
def mr_X8_hear : sd_MR := (⟨"StreamDesk", "hear", "()I"⟩, prog_1_method_22_code, 4, (some .int), cd_X8_hear)
def mr_X8_hearPart : sd_MR := (⟨"StreamDesk", "hearPart", "(I)V"⟩, prog_1_method_23_code, 3, none, cd_X8_hearPart)
def mr_X8_hearClock : sd_MR := (⟨"StreamDesk", "hearClock", "(I)V"⟩, prog_1_method_24_code, 3, none, cd_X8_hearClock)
def mr_X8_hearBlocks : sd_MR := (⟨"StreamDesk", "hearBlocks", "(II)V"⟩, prog_1_method_25_code, 6, none, cd_X8_hearBlocks)
def mr_X8_keepBlock : sd_MR := (⟨"StreamDesk", "keepBlock", "(II)V"⟩, prog_1_method_26_code, 3, none, cd_X8_keepBlock)
def mr_X8_hearLeaving : sd_MR := (⟨"StreamDesk", "hearLeaving", "(I)V"⟩, prog_1_method_27_code, 5, none, cd_X8_hearLeaving)
def mr_X8_heard : sd_MR := (⟨"StreamDesk", "heard", "(I)I"⟩, prog_1_method_28_code, 2, (some .int), cd_X8_heard)
def mr_X8_count : sd_MR := (⟨"StreamDesk", "count", "(I)I"⟩, prog_1_method_29_code, 2, (some .int), cd_X8_count)
def mr_X8_digest : sd_MR := (⟨"StreamDesk", "digest", "()J"⟩, prog_1_method_30_code, 5, (some .long), cd_X8_digest)
def mr_X9_init : sd_MR := (⟨"StreamDeskModel", "<init>", "()V"⟩, prog_11_method_1_code, 1, none, cd_X9_init)
def mr_X9_in : sd_MR := (⟨"StreamDeskModel", "in", "(JJJ)Z"⟩, prog_11_method_3_code, 6, (some .boolean), cd_X9_in)
def mr_X9_put : sd_MR := (⟨"StreamDeskModel", "put", "(I)V"⟩, prog_11_method_4_code, 2, none, cd_X9_put)
def mr_X9_putAll : sd_MR := (⟨"StreamDeskModel", "putAll", "(II)V"⟩, prog_11_method_5_code, 4, none, cd_X9_putAll)
def mr_X9_type : sd_MR := (⟨"StreamDeskModel", "type", "(JI)I"⟩, prog_11_method_6_code, 5, (some .int), cd_X9_type)
def mr_X9_clear : sd_MR := (⟨"StreamDeskModel", "clear", "()I"⟩, prog_11_method_7_code, 2, (some .int), cd_X9_clear)
def mr_X9_alter : sd_MR := (⟨"StreamDeskModel", "alter", "(II)I"⟩, prog_11_method_8_code, 4, (some .int), cd_X9_alter)
def mr_X9_at : sd_MR := (⟨"StreamDeskModel", "at", "(I)I"⟩, prog_11_method_9_code, 2, (some .int), cd_X9_at)
def mr_X9_rate : sd_MR := (⟨"StreamDeskModel", "rate", "(II)I"⟩, prog_11_method_10_code, 4, (some .int), cd_X9_rate)
def mr_X9_two : sd_MR := (⟨"StreamDeskModel", "two", "(I)I"⟩, prog_11_method_11_code, 2, (some .int), cd_X9_two)
def mr_X9_four : sd_MR := (⟨"StreamDeskModel", "four", "(I)I"⟩, prog_11_method_12_code, 2, (some .int), cd_X9_four)
def mr_X9_formOf : sd_MR := (⟨"StreamDeskModel", "formOf", "()I"⟩, prog_11_method_13_code, 2, (some .int), cd_X9_formOf)
def mr_X9_faultOf : sd_MR := (⟨"StreamDeskModel", "faultOf", "()I"⟩, prog_11_method_14_code, 2, (some .int), cd_X9_faultOf)
def mr_X9_data : sd_MR := (⟨"StreamDeskModel", "data", "(I)I"⟩, prog_11_method_15_code, 3, (some .int), cd_X9_data)
def mr_X9_senderOf : sd_MR := (⟨"StreamDeskModel", "senderOf", "(I)I"⟩, prog_11_method_16_code, 3, (some .int), cd_X9_senderOf)
def mr_X9_happens : sd_MR := (⟨"StreamDeskModel", "happens", "(IIJ)V"⟩, prog_11_method_17_code, 6, none, cd_X9_happens)
def mr_X9_set : sd_MR := (⟨"StreamDeskModel", "set", "(II)V"⟩, prog_11_method_18_code, 3, none, cd_X9_set)
def mr_X9_comes : sd_MR := (⟨"StreamDeskModel", "comes", "(II)I"⟩, prog_11_method_19_code, 4, (some .int), cd_X9_comes)
def mr_X9_believes : sd_MR := (⟨"StreamDeskModel", "believes", "(II)Z"⟩, prog_11_method_20_code, 4, (some .boolean), cd_X9_believes)
def mr_X9_jitters : sd_MR := (⟨"StreamDeskModel", "jitters", "(III)V"⟩, prog_11_method_21_code, 6, none, cd_X9_jitters)
def mr_X9_forget : sd_MR := (⟨"StreamDeskModel", "forget", "(I)V"⟩, prog_11_method_22_code, 3, none, cd_X9_forget)
def mr_X9_waiting : sd_MR := (⟨"StreamDeskModel", "waiting", "(I)I"⟩, prog_11_method_23_code, 4, (some .int), cd_X9_waiting)
def mr_X9_begins : sd_MR := (⟨"StreamDeskModel", "begins", "(IJI)V"⟩, prog_11_method_24_code, 5, none, cd_X9_begins)
def mr_X9_down : sd_MR := (⟨"StreamDeskModel", "down", "(JJ)J"⟩, prog_11_method_25_code, 6, (some .long), cd_X9_down)
def mr_X9_lays : sd_MR := (⟨"StreamDeskModel", "lays", "(IJII)V"⟩, prog_11_method_26_code, 7, none, cd_X9_lays)
def mr_X9_shift : sd_MR := (⟨"StreamDeskModel", "shift", "(II)V"⟩, prog_11_method_27_code, 5, none, cd_X9_shift)
def mr_X9_plays : sd_MR := (⟨"StreamDeskModel", "plays", "(I)I"⟩, prog_11_method_28_code, 5, (some .int), cd_X9_plays)
def mr_X9_take : sd_MR := (⟨"StreamDeskModel", "take", "()I"⟩, prog_11_method_29_code, 9, (some .int), cd_X9_take)
def mr_X9_pass : sd_MR := (⟨"StreamDeskModel", "pass", "(I)I"⟩, prog_11_method_30_code, 4, (some .int), cd_X9_pass)
def mr_X9_delay : sd_MR := (⟨"StreamDeskModel", "delay", "(I)I"⟩, prog_11_method_31_code, 3, (some .int), cd_X9_delay)
def mr_X9_isSender : sd_MR := (⟨"StreamDeskModel", "isSender", "(I)Z"⟩, prog_11_method_32_code, 2, (some .boolean), cd_X9_isSender)
def mr_X9_dueOf : sd_MR := (⟨"StreamDeskModel", "dueOf", "(I)I"⟩, prog_11_method_33_code, 2, (some .int), cd_X9_dueOf)
def mr_X9_lostOf : sd_MR := (⟨"StreamDeskModel", "lostOf", "(I)I"⟩, prog_11_method_34_code, 3, (some .int), cd_X9_lostOf)
def mr_X9_sender : sd_MR := (⟨"StreamDeskModel", "sender", "(II)I"⟩, prog_11_method_35_code, 3, (some .int), cd_X9_sender)
def mr_X9_next : sd_MR := (⟨"StreamDeskModel", "next", "(I)J"⟩, prog_11_method_36_code, 2, (some .long), cd_X9_next)
def mr_X9_time : sd_MR := (⟨"StreamDeskModel", "time", "(IJ)J"⟩, prog_11_method_37_code, 5, (some .long), cd_X9_time)
def mr_X9_event : sd_MR := (⟨"StreamDeskModel", "event", "(II)J"⟩, prog_11_method_38_code, 3, (some .long), cd_X9_event)
def mr_X9_putBlock : sd_MR := (⟨"StreamDeskModel", "putBlock", "(I)V"⟩, prog_11_method_39_code, 5, none, cd_X9_putBlock)
def mr_X9_report : sd_MR := (⟨"StreamDeskModel", "report", "(I)I"⟩, prog_11_method_40_code, 4, (some .int), cd_X9_report)
def mr_X9_endOf : sd_MR := (⟨"StreamDeskModel", "endOf", "(I)I"⟩, prog_11_method_41_code, 2, (some .int), cd_X9_endOf)
def mr_X9_partFault : sd_MR := (⟨"StreamDeskModel", "partFault", "(I)I"⟩, prog_11_method_42_code, 7, (some .int), cd_X9_partFault)
def mr_X9_reportFault : sd_MR := (⟨"StreamDeskModel", "reportFault", "()I"⟩, prog_11_method_43_code, 3, (some .int), cd_X9_reportFault)
def mr_X9_hearBlocks : sd_MR := (⟨"StreamDeskModel", "hearBlocks", "(III)V"⟩, prog_11_method_44_code, 7, none, cd_X9_hearBlocks)
def mr_X9_hearLeaving : sd_MR := (⟨"StreamDeskModel", "hearLeaving", "(II)V"⟩, prog_11_method_45_code, 5, none, cd_X9_hearLeaving)
def mr_X9_hearPart : sd_MR := (⟨"StreamDeskModel", "hearPart", "(I)V"⟩, prog_11_method_46_code, 5, none, cd_X9_hearPart)
def mr_X9_hear : sd_MR := (⟨"StreamDeskModel", "hear", "()I"⟩, prog_11_method_47_code, 4, (some .int), cd_X9_hear)
def mr_X9_heard : sd_MR := (⟨"StreamDeskModel", "heard", "(I)I"⟩, prog_11_method_48_code, 2, (some .int), cd_X9_heard)
def mr_X9_count : sd_MR := (⟨"StreamDeskModel", "count", "(I)I"⟩, prog_11_method_49_code, 2, (some .int), cd_X9_count)
def mr_X9_digest : sd_MR := (⟨"StreamDeskModel", "digest", "()J"⟩, prog_11_method_50_code, 5, (some .long), cd_X9_digest)
def mr_J9_floorDiv_f86c9 : sd_MR := (⟨"java/lang/Math", "floorDiv", "(JJ)J"⟩, prog_12_method_49_code, 6, (some .long), cd_J9_floorDiv_f86c9)
def mr_J9_floorMod_7cf53 : sd_MR := (⟨"java/lang/Math", "floorMod", "(II)I"⟩, prog_12_method_50_code, 3, (some .int), cd_J9_floorMod_7cf53)
def mr_J9_floorMod_f86c9 : sd_MR := (⟨"java/lang/Math", "floorMod", "(JJ)J"⟩, prog_12_method_52_code, 6, (some .long), cd_J9_floorMod_f86c9)
def mr_J9_abs_0f7a4 : sd_MR := (⟨"java/lang/Math", "abs", "(I)I"⟩, prog_12_method_59_code, 1, (some .int), cd_J9_abs_0f7a4)
def mr_J9_max_7cf53 : sd_MR := (⟨"java/lang/Math", "max", "(II)I"⟩, prog_12_method_65_code, 2, (some .int), cd_J9_max_7cf53)
def mr_J9_min_7cf53 : sd_MR := (⟨"java/lang/Math", "min", "(II)I"⟩, prog_12_method_69_code, 2, (some .int), cd_J9_min_7cf53)
def mr_L_law : sd_MR := (⟨"StreamDeskLaw", "law", "([I)Z"⟩, code, 4, ret, cd_L_law)
abbrev y_X0_shapeFault : Nat := 0
abbrev y_X0_field : Nat := 1
abbrev y_X0_sort : Nat := 2
abbrev y_X0_number : Nat := 3
abbrev y_X0_stamp : Nat := 4
abbrev y_X0_source : Nat := 5
abbrev y_X0_words : Nat := 6
abbrev y_X0_firstHas : Nat := 7
abbrev y_X0_wordsEnd : Nat := 8
abbrev y_X0_payloadPlace : Nat := 9
abbrev y_X0_filling : Nat := 10
abbrev y_X1_init : Nat := 11
abbrev y_X1_add : Nat := 12
abbrev y_X1_keeps : Nat := 13
abbrev y_X1_field : Nat := 14
abbrev y_X2_init : Nat := 15
abbrev y_X2_follow : Nat := 16
abbrev y_X3_init : Nat := 17
abbrev y_X3_setBy : Nat := 18
abbrev y_X3_judge : Nat := 19
abbrev y_X3_judgeOnProbation : Nat := 20
abbrev y_X3_judgeBelieved : Nat := 21
abbrev y_X3_longNumber : Nat := 22
abbrev y_X3_due : Nat := 23
abbrev y_X3_lost : Nat := 24
abbrev y_X3_takeFraction : Nat := 25
abbrev y_X4_init : Nat := 26
abbrev y_X4_has : Nat := 27
abbrev y_X4_byteAt : Nat := 28
abbrev y_X4_halfAt : Nat := 29
abbrev y_X4_wordAt : Nat := 30
abbrev y_X4_replace : Nat := 31
abbrev y_X4_append : Nat := 32
abbrev y_X5_init : Nat := 33
abbrev y_X5_begin : Nat := 34
abbrev y_X5_arrive : Nat := 35
abbrev y_X5_sinceBegin : Nat := 36
abbrev y_X5_hold : Nat := 37
abbrev y_X5_slotOf : Nat := 38
abbrev y_X5_waits : Nat := 39
abbrev y_X5_timeOf : Nat := 40
abbrev y_X5_forgetWaiting : Nat := 41
abbrev y_X5_playDue : Nat := 42
abbrev y_X5_gapToDue : Nat := 43
abbrev y_X5_step : Nat := 44
abbrev y_X5_note : Nat := 45
abbrev y_X5_noted : Nat := 46
abbrev y_X6_fault : Nat := 47
abbrev y_X6_partFault : Nat := 48
abbrev y_X6_leastLength : Nat := 49
abbrev y_X6_sort : Nat := 50
abbrev y_X6_counted : Nat := 51
abbrev y_X6_end : Nat := 52
abbrev y_X6_isFilled : Nat := 53
abbrev y_X7_init : Nat := 54
abbrev y_X7_receive : Nat := 55
abbrev y_X7_keepClock : Nat := 56
abbrev y_X7_leave : Nat := 57
abbrev y_X7_field : Nat := 58
abbrev y_X7_writeBlock : Nat := 59
abbrev y_X8_init : Nat := 60
abbrev y_X8_type : Nat := 61
abbrev y_X8_clear : Nat := 62
abbrev y_X8_alter : Nat := 63
abbrev y_X8_at : Nat := 64
abbrev y_X8_rate : Nat := 65
abbrev y_X8_take : Nat := 66
abbrev y_X8_data : Nat := 67
abbrev y_X8_dataFault : Nat := 68
abbrev y_X8_rateOf : Nat := 69
abbrev y_X8_senderThatSent : Nat := 70
abbrev y_X8_senderWith : Nat := 71
abbrev y_X8_senderNumbered : Nat := 72
abbrev y_X8_pass : Nat := 73
abbrev y_X8_delay : Nat := 74
abbrev y_X8_sender : Nat := 75
abbrev y_X8_next : Nat := 76
abbrev y_X8_time : Nat := 77
abbrev y_X8_event : Nat := 78
abbrev y_X8_report : Nat := 79
abbrev y_X8_senderReported : Nat := 80
abbrev y_X8_hear : Nat := 81
abbrev y_X8_hearPart : Nat := 82
abbrev y_X8_hearClock : Nat := 83
abbrev y_X8_hearBlocks : Nat := 84
abbrev y_X8_keepBlock : Nat := 85
abbrev y_X8_hearLeaving : Nat := 86
abbrev y_X8_heard : Nat := 87
abbrev y_X8_count : Nat := 88
abbrev y_X8_digest : Nat := 89
abbrev y_X9_init : Nat := 90
abbrev y_X9_in : Nat := 91
abbrev y_X9_put : Nat := 92
abbrev y_X9_putAll : Nat := 93
abbrev y_X9_type : Nat := 94
abbrev y_X9_clear : Nat := 95
abbrev y_X9_alter : Nat := 96
abbrev y_X9_at : Nat := 97
abbrev y_X9_rate : Nat := 98
abbrev y_X9_two : Nat := 99
abbrev y_X9_four : Nat := 100
abbrev y_X9_formOf : Nat := 101
abbrev y_X9_faultOf : Nat := 102
abbrev y_X9_data : Nat := 103
abbrev y_X9_senderOf : Nat := 104
abbrev y_X9_happens : Nat := 105
abbrev y_X9_set : Nat := 106
abbrev y_X9_comes : Nat := 107
abbrev y_X9_believes : Nat := 108
abbrev y_X9_jitters : Nat := 109
abbrev y_X9_forget : Nat := 110
abbrev y_X9_waiting : Nat := 111
abbrev y_X9_begins : Nat := 112
abbrev y_X9_down : Nat := 113
abbrev y_X9_lays : Nat := 114
abbrev y_X9_shift : Nat := 115
abbrev y_X9_plays : Nat := 116
abbrev y_X9_take : Nat := 117
abbrev y_X9_pass : Nat := 118
abbrev y_X9_delay : Nat := 119
abbrev y_X9_isSender : Nat := 120
abbrev y_X9_dueOf : Nat := 121
abbrev y_X9_lostOf : Nat := 122
abbrev y_X9_sender : Nat := 123
abbrev y_X9_next : Nat := 124
abbrev y_X9_time : Nat := 125
abbrev y_X9_event : Nat := 126
abbrev y_X9_putBlock : Nat := 127
abbrev y_X9_report : Nat := 128
abbrev y_X9_endOf : Nat := 129
abbrev y_X9_partFault : Nat := 130
abbrev y_X9_reportFault : Nat := 131
abbrev y_X9_hearBlocks : Nat := 132
abbrev y_X9_hearLeaving : Nat := 133
abbrev y_X9_hearPart : Nat := 134
abbrev y_X9_hear : Nat := 135
abbrev y_X9_heard : Nat := 136
abbrev y_X9_count : Nat := 137
abbrev y_X9_digest : Nat := 138
abbrev y_J9_floorDiv_f86c9 : Nat := 139
abbrev y_J9_floorMod_7cf53 : Nat := 140
abbrev y_J9_floorMod_f86c9 : Nat := 141
abbrev y_J9_abs_0f7a4 : Nat := 142
abbrev y_J9_max_7cf53 : Nat := 143
abbrev y_J9_min_7cf53 : Nat := 144
abbrev y_L_law : Nat := 145
def sd_ms : List sd_MR := [mr_X0_shapeFault, mr_X0_field, mr_X0_sort, mr_X0_number, mr_X0_stamp, mr_X0_source, mr_X0_words, mr_X0_firstHas, mr_X0_wordsEnd, mr_X0_payloadPlace, mr_X0_filling, mr_X1_init, mr_X1_add, mr_X1_keeps, mr_X1_field, mr_X2_init, mr_X2_follow, mr_X3_init, mr_X3_setBy, mr_X3_judge, mr_X3_judgeOnProbation, mr_X3_judgeBelieved, mr_X3_longNumber, mr_X3_due, mr_X3_lost, mr_X3_takeFraction, mr_X4_init, mr_X4_has, mr_X4_byteAt, mr_X4_halfAt, mr_X4_wordAt, mr_X4_replace, mr_X4_append, mr_X5_init, mr_X5_begin, mr_X5_arrive, mr_X5_sinceBegin, mr_X5_hold, mr_X5_slotOf, mr_X5_waits, mr_X5_timeOf, mr_X5_forgetWaiting, mr_X5_playDue, mr_X5_gapToDue, mr_X5_step, mr_X5_note, mr_X5_noted, mr_X6_fault, mr_X6_partFault, mr_X6_leastLength, mr_X6_sort, mr_X6_counted, mr_X6_end, mr_X6_isFilled, mr_X7_init, mr_X7_receive, mr_X7_keepClock, mr_X7_leave, mr_X7_field, mr_X7_writeBlock, mr_X8_init, mr_X8_type, mr_X8_clear, mr_X8_alter, mr_X8_at, mr_X8_rate, mr_X8_take, mr_X8_data, mr_X8_dataFault, mr_X8_rateOf, mr_X8_senderThatSent, mr_X8_senderWith, mr_X8_senderNumbered, mr_X8_pass, mr_X8_delay, mr_X8_sender, mr_X8_next, mr_X8_time, mr_X8_event, mr_X8_report, mr_X8_senderReported, mr_X8_hear, mr_X8_hearPart, mr_X8_hearClock, mr_X8_hearBlocks, mr_X8_keepBlock, mr_X8_hearLeaving, mr_X8_heard, mr_X8_count, mr_X8_digest, mr_X9_init, mr_X9_in, mr_X9_put, mr_X9_putAll, mr_X9_type, mr_X9_clear, mr_X9_alter, mr_X9_at, mr_X9_rate, mr_X9_two, mr_X9_four, mr_X9_formOf, mr_X9_faultOf, mr_X9_data, mr_X9_senderOf, mr_X9_happens, mr_X9_set, mr_X9_comes, mr_X9_believes, mr_X9_jitters, mr_X9_forget, mr_X9_waiting, mr_X9_begins, mr_X9_down, mr_X9_lays, mr_X9_shift, mr_X9_plays, mr_X9_take, mr_X9_pass, mr_X9_delay, mr_X9_isSender, mr_X9_dueOf, mr_X9_lostOf, mr_X9_sender, mr_X9_next, mr_X9_time, mr_X9_event, mr_X9_putBlock, mr_X9_report, mr_X9_endOf, mr_X9_partFault, mr_X9_reportFault, mr_X9_hearBlocks, mr_X9_hearLeaving, mr_X9_hearPart, mr_X9_hear, mr_X9_heard, mr_X9_count, mr_X9_digest, mr_J9_floorDiv_f86c9, mr_J9_floorMod_7cf53, mr_J9_floorMod_f86c9, mr_J9_abs_0f7a4, mr_J9_max_7cf53, mr_J9_min_7cf53, mr_L_law]
/-- of each method: depth of calls, cells, slots, parameters with this; then places of its words: code, static or instanceMethod, selects, initialized (0: none) -/
def sd_mn : List (Nat × Nat × Nat × Nat × Bool × Nat × Nat × Nat × Nat) := [(4, 0, 0, 1, true, 197, 196, 0, 51), (4, 0, 0, 2, true, 480, 479, 0, 51), (1, 0, 0, 1, true, 221, 220, 0, 51), (2, 0, 0, 1, true, 286, 285, 0, 51), (3, 0, 0, 1, true, 383, 382, 0, 51), (3, 0, 0, 1, true, 228, 227, 0, 51), (1, 0, 0, 1, true, 204, 203, 0, 51), (1, 0, 0, 2, true, 210, 209, 0, 51), (2, 0, 0, 1, true, 201, 200, 0, 51), (3, 0, 0, 1, true, 207, 206, 0, 51), (2, 0, 0, 1, true, 218, 217, 0, 51), (1, 4, 256, 1, false, 87, 86, 0, 49), (1, 0, 0, 5, false, 430, 428, 429, 49), (0, 0, 0, 2, false, 548, 546, 547, 49), (1, 0, 0, 3, false, 552, 550, 551, 49), (1, 0, 0, 1, false, 295, 294, 0, 54), (1, 0, 0, 2, false, 406, 404, 405, 54), (1, 0, 0, 2, false, 312, 311, 0, 55), (0, 0, 0, 2, false, 317, 316, 5, 55), (2, 0, 0, 2, false, 391, 389, 390, 55), (1, 0, 0, 2, false, 395, 394, 6, 55), (1, 0, 0, 2, false, 399, 398, 7, 55), (0, 0, 0, 2, false, 413, 411, 412, 55), (0, 0, 0, 1, false, 511, 509, 510, 55), (1, 0, 0, 1, false, 515, 513, 514, 55), (1, 0, 0, 1, false, 571, 569, 570, 55), (1, 1, 300, 1, false, 70, 69, 0, 48), (0, 0, 0, 2, false, 168, 166, 167, 48), (0, 0, 0, 2, false, 172, 170, 171, 48), (1, 0, 0, 2, false, 214, 212, 213, 48), (2, 0, 0, 2, false, 232, 230, 231, 48), (1, 0, 0, 3, false, 176, 174, 175, 48), (0, 0, 0, 3, false, 156, 154, 155, 48), (1, 3, 72, 3, false, 250, 249, 0, 52), (3, 0, 0, 5, false, 418, 416, 417, 52), (4, 0, 0, 6, false, 448, 446, 447, 52), (1, 0, 0, 3, false, 457, 456, 9, 52), (2, 0, 0, 3, false, 437, 436, 8, 52), (1, 0, 0, 1, true, 440, 439, 0, 52), (2, 0, 0, 2, false, 453, 451, 452, 52), (2, 0, 0, 2, false, 539, 537, 538, 52), (0, 0, 0, 1, false, 422, 420, 421, 52), (4, 0, 0, 2, false, 465, 463, 464, 52), (2, 0, 0, 2, false, 469, 468, 10, 52), (3, 0, 0, 3, false, 473, 472, 11, 52), (2, 0, 0, 4, false, 426, 424, 425, 52), (0, 0, 0, 2, false, 507, 505, 506, 52), (4, 0, 0, 1, true, 580, 579, 0, 57), (3, 0, 0, 2, true, 590, 589, 0, 57), (0, 0, 0, 2, true, 600, 599, 0, 57), (1, 0, 0, 2, true, 583, 582, 0, 57), (1, 0, 0, 2, true, 597, 596, 0, 57), (2, 0, 0, 2, true, 593, 592, 0, 57), (1, 0, 0, 2, true, 587, 586, 0, 57), (2, 2, 11, 4, false, 289, 288, 0, 53), (5, 0, 0, 6, false, 387, 385, 386, 53), (0, 0, 0, 3, false, 625, 623, 624, 53), (3, 0, 0, 2, false, 615, 613, 614, 53), (2, 0, 0, 2, false, 503, 501, 502, 53), (2, 0, 0, 3, false, 566, 564, 565, 53), (2, 10, 704, 1, false, 62, 61, 0, 47), (1, 0, 0, 3, false, 152, 150, 151, 47), (0, 0, 0, 1, false, 160, 158, 159, 47), (2, 0, 0, 3, false, 164, 162, 163, 47), (1, 0, 0, 2, false, 181, 179, 180, 47), (0, 0, 0, 3, false, 185, 183, 184, 47), (6, 7, 100, 1, false, 190, 188, 189, 47), (6, 0, 0, 2, false, 477, 475, 476, 47), (5, 0, 0, 1, false, 194, 193, 0, 47), (0, 0, 0, 2, false, 225, 224, 1, 47), (4, 7, 100, 1, false, 245, 244, 4, 47), (1, 0, 0, 2, false, 237, 236, 2, 47), (0, 0, 0, 2, false, 241, 240, 3, 47), (5, 0, 0, 2, false, 488, 486, 487, 47), (0, 0, 0, 2, false, 494, 492, 493, 47), (3, 0, 0, 3, false, 498, 496, 497, 47), (1, 0, 0, 2, false, 529, 527, 528, 47), (3, 0, 0, 3, false, 533, 531, 532, 47), (2, 0, 0, 3, false, 544, 542, 543, 47), (3, 0, 0, 2, false, 557, 555, 556, 47), (1, 0, 0, 2, false, 561, 560, 12, 47), (6, 0, 0, 1, false, 577, 575, 576, 47), (5, 0, 0, 2, false, 604, 603, 13, 47), (3, 0, 0, 2, false, 621, 620, 15, 47), (4, 0, 0, 3, false, 630, 629, 16, 47), (3, 0, 0, 3, false, 634, 633, 17, 47), (4, 0, 0, 2, false, 609, 608, 14, 47), (0, 0, 0, 2, false, 639, 637, 638, 47), (0, 0, 0, 2, false, 643, 641, 642, 47), (4, 0, 0, 1, false, 647, 645, 646, 47), (1, 27, 1231, 1, false, 657, 656, 0, 50), (0, 0, 0, 3, true, 790, 789, 0, 50), (0, 0, 0, 2, false, 794, 793, 18, 50), (1, 0, 0, 3, false, 952, 951, 38, 50), (1, 0, 0, 3, false, 786, 784, 785, 50), (0, 0, 0, 1, false, 798, 796, 797, 50), (1, 0, 0, 3, false, 802, 800, 801, 50), (1, 0, 0, 2, false, 807, 805, 806, 50), (1, 0, 0, 3, false, 811, 809, 810, 50), (0, 0, 0, 2, false, 830, 829, 21, 50), (0, 0, 0, 2, false, 834, 833, 22, 50), (1, 0, 0, 1, false, 826, 825, 20, 50), (2, 0, 0, 1, false, 822, 821, 19, 50), (3, 0, 0, 2, false, 817, 815, 816, 50), (0, 0, 0, 2, false, 838, 837, 23, 50), (0, 0, 0, 4, false, 886, 885, 32, 50), (0, 0, 0, 3, false, 851, 850, 25, 50), (1, 0, 0, 3, false, 847, 846, 24, 50), (1, 0, 0, 3, false, 857, 856, 26, 50), (0, 0, 0, 4, false, 863, 862, 27, 50), (0, 0, 0, 2, false, 882, 881, 31, 50), (0, 0, 0, 2, false, 874, 873, 29, 50), (1, 0, 0, 4, false, 878, 877, 30, 50), (0, 0, 0, 2, true, 889, 888, 0, 50), (2, 0, 0, 5, false, 869, 868, 28, 50), (0, 0, 0, 3, false, 897, 896, 34, 50), (1, 0, 0, 2, false, 893, 892, 33, 50), (3, 0, 0, 1, false, 843, 841, 842, 50), (2, 0, 0, 2, false, 901, 899, 900, 50), (1, 0, 0, 2, false, 907, 905, 906, 50), (1, 0, 0, 2, false, 916, 915, 35, 50), (0, 0, 0, 2, false, 921, 920, 36, 50), (1, 0, 0, 2, false, 925, 924, 37, 50), (2, 0, 0, 3, false, 912, 910, 911, 50), (2, 0, 0, 2, false, 931, 929, 930, 50), (2, 0, 0, 3, false, 935, 933, 934, 50), (1, 0, 0, 3, false, 942, 940, 941, 50), (2, 0, 0, 2, false, 956, 955, 39, 50), (3, 0, 0, 2, false, 948, 946, 947, 50), (1, 0, 0, 2, false, 975, 974, 42, 50), (2, 0, 0, 2, false, 971, 970, 41, 50), (3, 0, 0, 1, false, 965, 964, 40, 50), (1, 0, 0, 4, false, 984, 983, 44, 50), (1, 0, 0, 3, false, 989, 988, 45, 50), (2, 0, 0, 2, false, 980, 979, 43, 50), (4, 0, 0, 1, false, 961, 959, 960, 50), (1, 0, 0, 2, false, 993, 991, 992, 50), (0, 0, 0, 2, false, 998, 996, 997, 50), (3, 0, 0, 1, false, 1002, 1000, 1001, 50), (0, 0, 0, 2, true, 461, 460, 0, 56), (0, 0, 0, 2, true, 433, 432, 0, 56), (0, 0, 0, 2, true, 444, 443, 0, 56), (0, 0, 0, 1, true, 409, 408, 0, 56), (0, 0, 0, 2, true, 524, 523, 0, 56), (0, 0, 0, 2, true, 521, 520, 0, 56), (9, 600000, 7302250, 1, true, 0, 0, 0, 0)]
end
section
/-! values, the typed heap, what the machine's heap has to do with it, and the two judgements: sd_Wq (from a place in a method) and sd_E (a method's contract) -/
abbrev sd_V : Type := Int32 ⊕ Int64 ⊕ (Nat × Option Nat)
/-- ints, longs, references by tag, number and place; how many there are of a tag -/
abbrev sd_H : Type := (Nat → Nat → Nat → Int32) × (Nat → Nat → Nat → Int64) × (Nat → Nat → Nat → Option Nat) × (Nat → Nat)
abbrev sd_A : Type := Nat → Nat → Nat
def sd_rv (ad : sd_A) : sd_V → Value
  | .inl x => .int x
  | .inr (.inl x) => .long x
  | .inr (.inr q) => va_rf (q.2.map (ad q.1))
def sd_ob (T : Nat) : Bool := match sd_nth sd_tg T with
  | some q => q.1
  | none => false
def sd_tn (T : Nat) : Nat := match sd_nth sd_tg T with
  | some q => q.2.1
  | none => 0
def sd_fc (T i : Nat) : Nat := match sd_nth sd_tg T with
  | some (true, _, l) => (sd_nth l i).getD 0
  | some (false, _, c :: _) => c
  | _ => 0
def sd_wn (T i : Nat) : Nat := match sd_nth sd_ow T with
  | some l => (sd_nth l i).getD 0
  | none => 0
def sd_cn (T : Nat) : String := match sd_nth sd_cl T with
  | some q => q.1
  | none => ""
def sd_ft (T : Nat) : u_T := match sd_nth sd_cl T with
  | some q => q.2.1
  | none => fun _ => ("", "", "", false)
def sd_aty (c : Nat) : FieldType := match c with
  | 0 => .int
  | 1 => .long
  | 2 => .boolean
  | t + 3 => .object (sd_cn t)
def sd_fv (ad : sd_A) (h : sd_H) (T k i : Nat) : Value := match sd_fc T i with
  | 0 => .int (h.1 T k i)
  | 1 => .long (h.2.1 T k i)
  | 2 => .int (h.1 T k i)
  | t + 3 => va_rf ((h.2.2.1 T k i).map (ad t))
def sd_pi (h : sd_H) (T k i : Nat) (v : Int32) : sd_H := (fun T' => if T' = T then (fun k' => if k' = k then (fun i' => if i' = i then v else h.1 T k i') else h.1 T k') else h.1 T', h.2)
def sd_pl (h : sd_H) (T k i : Nat) (v : Int64) : sd_H := (h.1, fun T' => if T' = T then (fun k' => if k' = k then (fun i' => if i' = i then v else h.2.1 T k i') else h.2.1 T k') else h.2.1 T', h.2.2)
def sd_pr (h : sd_H) (T k i : Nat) (v : Option Nat) : sd_H := (h.1, h.2.1, fun T' => if T' = T then (fun k' => if k' = k then (fun i' => if i' = i then v else h.2.2.1 T k i') else h.2.2.1 T k') else h.2.2.1 T', h.2.2.2)
def sd_nw (h : sd_H) (T : Nat) : sd_H := (fun T' => if T' = T then (fun k' => if k' = h.2.2.2 T then (fun _ => 0) else h.1 T k') else h.1 T', fun T' => if T' = T then (fun k' => if k' = h.2.2.2 T then (fun _ => 0) else h.2.1 T k') else h.2.1 T', fun T' => if T' = T then (fun k' => if k' = h.2.2.2 T then (fun _ => none) else h.2.2.1 T k') else h.2.2.1 T', fun T' => if T' = T then h.2.2.2 T + 1 else h.2.2.2 T')
def sd_at (D : va_G) (U : State) (ad : sd_A) (h : sd_H) (H : Heap) (T k : Nat) : Prop := match sd_ob T with
  | true => t_OB (ad T k) (D.1 T) (sd_tn T) (D.2 T) H (sd_fv ad h T k)
  | false => ∃ cA : ClassId, H[ad T k]? = some (arrV cA (sd_tn T) (sd_fv ad h T k)) ∧ ArrOfT U cA (sd_aty (sd_fc T 0)) ∧ va_RA U cA (sd_aty (sd_fc T 0))
def sd_S (D : va_G) (base : Nat) (ad : sd_A) (h : sd_H) (U : State) (H : Heap) : Prop :=
  va_K D sd_cl [] U ∧ base ≤ H.size ∧
  (∀ T k : Nat, T < sd_nT → k < h.2.2.2 T → sd_at D U ad h H T k ∧ base ≤ ad T k ∧ ad T k < H.size) ∧
  (∀ T k T' k' : Nat, T < sd_nT → k < h.2.2.2 T → T' < sd_nT → k' < h.2.2.2 T' → ad T k = ad T' k' → T = T' ∧ k = k') ∧
  (∀ T k i t : Nat, T < sd_nT → k < h.2.2.2 T → sd_fc T i = t + 3 → ∀ o : Nat, h.2.2.1 T k i = some o → t < sd_nT ∧ o < h.2.2.2 t)
/-- a value that the heap knows; the script has the tag sd_nT -/
def sd_ok (h : sd_H) (v : sd_V) : Prop := ∀ (t k : Nat), v = .inr (.inr (t, some k)) → (t < sd_nT ∧ k < h.2.2.2 t) ∨ (t = sd_nT ∧ k = 0)
def sd_ext (h : sd_H) (ad : sd_A) (h' : sd_H) (ad' : sd_A) : Prop := (∀ T k : Nat, ((T < sd_nT ∧ k < h.2.2.2 T) ∨ (T = sd_nT ∧ k = 0)) → ad' T k = ad T k) ∧ ∀ T : Nat, h.2.2.2 T ≤ h'.2.2.2 T
/-- the references that constructors set once for all -/
def sd_OK (h : sd_H) : Prop := ∀ T k i : Nat, T < 8 → k < h.2.2.2 T → (sd_wn T i = 1 → h.2.2.1 T k i = some k) ∧ (sd_wn T i = 2 → h.2.2.1 T k i = some 0)
-- methods
def sd_mr (y : Nat) : sd_MR := (sd_nth sd_ms y).getD mr_L_law
def sd_nm (y : Nat) : MethodName := (sd_mr y).1
def sd_by (y : Nat) : ByteArray := (sd_mr y).2.1
def sd_ml (y : Nat) : Nat := (sd_mr y).2.2.1
def sd_rt (y : Nat) : Option FieldType := (sd_mr y).2.2.2.1
def sd_cd (y : Nat) : List (List sd_I) := (sd_mr y).2.2.2.2
def sd_mx (y : Nat) : Nat × Nat × Nat × Nat × Bool × Nat × Nat × Nat × Nat := (sd_nth sd_mn y).getD (0, 0, 0, 0, false, 0, 0, 0, 0)
def sd_dp (y : Nat) : Nat := (sd_mx y).1
def sd_mc (y : Nat) : Nat := (sd_mx y).2.1
def sd_mz (y : Nat) : Nat := (sd_mx y).2.2.1
def sd_ws (y : Nat) : List Cond := Cond.code (sd_nm y) (sd_by y) (sd_ml y) (sd_rt y) :: lw_tbl
def sd_rm (y : Nat) : Room := { frames := sd_dp y, cells := sd_mc y, slots := sd_mz y, locals := 39 * sd_dp y }
def sd_C (p : Program) (s : State) (m : MethodId) (args : Array Value) (meth : Method) (c : Code) (R : Room) (y : Nat) : Prop :=
  p.tables.exec = Jvm.exec ∧ c.code = sd_by y ∧ c.maxLocals = sd_ml y ∧ s.vm.findClass (sd_nm y).cls = some m.cls ∧ (∀ w ∈ lw_tbl, w.before args s = true) ∧ meth.locks = false ∧ meth.sig.returnType = sd_rt y ∧ meth.name = (sd_nm y).name ∧
  sd_dp y ≤ R.frames ∧ 39 * sd_dp y ≤ R.locals ∧ sd_mc y ≤ R.cells ∧ sd_mz y ≤ R.slots
def sd_al (ad : sd_A) : Nat → List (Option sd_V) → List (Nat × Value)
  | _, [] => []
  | i, none :: t => sd_al ad (i + 1) t
  | i, some v :: t => (i, sd_rv ad v) :: sd_al ad (i + 1) t
def sd_rk (y pc : Nat) (r : Option sd_V) : Prop := match r with
  | none => decode (sd_by y) pc = .ok (.return_, 1) ∧ sd_rt y = none
  | some (.inl x) => decode (sd_by y) pc = .ok (.ireturn, 1) ∧ (sd_rt y = some .int ∨ (sd_rt y = some .boolean ∧ (x = 0 ∨ x = 1)))
  | some (.inr (.inl _)) => decode (sd_by y) pc = .ok (.lreturn, 1) ∧ sd_rt y = some .long
  | some (.inr (.inr _)) => decode (sd_by y) pc = .ok (.areturn, 1) ∧ ∃ n, sd_rt y = some (.object n)
def sd_rs (ad : sd_A) (r : Option sd_V) : List Value := match r with
  | none => []
  | some v => [sd_rv ad v]
def sd_RT (l : Launch) (y : Nat) (rm : Bool) (Q : Option sd_V → sd_H → Prop) (p : Program) (e : Env) (R : Room) (s : State) (m : MethodId) (args : Array Value) (below : List Frame) (meth : Method) (c : Code) (D : va_G) (base : Nat) (Z : State → Prop) (h : sd_H) (ad : sd_A) : Prop :=
  ∀ (r : Option sd_V) (h' : sd_H) (ad' : sd_A) (H' : Heap) (locs' : List Loc) (cs' ss' pc' : Nat) (lsA' : Array Slot), Q r h' → (rm = true → sd_OK h') → sd_ext h ad h' ad' → sd_S D base ad' h' s H' → va_S (fun q => base ≤ q) s.heap H' locs' →
    cs' ≤ sd_mc y → ss' ≤ sd_mz y → (∀ v, r = some v → sd_ok h' v) → sd_rk y pc' r → W p l e R s m args below meth c H' locs' cs' ss' Z (F0 m pc' lsA' (sd_rs ad' r))
def sd_Wq (l : Launch) (sc : Option (Nat × (Nat → Int32))) (y : Nat) (rm : Bool) (Q : Option sd_V → sd_H → Prop) (pc : Nat) (ls : List (Option sd_V)) (st : List sd_V) (h : sd_H) (cs ss : Nat) : Prop :=
  ∀ (p : Program) (e : Env) (s : State) (m : MethodId) (args : Array Value) (below : List Frame) (meth : Method) (c : Code) (R : Room) (D : va_G) (base : Nat) (ad : sd_A) (H : Heap) (locs : List Loc) (lsA : Array Slot) (Z : State → Prop),
    sd_C p s m args meth c R y → base ≤ s.heap.size → sd_S D base ad h s H → va_S (fun q => base ≤ q) s.heap H locs → lv_has lsA (sd_ml y) (sd_al ad 0 ls) → (∀ v ∈ st, sd_ok h v) → (∀ v, some v ∈ ls → sd_ok h v) → (rm = true → sd_OK h) →
    (∀ (L : Nat) (xs : Nat → Int32), sc = some (L, xs) → va_X (ad sd_nT 0) L xs s s.heap ∧ ad sd_nT 0 < base) → sd_RT l y rm Q p e R s m args below meth c D base Z h ad → cs ≤ sd_mc y ∧ ss ≤ sd_mz y →
    W p l e R s m args below meth c H locs cs ss Z (F0 m pc lsA (st.map (sd_rv ad)))
def sd_Pc (D : va_G) (base : Nat) (ad : sd_A) (h : sd_H) (as : List sd_V) : Array Value → State → Prop := fun a U => a = (as.map (sd_rv ad)).toArray ∧ base ≤ U.heap.size ∧ sd_S D base ad h U U.heap
def sd_Qc (D : va_G) (base : Nat) (ad : sd_A) (h : sd_H) (Q : Option sd_V → sd_H → Prop) : Array Value → State → Outcome → State → Prop := fun _ st o t =>
  ∃ (r : Option sd_V) (h' : sd_H) (ad' : sd_A), o = .returned (r.map (sd_rv ad')) ∧ Q r h' ∧ sd_ext h ad h' ad' ∧ sd_S D base ad' h' t t.heap ∧ (∀ v, r = some v → sd_ok h' v) ∧ va_F (fun q => base ≤ q) st t
def sd_E (l : Launch) (y : Nat) (as : List sd_V) (h : sd_H) (Q : Option sd_V → sd_H → Prop) : Prop :=
  (∀ v ∈ as, sd_ok h v) → ∀ (D : va_G) (base : Nat) (ad : sd_A), Met l (sd_nm y) (sd_ws y) (sd_rm y) (sd_Pc D base ad h as) (sd_Qc D base ad h Q) (sd_mc y) (sd_mz y) (fun q => base ≤ q)
def sd_E1 (l : Launch) (y : Nat) (as : List sd_V) (h : sd_H) (Q : Option sd_V → sd_H → Prop) : Prop := sd_OK h → sd_E l y as h (fun r h' => sd_OK h' ∧ Q r h')
-- an instruction of a method, and its check against the class file and the tables' words
def sd_fd : List sd_I → Nat → Option sd_I
  | [], _ => none
  | e :: t, pc => cond (Nat.beq e.1 pc) (some e) (sd_fd t pc)
def sd_fe (cd : List (List sd_I)) (pc : Nat) : Option sd_I := match sd_nth cd (pc / 16) with
  | some l => sd_fd l pc
  | none => none
def sd_wd (w : Nat) : Option Cond := lw_tbl[w]?
def sd_fld (own : String) (ix a1 a2 a3 w : Nat) : Bool :=
  decide (a1 < 8) && decide (a2 < sd_tn a1) && decide (sd_fc a1 a2 = a3) && decide (sd_wd w = some (.fieldLink own ix (sd_cn a1) ((sd_ft a1) a2).2.1 ((sd_ft a1) a2).2.2.1))
def sd_ck (own nm : String) (bytes : ByteArray) (ml dp : Nat) (q : sd_I) : Bool := match q with
  | (pc, i, nx, a1, a2, a3, a4, w, c, d, ts) => match i with
    | .iconst k => decide (decode bytes pc = .ok (.iconst k, 1)) && decide (nx = pc + 1) && decide (Int32.ofInt k = c)
    | .bipush k => decide (decode bytes pc = .ok (.bipush k, 2)) && decide (nx = pc + 2) && decide ((Int8.ofInt k).toInt32 = c)
    | .sipush k => decide (decode bytes pc = .ok (.sipush k, 3)) && decide (nx = pc + 3) && decide ((Int16.ofInt k).toInt32 = c)
    | .lconst k => decide (decode bytes pc = .ok (.lconst k, 1)) && decide (nx = pc + 1) && decide (Int64.ofNat (k : Nat) = d)
    | .ldc k => decide (decode bytes pc = .ok (.ldc k, 2)) && decide (nx = pc + 2) && decide (sd_wd w = some (.constant own k c))
    | .ldc_w k => decide (decode bytes pc = .ok (.ldc_w k, 3)) && decide (nx = pc + 3) && decide (sd_wd w = some (.constant own k c))
    | .ldc2_w k => decide (decode bytes pc = .ok (.ldc2_w k, 3)) && decide (nx = pc + 3) && decide (sd_wd w = some (.constantLong own k d))
    | .iload_n k => decide (decode bytes pc = .ok (.iload_n k, 1)) && decide (nx = pc + 1) && decide ((k : Nat) = a1)
    | .lload_n k => decide (decode bytes pc = .ok (.lload_n k, 1)) && decide (nx = pc + 1) && decide ((k : Nat) = a1)
    | .aload_n k => decide (decode bytes pc = .ok (.aload_n k, 1)) && decide (nx = pc + 1) && decide ((k : Nat) = a1)
    | .iload k => decide (decode bytes pc = .ok (.iload k, 2)) && decide (nx = pc + 2) && decide (k = a1)
    | .lload k => decide (decode bytes pc = .ok (.lload k, 2)) && decide (nx = pc + 2) && decide (k = a1)
    | .aload k => decide (decode bytes pc = .ok (.aload k, 2)) && decide (nx = pc + 2) && decide (k = a1)
    | .istore_n k => decide (decode bytes pc = .ok (.istore_n k, 1)) && decide (nx = pc + 1) && decide ((k : Nat) = a1 ∧ a1 < ml)
    | .lstore_n k => decide (decode bytes pc = .ok (.lstore_n k, 1)) && decide (nx = pc + 1) && decide ((k : Nat) = a1 ∧ a1 + 1 < ml)
    | .astore_n k => decide (decode bytes pc = .ok (.astore_n k, 1)) && decide (nx = pc + 1) && decide ((k : Nat) = a1 ∧ a1 < ml)
    | .istore k => decide (decode bytes pc = .ok (.istore k, 2)) && decide (nx = pc + 2) && decide (k = a1 ∧ a1 < ml)
    | .lstore k => decide (decode bytes pc = .ok (.lstore k, 2)) && decide (nx = pc + 2) && decide (k = a1 ∧ a1 + 1 < ml)
    | .astore k => decide (decode bytes pc = .ok (.astore k, 2)) && decide (nx = pc + 2) && decide (k = a1 ∧ a1 < ml)
    | .iinc k n => decide (decode bytes pc = .ok (.iinc k n, 3)) && decide (nx = pc + 3) && decide (k = a1 ∧ a1 < ml ∧ Int32.ofInt n = c)
    | .goto o => decide (decode bytes pc = .ok (.goto o, 3)) && decide (nx = pc + 3) && decide ((pc : Int) + o = (a1 : Int))
    | .ifnull o => decide (decode bytes pc = .ok (.ifnull o, 3)) && decide (nx = pc + 3) && decide ((pc : Int) + o = (a1 : Int))
    | .ifnonnull o => decide (decode bytes pc = .ok (.ifnonnull o, 3)) && decide (nx = pc + 3) && decide ((pc : Int) + o = (a1 : Int))
    | .ifCond k o => decide (decode bytes pc = .ok (.ifCond k o, 3)) && decide (nx = pc + 3) && decide ((pc : Int) + o = (a1 : Int))
    | .if_icmp k o => decide (decode bytes pc = .ok (.if_icmp k o, 3)) && decide (nx = pc + 3) && decide ((pc : Int) + o = (a1 : Int))
    | .tableswitch df lo hi of => decide (decode bytes pc = .ok (.tableswitch df lo hi of, nx - pc)) && decide ((pc : Int) + df = (a1 : Int) ∧ lo = c.toInt ∧ hi = lo + (ts.length : Int) - 1 ∧ 0 ≤ lo ∧ hi < 1000 ∧ of.toList.map (fun o => (pc : Int) + o) = ts.map (fun t : Nat => (t : Int)))
    | .getfield k => decide (decode bytes pc = .ok (.getfield k, 3)) && decide (nx = pc + 3) && sd_fld own k a1 a2 a3 w && decide (a4 = sd_wn a1 a2)
    | .putfield k => decide (decode bytes pc = .ok (.putfield k, 3)) && decide (nx = pc + 3) && sd_fld own k a1 a2 a3 w && decide ((a4 = 0 ∧ ((sd_ft a1) a2).2.2.2 = false) ∨ (a4 = 1 ∧ ((sd_ft a1) a2).2.2.2 = true ∧ nm = "<init>" ∧ ((sd_ft a1) a2).1 = own))
    | .new k => decide (decode bytes pc = .ok (.new k, 3)) && decide (nx = pc + 3) && decide (a1 < 8 ∧ a2 = sd_tn a1) && decide (sd_wd w = some (.classLink own k (sd_cn a1)) ∧ sd_wd a3 = some (.instantiable (sd_cn a1) a2) ∧ sd_wd a4 = some (.initialized (sd_cn a1)))
    | .newarray k => decide (decode bytes pc = .ok (.newarray k, 2)) && decide (nx = pc + 2) && decide (8 ≤ a1 ∧ a1 < sd_nT ∧ a2 = sd_tn a1 ∧ a2 < 1000 ∧ sd_fc a1 0 < 3) && decide (sd_aty (sd_fc a1 0) = newarray.typeOf k ∧ sd_wd w = some (.arrayClass (newarray.typeOf k)))
    | .anewarray k => decide (decode bytes pc = .ok (.anewarray k, 3)) && decide (nx = pc + 3) && decide (8 ≤ a1 ∧ a1 < sd_nT ∧ a2 = sd_tn a1 ∧ a2 < 1000 ∧ 3 ≤ sd_fc a1 0) && decide (sd_wd w = some (.classLink own k (sd_cn (sd_fc a1 0 - 3))) ∧ sd_wd a3 = some (.arrayOver (.object (sd_cn (sd_fc a1 0 - 3)))))
    | .invokevirtual k => decide (decode bytes pc = .ok (.invokevirtual k, 3)) && decide (nx = pc + 3) && decide (a4 = 0 ∧ a1 < 145 ∧ sd_wd w = some (.methodLink own k (sd_nm a1))) && decide (sd_dp a1 + 1 ≤ dp ∧ ts = [sd_mc a1, sd_mz a1] ∧ a2 = (sd_mx a1).2.2.2.1 ∧ (sd_mx a1).2.2.2.2.1 = false ∧ (sd_nm a1).name ≠ "<init>")
    | .invokestatic k => decide (decode bytes pc = .ok (.invokestatic k, 3)) && decide (nx = pc + 3) && decide (a4 = 1 ∧ a1 < 145 ∧ sd_wd w = some (.methodLink own k (sd_nm a1))) && decide (sd_dp a1 + 1 ≤ dp ∧ ts = [sd_mc a1, sd_mz a1] ∧ a2 = (sd_mx a1).2.2.2.1 ∧ (sd_mx a1).2.2.2.2.1 = true)
    | .invokespecial k => decide (decode bytes pc = .ok (.invokespecial k, 3)) && decide (nx = pc + 3) && decide ((a4 = 3 ∧ sd_wd w = some (.methodLink own k Lib.objectInit) ∧ 1 ≤ dp) ∨
        ((a4 = 2 ∧ sd_wd w = some (.methodLink own k (sd_nm a1)) ∨ a4 = 4 ∧ sd_wd w = some (.methodLinkNest own k (sd_nm a1) "StreamDesk")) ∧ a1 < 145 ∧ sd_dp a1 + 1 ≤ dp ∧ ts = [sd_mc a1, sd_mz a1] ∧ a2 = (sd_mx a1).2.2.2.1 ∧ (sd_mx a1).2.2.2.2.1 = false ∧ (sd_nm a1).name = "<init>" ∧ sd_rt a1 = none))
    | i => decide (decode bytes pc = .ok (i, 1)) && decide (nx = pc + 1)
/-- all instructions of a method are as the class file has them -/
def sd_cb (m : sd_MR) (dp : Nat) : Bool := match m with
  | (nm, bytes, ml, _, cd) => cd.all fun l => l.all fun q => sd_ck nm.cls nm.name bytes ml dp q
def sd_ca (y : Nat) : Bool := sd_cb (sd_mr y) (sd_dp y)
/-- a method's own words -/
def sd_cq (m : sd_MR) (x : Nat × Nat × Nat × Nat × Bool × Nat × Nat × Nat × Nat) : Bool := match m, x with
  | (nm, bytes, ml, rt, _), (_, _, _, np, stt, ic, im, is, ii) => decide (sd_wd ic = some (.code nm bytes ml rt)) && decide (sd_wd im = some (if stt = true then .static nm else .instanceMethod nm)) && (stt || decide (nm.name = "<init>") || decide (sd_wd is = some (.selects nm.cls nm nm))) && decide (sd_wd ii = some (.initialized nm.cls)) &&
    decide (nm.cls ≠ "java/lang/invoke/MethodHandle" ∧ nm.cls ≠ "java/lang/invoke/VarHandle") && decide ((parseMethodDescriptor nm.desc).map (fun d => d.parameters.length) = some (np - if stt = true then 0 else 1)) && decide (ml ≤ 20) && plainFor nm && (stt || decide (1 ≤ np))
def sd_cm (y : Nat) : Bool := sd_cq (sd_mr y) (sd_mx y)
end
section
theorem sd_ca_0 : sd_ca 0 = true := by decide +kernel
theorem sd_ca_1 : sd_ca 1 = true := by decide +kernel
theorem sd_ca_2 : sd_ca 2 = true := by decide +kernel
theorem sd_ca_3 : sd_ca 3 = true := by decide +kernel
theorem sd_ca_4 : sd_ca 4 = true := by decide +kernel
theorem sd_ca_5 : sd_ca 5 = true := by decide +kernel
theorem sd_ca_6 : sd_ca 6 = true := by decide +kernel
theorem sd_ca_7 : sd_ca 7 = true := by decide +kernel
theorem sd_ca_8 : sd_ca 8 = true := by decide +kernel
theorem sd_ca_9 : sd_ca 9 = true := by decide +kernel
theorem sd_ca_10 : sd_ca 10 = true := by decide +kernel
theorem sd_ca_11 : sd_ca 11 = true := by decide +kernel
theorem sd_ca_12 : sd_ca 12 = true := by decide +kernel
theorem sd_ca_13 : sd_ca 13 = true := by decide +kernel
theorem sd_ca_14 : sd_ca 14 = true := by decide +kernel
theorem sd_ca_15 : sd_ca 15 = true := by decide +kernel
theorem sd_ca_16 : sd_ca 16 = true := by decide +kernel
theorem sd_ca_17 : sd_ca 17 = true := by decide +kernel
theorem sd_ca_18 : sd_ca 18 = true := by decide +kernel
theorem sd_ca_19 : sd_ca 19 = true := by decide +kernel
theorem sd_ca_20 : sd_ca 20 = true := by decide +kernel
theorem sd_ca_21 : sd_ca 21 = true := by decide +kernel
theorem sd_ca_22 : sd_ca 22 = true := by decide +kernel
theorem sd_ca_23 : sd_ca 23 = true := by decide +kernel
theorem sd_ca_24 : sd_ca 24 = true := by decide +kernel
theorem sd_ca_25 : sd_ca 25 = true := by decide +kernel
theorem sd_ca_26 : sd_ca 26 = true := by decide +kernel
theorem sd_ca_27 : sd_ca 27 = true := by decide +kernel
theorem sd_ca_28 : sd_ca 28 = true := by decide +kernel
theorem sd_ca_29 : sd_ca 29 = true := by decide +kernel
theorem sd_ca_30 : sd_ca 30 = true := by decide +kernel
theorem sd_ca_31 : sd_ca 31 = true := by decide +kernel
theorem sd_ca_32 : sd_ca 32 = true := by decide +kernel
theorem sd_ca_33 : sd_ca 33 = true := by decide +kernel
theorem sd_ca_34 : sd_ca 34 = true := by decide +kernel
theorem sd_ca_35 : sd_ca 35 = true := by decide +kernel
theorem sd_ca_36 : sd_ca 36 = true := by decide +kernel
theorem sd_ca_37 : sd_ca 37 = true := by decide +kernel
theorem sd_ca_38 : sd_ca 38 = true := by decide +kernel
theorem sd_ca_39 : sd_ca 39 = true := by decide +kernel
theorem sd_ca_40 : sd_ca 40 = true := by decide +kernel
theorem sd_ca_41 : sd_ca 41 = true := by decide +kernel
theorem sd_ca_42 : sd_ca 42 = true := by decide +kernel
theorem sd_ca_43 : sd_ca 43 = true := by decide +kernel
theorem sd_ca_44 : sd_ca 44 = true := by decide +kernel
theorem sd_ca_45 : sd_ca 45 = true := by decide +kernel
theorem sd_ca_46 : sd_ca 46 = true := by decide +kernel
theorem sd_ca_47 : sd_ca 47 = true := by decide +kernel
theorem sd_ca_48 : sd_ca 48 = true := by decide +kernel
theorem sd_ca_49 : sd_ca 49 = true := by decide +kernel
theorem sd_ca_50 : sd_ca 50 = true := by decide +kernel
theorem sd_ca_51 : sd_ca 51 = true := by decide +kernel
theorem sd_ca_52 : sd_ca 52 = true := by decide +kernel
theorem sd_ca_53 : sd_ca 53 = true := by decide +kernel
theorem sd_ca_54 : sd_ca 54 = true := by decide +kernel
theorem sd_ca_55 : sd_ca 55 = true := by decide +kernel
theorem sd_ca_56 : sd_ca 56 = true := by decide +kernel
theorem sd_ca_57 : sd_ca 57 = true := by decide +kernel
theorem sd_ca_58 : sd_ca 58 = true := by decide +kernel
theorem sd_ca_59 : sd_ca 59 = true := by decide +kernel
theorem sd_ca_60 : sd_ca 60 = true := by decide +kernel
theorem sd_ca_61 : sd_ca 61 = true := by decide +kernel
theorem sd_ca_62 : sd_ca 62 = true := by decide +kernel
theorem sd_ca_63 : sd_ca 63 = true := by decide +kernel
theorem sd_ca_64 : sd_ca 64 = true := by decide +kernel
theorem sd_ca_65 : sd_ca 65 = true := by decide +kernel
theorem sd_ca_66 : sd_ca 66 = true := by decide +kernel
theorem sd_ca_67 : sd_ca 67 = true := by decide +kernel
theorem sd_ca_68 : sd_ca 68 = true := by decide +kernel
theorem sd_ca_69 : sd_ca 69 = true := by decide +kernel
theorem sd_ca_70 : sd_ca 70 = true := by decide +kernel
theorem sd_ca_71 : sd_ca 71 = true := by decide +kernel
theorem sd_ca_72 : sd_ca 72 = true := by decide +kernel
theorem sd_ca_73 : sd_ca 73 = true := by decide +kernel
theorem sd_ca_74 : sd_ca 74 = true := by decide +kernel
theorem sd_ca_75 : sd_ca 75 = true := by decide +kernel
theorem sd_ca_76 : sd_ca 76 = true := by decide +kernel
theorem sd_ca_77 : sd_ca 77 = true := by decide +kernel
theorem sd_ca_78 : sd_ca 78 = true := by decide +kernel
theorem sd_ca_79 : sd_ca 79 = true := by decide +kernel
theorem sd_ca_80 : sd_ca 80 = true := by decide +kernel
theorem sd_ca_81 : sd_ca 81 = true := by decide +kernel
theorem sd_ca_82 : sd_ca 82 = true := by decide +kernel
theorem sd_ca_83 : sd_ca 83 = true := by decide +kernel
theorem sd_ca_84 : sd_ca 84 = true := by decide +kernel
theorem sd_ca_85 : sd_ca 85 = true := by decide +kernel
theorem sd_ca_86 : sd_ca 86 = true := by decide +kernel
theorem sd_ca_87 : sd_ca 87 = true := by decide +kernel
theorem sd_ca_88 : sd_ca 88 = true := by decide +kernel
theorem sd_ca_89 : sd_ca 89 = true := by decide +kernel
theorem sd_ca_90 : sd_ca 90 = true := by decide +kernel
theorem sd_ca_91 : sd_ca 91 = true := by decide +kernel
theorem sd_ca_92 : sd_ca 92 = true := by decide +kernel
theorem sd_ca_93 : sd_ca 93 = true := by decide +kernel
theorem sd_ca_94 : sd_ca 94 = true := by decide +kernel
theorem sd_ca_95 : sd_ca 95 = true := by decide +kernel
theorem sd_ca_96 : sd_ca 96 = true := by decide +kernel
theorem sd_ca_97 : sd_ca 97 = true := by decide +kernel
theorem sd_ca_98 : sd_ca 98 = true := by decide +kernel
theorem sd_ca_99 : sd_ca 99 = true := by decide +kernel
theorem sd_ca_100 : sd_ca 100 = true := by decide +kernel
theorem sd_ca_101 : sd_ca 101 = true := by decide +kernel
theorem sd_ca_102 : sd_ca 102 = true := by decide +kernel
theorem sd_ca_103 : sd_ca 103 = true := by decide +kernel
theorem sd_ca_104 : sd_ca 104 = true := by decide +kernel
theorem sd_ca_105 : sd_ca 105 = true := by decide +kernel
theorem sd_ca_106 : sd_ca 106 = true := by decide +kernel
theorem sd_ca_107 : sd_ca 107 = true := by decide +kernel
theorem sd_ca_108 : sd_ca 108 = true := by decide +kernel
theorem sd_ca_109 : sd_ca 109 = true := by decide +kernel
theorem sd_ca_110 : sd_ca 110 = true := by decide +kernel
theorem sd_ca_111 : sd_ca 111 = true := by decide +kernel
theorem sd_ca_112 : sd_ca 112 = true := by decide +kernel
theorem sd_ca_113 : sd_ca 113 = true := by decide +kernel
theorem sd_ca_114 : sd_ca 114 = true := by decide +kernel
theorem sd_ca_115 : sd_ca 115 = true := by decide +kernel
theorem sd_ca_116 : sd_ca 116 = true := by decide +kernel
theorem sd_ca_117 : sd_ca 117 = true := by decide +kernel
theorem sd_ca_118 : sd_ca 118 = true := by decide +kernel
theorem sd_ca_119 : sd_ca 119 = true := by decide +kernel
theorem sd_ca_120 : sd_ca 120 = true := by decide +kernel
theorem sd_ca_121 : sd_ca 121 = true := by decide +kernel
theorem sd_ca_122 : sd_ca 122 = true := by decide +kernel
theorem sd_ca_123 : sd_ca 123 = true := by decide +kernel
theorem sd_ca_124 : sd_ca 124 = true := by decide +kernel
theorem sd_ca_125 : sd_ca 125 = true := by decide +kernel
theorem sd_ca_126 : sd_ca 126 = true := by decide +kernel
theorem sd_ca_127 : sd_ca 127 = true := by decide +kernel
theorem sd_ca_128 : sd_ca 128 = true := by decide +kernel
theorem sd_ca_129 : sd_ca 129 = true := by decide +kernel
theorem sd_ca_130 : sd_ca 130 = true := by decide +kernel
theorem sd_ca_131 : sd_ca 131 = true := by decide +kernel
theorem sd_ca_132 : sd_ca 132 = true := by decide +kernel
theorem sd_ca_133 : sd_ca 133 = true := by decide +kernel
theorem sd_ca_134 : sd_ca 134 = true := by decide +kernel
theorem sd_ca_135 : sd_ca 135 = true := by decide +kernel
theorem sd_ca_136 : sd_ca 136 = true := by decide +kernel
theorem sd_ca_137 : sd_ca 137 = true := by decide +kernel
theorem sd_ca_138 : sd_ca 138 = true := by decide +kernel
theorem sd_ca_139 : sd_ca 139 = true := by decide +kernel
theorem sd_ca_140 : sd_ca 140 = true := by decide +kernel
theorem sd_ca_141 : sd_ca 141 = true := by decide +kernel
theorem sd_ca_142 : sd_ca 142 = true := by decide +kernel
theorem sd_ca_143 : sd_ca 143 = true := by decide +kernel
theorem sd_ca_144 : sd_ca 144 = true := by decide +kernel
theorem sd_ca_145 : sd_ca 145 = true := by decide +kernel
theorem sd_cm_0 : sd_cm 0 = true := by decide +kernel
theorem sd_cm_1 : sd_cm 1 = true := by decide +kernel
theorem sd_cm_2 : sd_cm 2 = true := by decide +kernel
theorem sd_cm_3 : sd_cm 3 = true := by decide +kernel
theorem sd_cm_4 : sd_cm 4 = true := by decide +kernel
theorem sd_cm_5 : sd_cm 5 = true := by decide +kernel
theorem sd_cm_6 : sd_cm 6 = true := by decide +kernel
theorem sd_cm_7 : sd_cm 7 = true := by decide +kernel
theorem sd_cm_8 : sd_cm 8 = true := by decide +kernel
theorem sd_cm_9 : sd_cm 9 = true := by decide +kernel
theorem sd_cm_10 : sd_cm 10 = true := by decide +kernel
theorem sd_cm_11 : sd_cm 11 = true := by decide +kernel
theorem sd_cm_12 : sd_cm 12 = true := by decide +kernel
theorem sd_cm_13 : sd_cm 13 = true := by decide +kernel
theorem sd_cm_14 : sd_cm 14 = true := by decide +kernel
theorem sd_cm_15 : sd_cm 15 = true := by decide +kernel
theorem sd_cm_16 : sd_cm 16 = true := by decide +kernel
theorem sd_cm_17 : sd_cm 17 = true := by decide +kernel
theorem sd_cm_18 : sd_cm 18 = true := by decide +kernel
theorem sd_cm_19 : sd_cm 19 = true := by decide +kernel
theorem sd_cm_20 : sd_cm 20 = true := by decide +kernel
theorem sd_cm_21 : sd_cm 21 = true := by decide +kernel
theorem sd_cm_22 : sd_cm 22 = true := by decide +kernel
theorem sd_cm_23 : sd_cm 23 = true := by decide +kernel
theorem sd_cm_24 : sd_cm 24 = true := by decide +kernel
theorem sd_cm_25 : sd_cm 25 = true := by decide +kernel
theorem sd_cm_26 : sd_cm 26 = true := by decide +kernel
theorem sd_cm_27 : sd_cm 27 = true := by decide +kernel
theorem sd_cm_28 : sd_cm 28 = true := by decide +kernel
theorem sd_cm_29 : sd_cm 29 = true := by decide +kernel
theorem sd_cm_30 : sd_cm 30 = true := by decide +kernel
theorem sd_cm_31 : sd_cm 31 = true := by decide +kernel
theorem sd_cm_32 : sd_cm 32 = true := by decide +kernel
theorem sd_cm_33 : sd_cm 33 = true := by decide +kernel
theorem sd_cm_34 : sd_cm 34 = true := by decide +kernel
theorem sd_cm_35 : sd_cm 35 = true := by decide +kernel
theorem sd_cm_36 : sd_cm 36 = true := by decide +kernel
theorem sd_cm_37 : sd_cm 37 = true := by decide +kernel
theorem sd_cm_38 : sd_cm 38 = true := by decide +kernel
theorem sd_cm_39 : sd_cm 39 = true := by decide +kernel
theorem sd_cm_40 : sd_cm 40 = true := by decide +kernel
theorem sd_cm_41 : sd_cm 41 = true := by decide +kernel
theorem sd_cm_42 : sd_cm 42 = true := by decide +kernel
theorem sd_cm_43 : sd_cm 43 = true := by decide +kernel
theorem sd_cm_44 : sd_cm 44 = true := by decide +kernel
theorem sd_cm_45 : sd_cm 45 = true := by decide +kernel
theorem sd_cm_46 : sd_cm 46 = true := by decide +kernel
theorem sd_cm_47 : sd_cm 47 = true := by decide +kernel
theorem sd_cm_48 : sd_cm 48 = true := by decide +kernel
theorem sd_cm_49 : sd_cm 49 = true := by decide +kernel
theorem sd_cm_50 : sd_cm 50 = true := by decide +kernel
theorem sd_cm_51 : sd_cm 51 = true := by decide +kernel
theorem sd_cm_52 : sd_cm 52 = true := by decide +kernel
theorem sd_cm_53 : sd_cm 53 = true := by decide +kernel
theorem sd_cm_54 : sd_cm 54 = true := by decide +kernel
theorem sd_cm_55 : sd_cm 55 = true := by decide +kernel
theorem sd_cm_56 : sd_cm 56 = true := by decide +kernel
theorem sd_cm_57 : sd_cm 57 = true := by decide +kernel
theorem sd_cm_58 : sd_cm 58 = true := by decide +kernel
theorem sd_cm_59 : sd_cm 59 = true := by decide +kernel
theorem sd_cm_60 : sd_cm 60 = true := by decide +kernel
theorem sd_cm_61 : sd_cm 61 = true := by decide +kernel
theorem sd_cm_62 : sd_cm 62 = true := by decide +kernel
theorem sd_cm_63 : sd_cm 63 = true := by decide +kernel
theorem sd_cm_64 : sd_cm 64 = true := by decide +kernel
theorem sd_cm_65 : sd_cm 65 = true := by decide +kernel
theorem sd_cm_66 : sd_cm 66 = true := by decide +kernel
theorem sd_cm_67 : sd_cm 67 = true := by decide +kernel
theorem sd_cm_68 : sd_cm 68 = true := by decide +kernel
theorem sd_cm_69 : sd_cm 69 = true := by decide +kernel
theorem sd_cm_70 : sd_cm 70 = true := by decide +kernel
theorem sd_cm_71 : sd_cm 71 = true := by decide +kernel
theorem sd_cm_72 : sd_cm 72 = true := by decide +kernel
theorem sd_cm_73 : sd_cm 73 = true := by decide +kernel
theorem sd_cm_74 : sd_cm 74 = true := by decide +kernel
theorem sd_cm_75 : sd_cm 75 = true := by decide +kernel
theorem sd_cm_76 : sd_cm 76 = true := by decide +kernel
theorem sd_cm_77 : sd_cm 77 = true := by decide +kernel
theorem sd_cm_78 : sd_cm 78 = true := by decide +kernel
theorem sd_cm_79 : sd_cm 79 = true := by decide +kernel
theorem sd_cm_80 : sd_cm 80 = true := by decide +kernel
theorem sd_cm_81 : sd_cm 81 = true := by decide +kernel
theorem sd_cm_82 : sd_cm 82 = true := by decide +kernel
theorem sd_cm_83 : sd_cm 83 = true := by decide +kernel
theorem sd_cm_84 : sd_cm 84 = true := by decide +kernel
theorem sd_cm_85 : sd_cm 85 = true := by decide +kernel
theorem sd_cm_86 : sd_cm 86 = true := by decide +kernel
theorem sd_cm_87 : sd_cm 87 = true := by decide +kernel
theorem sd_cm_88 : sd_cm 88 = true := by decide +kernel
theorem sd_cm_89 : sd_cm 89 = true := by decide +kernel
theorem sd_cm_90 : sd_cm 90 = true := by decide +kernel
theorem sd_cm_91 : sd_cm 91 = true := by decide +kernel
theorem sd_cm_92 : sd_cm 92 = true := by decide +kernel
theorem sd_cm_93 : sd_cm 93 = true := by decide +kernel
theorem sd_cm_94 : sd_cm 94 = true := by decide +kernel
theorem sd_cm_95 : sd_cm 95 = true := by decide +kernel
theorem sd_cm_96 : sd_cm 96 = true := by decide +kernel
theorem sd_cm_97 : sd_cm 97 = true := by decide +kernel
theorem sd_cm_98 : sd_cm 98 = true := by decide +kernel
theorem sd_cm_99 : sd_cm 99 = true := by decide +kernel
theorem sd_cm_100 : sd_cm 100 = true := by decide +kernel
theorem sd_cm_101 : sd_cm 101 = true := by decide +kernel
theorem sd_cm_102 : sd_cm 102 = true := by decide +kernel
theorem sd_cm_103 : sd_cm 103 = true := by decide +kernel
theorem sd_cm_104 : sd_cm 104 = true := by decide +kernel
theorem sd_cm_105 : sd_cm 105 = true := by decide +kernel
theorem sd_cm_106 : sd_cm 106 = true := by decide +kernel
theorem sd_cm_107 : sd_cm 107 = true := by decide +kernel
theorem sd_cm_108 : sd_cm 108 = true := by decide +kernel
theorem sd_cm_109 : sd_cm 109 = true := by decide +kernel
theorem sd_cm_110 : sd_cm 110 = true := by decide +kernel
theorem sd_cm_111 : sd_cm 111 = true := by decide +kernel
theorem sd_cm_112 : sd_cm 112 = true := by decide +kernel
theorem sd_cm_113 : sd_cm 113 = true := by decide +kernel
theorem sd_cm_114 : sd_cm 114 = true := by decide +kernel
theorem sd_cm_115 : sd_cm 115 = true := by decide +kernel
theorem sd_cm_116 : sd_cm 116 = true := by decide +kernel
theorem sd_cm_117 : sd_cm 117 = true := by decide +kernel
theorem sd_cm_118 : sd_cm 118 = true := by decide +kernel
theorem sd_cm_119 : sd_cm 119 = true := by decide +kernel
theorem sd_cm_120 : sd_cm 120 = true := by decide +kernel
theorem sd_cm_121 : sd_cm 121 = true := by decide +kernel
theorem sd_cm_122 : sd_cm 122 = true := by decide +kernel
theorem sd_cm_123 : sd_cm 123 = true := by decide +kernel
theorem sd_cm_124 : sd_cm 124 = true := by decide +kernel
theorem sd_cm_125 : sd_cm 125 = true := by decide +kernel
theorem sd_cm_126 : sd_cm 126 = true := by decide +kernel
theorem sd_cm_127 : sd_cm 127 = true := by decide +kernel
theorem sd_cm_128 : sd_cm 128 = true := by decide +kernel
theorem sd_cm_129 : sd_cm 129 = true := by decide +kernel
theorem sd_cm_130 : sd_cm 130 = true := by decide +kernel
theorem sd_cm_131 : sd_cm 131 = true := by decide +kernel
theorem sd_cm_132 : sd_cm 132 = true := by decide +kernel
theorem sd_cm_133 : sd_cm 133 = true := by decide +kernel
theorem sd_cm_134 : sd_cm 134 = true := by decide +kernel
theorem sd_cm_135 : sd_cm 135 = true := by decide +kernel
theorem sd_cm_136 : sd_cm 136 = true := by decide +kernel
theorem sd_cm_137 : sd_cm 137 = true := by decide +kernel
theorem sd_cm_138 : sd_cm 138 = true := by decide +kernel
theorem sd_cm_139 : sd_cm 139 = true := by decide +kernel
theorem sd_cm_140 : sd_cm 140 = true := by decide +kernel
theorem sd_cm_141 : sd_cm 141 = true := by decide +kernel
theorem sd_cm_142 : sd_cm 142 = true := by decide +kernel
theorem sd_cm_143 : sd_cm 143 = true := by decide +kernel
theorem sd_cm_144 : sd_cm 144 = true := by decide +kernel
end
section
/-! locals and stack, and the instructions that leave the heap as it is -/
theorem sd_oi (h : sd_H) (x : Int32) : sd_ok h (.inl x) := fun t k e => by cases e
theorem sd_olg (h : sd_H) (x : Int64) : sd_ok h (.inr (.inl x)) := fun t k e => by cases e
theorem sd_onl (h : sd_H) (t : Nat) : sd_ok h (.inr (.inr (t, none))) := fun t k e => by cases e
theorem sd_oc {h : sd_H} {v : sd_V} {r : List sd_V} (a : sd_ok h v) (b : ∀ w ∈ r, sd_ok h w) : ∀ w ∈ v :: r, sd_ok h w := List.forall_mem_cons.mpr ⟨a, b⟩
theorem sd_o0 {h : sd_H} {v : sd_V} {r : List sd_V} (a : ∀ w ∈ v :: r, sd_ok h w) : sd_ok h v := (List.forall_mem_cons.mp a).1
theorem sd_o1 {h : sd_H} {v : sd_V} {r : List sd_V} (a : ∀ w ∈ v :: r, sd_ok h w) : ∀ w ∈ r, sd_ok h w := (List.forall_mem_cons.mp a).2
theorem sd_o2 {h : sd_H} {v u : sd_V} {r : List sd_V} (a : ∀ w ∈ v :: u :: r, sd_ok h w) : ∀ w ∈ r, sd_ok h w := sd_o1 (sd_o1 a)
theorem sd_o3 {h : sd_H} {v u x : sd_V} {r : List sd_V} (a : ∀ w ∈ v :: u :: x :: r, sd_ok h w) : ∀ w ∈ r, sd_ok h w := sd_o1 (sd_o2 a)
def sd_g (ls : List (Option sd_V)) (i : Nat) : Option sd_V := match sd_nth ls i with
  | some (some v) => some v
  | _ => none
theorem sd_g_nth {ls : List (Option sd_V)} {i : Nat} {v : sd_V} (h : sd_g ls i = some v) : sd_nth ls i = some (some v) := by
  unfold sd_g at h
  split at h
  next u hu => rw [hu]; cases h; rfl
  next => cases h
theorem sd_nth_mem {α : Type} : ∀ (l : List α) (i : Nat) (a : α), sd_nth l i = some a → a ∈ l
  | [], _, _, h => by cases h
  | b :: t, 0, a, h => by cases h; exact List.mem_cons_self
  | b :: t, i + 1, a, h => List.mem_cons_of_mem _ (sd_nth_mem t i a h)
theorem sd_mem_nth {α : Type} : ∀ (l : List α) (a : α), a ∈ l → ∃ i : Nat, sd_nth l i = some a
  | [], _, h => by cases h
  | b :: t, a, h => by
    rcases List.mem_cons.mp h with h | h
    · exact ⟨0, by rw [h]; rfl⟩
    · obtain ⟨i, hi⟩ := sd_mem_nth t a h
      exact ⟨i + 1, hi⟩
theorem sd_al_mem (ad : sd_A) : ∀ (ls : List (Option sd_V)) (b i : Nat) (v : sd_V), sd_nth ls i = some (some v) → (b + i, sd_rv ad v) ∈ sd_al ad b ls
  | [], _, _, _, h => by cases h
  | none :: t, b, 0, v, h => by cases h
  | some u :: t, b, 0, v, h => by cases h; exact List.mem_cons_self
  | none :: t, b, i + 1, v, h => by
    have := sd_al_mem ad t (b + 1) i v h
    rw [show b + 1 + i = b + (i + 1) by omega] at this
    exact this
  | some u :: t, b, i + 1, v, h => by
    have := sd_al_mem ad t (b + 1) i v h
    rw [show b + 1 + i = b + (i + 1) by omega] at this
    exact List.mem_cons_of_mem _ this
theorem sd_al_inv (ad : sd_A) : ∀ (ls : List (Option sd_V)) (b : Nat) (q : Nat × Value), q ∈ sd_al ad b ls → ∃ (i : Nat) (v : sd_V), q = (b + i, sd_rv ad v) ∧ sd_nth ls i = some (some v)
  | [], _, _, h => by cases h
  | none :: t, b, q, h => by
    obtain ⟨i, v, e, g⟩ := sd_al_inv ad t (b + 1) q h
    exact ⟨i + 1, v, by rw [e, show b + 1 + i = b + (i + 1) by omega], g⟩
  | some u :: t, b, q, h => by
    rcases List.mem_cons.mp h with h | h
    · exact ⟨0, u, h, rfl⟩
    · obtain ⟨i, v, e, g⟩ := sd_al_inv ad t (b + 1) q h
      exact ⟨i + 1, v, by rw [e, show b + 1 + i = b + (i + 1) by omega], g⟩
theorem sd_gl {ad : sd_A} {ls : List (Option sd_V)} {lsA : Array Slot} {n i : Nat} {v : sd_V} (hl : lv_has lsA n (sd_al ad 0 ls)) (hg : sd_g ls i = some v) : lsA[i]? = some (.val (sd_rv ad v)) := by
  have h := hl.2.2 _ (sd_al_mem ad ls 0 i v (sd_g_nth hg))
  simpa using h
def sd_nl (a : Option sd_V) : Option sd_V := match a with
  | some (.inr (.inl _)) => none
  | a => a
def sd_s1 : List (Option sd_V) → Nat → sd_V → List (Option sd_V)
  | [], _, _ => []
  | _ :: t, 0, v => some v :: t
  | a :: t, 1, v => sd_nl a :: sd_s1 t 0 v
  | a :: t, i + 2, v => a :: sd_s1 t (i + 1) v
def sd_s2 : List (Option sd_V) → Nat → sd_V → List (Option sd_V)
  | [], _, _ => []
  | [_], 0, v => [some v]
  | _ :: _ :: t, 0, v => some v :: none :: t
  | a :: t, 1, v => sd_nl a :: sd_s2 t 0 v
  | a :: t, i + 2, v => a :: sd_s2 t (i + 1) v
def sd_lg (v : sd_V) : Prop := ∃ x : Int64, v = .inr (.inl x)
theorem sd_nl_some {a : Option sd_V} {u : sd_V} (h : sd_nl a = some u) : a = some u ∧ ¬ sd_lg u := by
  unfold sd_nl at h
  split at h
  next => cases h
  next a hne => exact ⟨h, fun ⟨x, e⟩ => hne x (by rw [h, e])⟩
theorem sd_s1_nth : ∀ (ls : List (Option sd_V)) (i : Nat) (v : sd_V) (j : Nat) (u : sd_V), sd_nth (sd_s1 ls i v) j = some (some u) → (j = i ∧ u = v) ∨ (j ≠ i ∧ sd_nth ls j = some (some u) ∧ ¬ (j + 1 = i ∧ sd_lg u))
  | [], _, _, _, _, h => by cases h
  | _ :: t, 0, v, 0, u, h => by cases h; exact Or.inl ⟨rfl, rfl⟩
  | _ :: t, 0, v, j + 1, u, h => Or.inr ⟨by omega, h, by omega⟩
  | a :: t, 1, v, 0, u, h => by
    obtain ⟨e, n⟩ := sd_nl_some (Option.some.inj h)
    exact Or.inr ⟨by omega, by show some a = _; rw [e], fun q => n q.2⟩
  | a :: t, 1, v, j + 1, u, h => by
    rcases sd_s1_nth t 0 v j u h with ⟨e1, e2⟩ | ⟨e1, e2, e3⟩
    · exact Or.inl ⟨by omega, e2⟩
    · exact Or.inr ⟨by omega, e2, fun q => by omega⟩
  | a :: t, i + 2, v, 0, u, h => Or.inr ⟨by omega, h, fun q => by omega⟩
  | a :: t, i + 2, v, j + 1, u, h => by
    rcases sd_s1_nth t (i + 1) v j u h with ⟨e1, e2⟩ | ⟨e1, e2, e3⟩
    · exact Or.inl ⟨by omega, e2⟩
    · exact Or.inr ⟨by omega, e2, fun q => e3 ⟨by omega, q.2⟩⟩
theorem sd_s2_nth : ∀ (ls : List (Option sd_V)) (i : Nat) (v : sd_V) (j : Nat) (u : sd_V), sd_nth (sd_s2 ls i v) j = some (some u) → (j = i ∧ u = v) ∨ (j ≠ i ∧ j ≠ i + 1 ∧ sd_nth ls j = some (some u) ∧ ¬ (j + 1 = i ∧ sd_lg u))
  | [], _, _, _, _, h => by cases h
  | [_], 0, v, 0, u, h => by cases h; exact Or.inl ⟨rfl, rfl⟩
  | [_], 0, v, j + 1, u, h => by cases h
  | _ :: _ :: t, 0, v, 0, u, h => by cases h; exact Or.inl ⟨rfl, rfl⟩
  | _ :: _ :: t, 0, v, 1, u, h => by cases h
  | _ :: _ :: t, 0, v, j + 2, u, h => Or.inr ⟨by omega, by omega, h, by omega⟩
  | a :: t, 1, v, 0, u, h => by
    have h : some (sd_nl a) = some (some u) := by
      cases t <;> exact h
    obtain ⟨e, n⟩ := sd_nl_some (Option.some.inj h)
    exact Or.inr ⟨by omega, by omega, by show some a = _; rw [e], fun q => n q.2⟩
  | a :: t, 1, v, j + 1, u, h => by
    have h : sd_nth (sd_s2 t 0 v) j = some (some u) := by
      cases t <;> exact h
    rcases sd_s2_nth t 0 v j u h with ⟨e1, e2⟩ | ⟨e1, e0, e2, e3⟩
    · exact Or.inl ⟨by omega, e2⟩
    · exact Or.inr ⟨by omega, by omega, e2, fun q => by omega⟩
  | a :: t, i + 2, v, 0, u, h => by
    have h : some a = some (some u) := by
      cases t <;> exact h
    exact Or.inr ⟨by omega, by omega, h, fun q => by omega⟩
  | a :: t, i + 2, v, j + 1, u, h => by
    have h : sd_nth (sd_s2 t (i + 1) v) j = some (some u) := by
      cases t <;> exact h
    rcases sd_s2_nth t (i + 1) v j u h with ⟨e1, e2⟩ | ⟨e1, e0, e2, e3⟩
    · exact Or.inl ⟨by omega, e2⟩
    · exact Or.inr ⟨by omega, by omega, e2, fun q => e3 ⟨by omega, q.2⟩⟩
theorem sd_rv_cat {ad : sd_A} {v : sd_V} (h : (sd_rv ad v).category = 2) : sd_lg v := by
  rcases v with x | x | ⟨t, o⟩
  · simp [sd_rv, Value.category] at h
  · exact ⟨x, rfl⟩
  · cases o <;> simp [sd_rv, va_rf, Value.category] at h
theorem sd_lh1 {ad : sd_A} {ls : List (Option sd_V)} {lsA : Array Slot} {n i : Nat} {v : sd_V} (hl : lv_has lsA n ((i, sd_rv ad v) :: (sd_al ad 0 ls).filter (fun q => !(q.1 == i) && !(q.1 + 1 == i && q.2.category == 2)))) : lv_has lsA n (sd_al ad 0 (sd_s1 ls i v)) := by
  refine ⟨hl.1, hl.2.1, fun q hq => hl.2.2 q ?_⟩
  obtain ⟨j, u, rfl, hj⟩ := sd_al_inv ad _ 0 q hq
  rw [Nat.zero_add]
  rcases sd_s1_nth ls i v j u hj with ⟨rfl, rfl⟩ | ⟨h1, h2, h3⟩
  · exact List.mem_cons_self
  · refine List.mem_cons_of_mem _ (List.mem_filter.mpr ⟨?_, ?_⟩)
    · have := sd_al_mem ad ls 0 j u h2
      rwa [Nat.zero_add] at this
    · by_cases hc : (sd_rv ad u).category = 2
      · have : j + 1 ≠ i := fun e => h3 ⟨e, sd_rv_cat hc⟩
        simp [h1, this]
      · simp [h1, hc]
theorem sd_lh2 {ad : sd_A} {ls : List (Option sd_V)} {lsA : Array Slot} {n i : Nat} {v : sd_V} (hl : lv_has lsA n ((i, sd_rv ad v) :: (sd_al ad 0 ls).filter (fun q => !(q.1 == i) && (!(q.1 == i + 1) && !(q.1 + 1 == i && q.2.category == 2))))) : lv_has lsA n (sd_al ad 0 (sd_s2 ls i v)) := by
  refine ⟨hl.1, hl.2.1, fun q hq => hl.2.2 q ?_⟩
  obtain ⟨j, u, rfl, hj⟩ := sd_al_inv ad _ 0 q hq
  rw [Nat.zero_add]
  rcases sd_s2_nth ls i v j u hj with ⟨rfl, rfl⟩ | ⟨h1, h0, h2, h3⟩
  · exact List.mem_cons_self
  · refine List.mem_cons_of_mem _ (List.mem_filter.mpr ⟨?_, ?_⟩)
    · have := sd_al_mem ad ls 0 j u h2
      rwa [Nat.zero_add] at this
    · by_cases hc : (sd_rv ad u).category = 2
      · have : j + 1 ≠ i := fun e => h3 ⟨e, sd_rv_cat hc⟩
        simp [h1, h0, this]
      · simp [h1, h0, hc]
theorem sd_s1_ok {h : sd_H} {ls : List (Option sd_V)} {i : Nat} {v : sd_V} (a : sd_ok h v) (b : ∀ w, some w ∈ ls → sd_ok h w) : ∀ w, some w ∈ sd_s1 ls i v → sd_ok h w := by
  intro w hw
  obtain ⟨j, hj⟩ := sd_mem_nth _ _ hw
  rcases sd_s1_nth ls i v j w hj with ⟨-, rfl⟩ | ⟨-, h2, -⟩
  · exact a
  · exact b w (sd_nth_mem _ _ _ h2)
theorem sd_s2_ok {h : sd_H} {ls : List (Option sd_V)} {i : Nat} {v : sd_V} (a : sd_ok h v) (b : ∀ w, some w ∈ ls → sd_ok h w) : ∀ w, some w ∈ sd_s2 ls i v → sd_ok h w := by
  intro w hw
  obtain ⟨j, hj⟩ := sd_mem_nth _ _ hw
  rcases sd_s2_nth ls i v j w hj with ⟨-, rfl⟩ | ⟨-, -, h2, -⟩
  · exact a
  · exact b w (sd_nth_mem _ _ _ h2)
theorem sd_g_ok {h : sd_H} {ls : List (Option sd_V)} {i : Nat} {v : sd_V} (b : ∀ w, some w ∈ ls → sd_ok h w) (hg : sd_g ls i = some v) : sd_ok h v := b v (sd_nth_mem _ _ _ (sd_g_nth hg))
section SW
variable {l : Launch} {sc : Option (Nat × (Nat → Int32))} {y : Nat} {rm : Bool} {Q : Option sd_V → sd_H → Prop} {pc : Nat} {ls : List (Option sd_V)} {st r : List sd_V} {h : sd_H} {cs ss : Nat}
theorem sw_iconst {n : Int} {v : Int32} (hd : decode (sd_by y) pc = .ok (.iconst n, 1)) (hv : Int32.ofInt n = v) (k : sd_Wq l sc y rm Q (pc + 1) ls (.inl v :: st) h cs ss) : sd_Wq l sc y rm Q pc ls (st) h cs ss := by
  intro p e s m args below meth c R D base ad H locs lsA Z C hb hS hV hl hst hls hok hsc hrt hcs
  exact lv_iconst C.1 C.2.1 hd hv (k p e s m args below meth c R D base ad H locs lsA Z C hb hS hV hl (sd_oc (sd_oi _ _) hst) hls hok hsc hrt hcs)
theorem sw_bipush {n : Int} {v : Int32} (hd : decode (sd_by y) pc = .ok (.bipush n, 2)) (hv : (Int8.ofInt n).toInt32 = v) (k : sd_Wq l sc y rm Q (pc + 2) ls (.inl v :: st) h cs ss) : sd_Wq l sc y rm Q pc ls (st) h cs ss := by
  intro p e s m args below meth c R D base ad H locs lsA Z C hb hS hV hl hst hls hok hsc hrt hcs
  exact lv_bipush C.1 C.2.1 hd hv (k p e s m args below meth c R D base ad H locs lsA Z C hb hS hV hl (sd_oc (sd_oi _ _) hst) hls hok hsc hrt hcs)
theorem sw_sipush {n : Int} {v : Int32} (hd : decode (sd_by y) pc = .ok (.sipush n, 3)) (hv : (Int16.ofInt n).toInt32 = v) (k : sd_Wq l sc y rm Q (pc + 3) ls (.inl v :: st) h cs ss) : sd_Wq l sc y rm Q pc ls (st) h cs ss := by
  intro p e s m args below meth c R D base ad H locs lsA Z C hb hS hV hl hst hls hok hsc hrt hcs
  exact lv_sipush C.1 C.2.1 hd hv (k p e s m args below meth c R D base ad H locs lsA Z C hb hS hV hl (sd_oc (sd_oi _ _) hst) hls hok hsc hrt hcs)
theorem sw_lconst {n : Fin 2} {v : Int64} (hd : decode (sd_by y) pc = .ok (.lconst n, 1)) (hv : Int64.ofNat (n : Nat) = v) (k : sd_Wq l sc y rm Q (pc + 1) ls (.inr (.inl v) :: st) h cs ss) : sd_Wq l sc y rm Q pc ls (st) h cs ss := by
  intro p e s m args below meth c R D base ad H locs lsA Z C hb hS hV hl hst hls hok hsc hrt hcs
  exact lv_lconst C.1 C.2.1 hd hv (k p e s m args below meth c R D base ad H locs lsA Z C hb hS hV hl (sd_oc (sd_olg _ _) hst) hls hok hsc hrt hcs)
theorem sw_ldc {n : Nat} {v : Int32} (hd : decode (sd_by y) pc = .ok (.ldc n, 2)) (hw : Cond.constant (sd_nm y).cls n v ∈ lw_tbl) (k : sd_Wq l sc y rm Q (pc + 2) ls (.inl v :: st) h cs ss) : sd_Wq l sc y rm Q pc ls (st) h cs ss := by
  intro p e s m args below meth c R D base ad H locs lsA Z C hb hS hV hl hst hls hok hsc hrt hcs
  exact lv_ldc C.1 C.2.1 C.2.2.2.1 (C.2.2.2.2.1 _ hw) hd (k p e s m args below meth c R D base ad H locs lsA Z C hb hS hV hl (sd_oc (sd_oi _ _) hst) hls hok hsc hrt hcs)
theorem sw_ldcw {n : Nat} {v : Int32} (hd : decode (sd_by y) pc = .ok (.ldc_w n, 3)) (hw : Cond.constant (sd_nm y).cls n v ∈ lw_tbl) (k : sd_Wq l sc y rm Q (pc + 3) ls (.inl v :: st) h cs ss) : sd_Wq l sc y rm Q pc ls (st) h cs ss := by
  intro p e s m args below meth c R D base ad H locs lsA Z C hb hS hV hl hst hls hok hsc hrt hcs
  exact lv_ldcw C.1 C.2.1 C.2.2.2.1 (C.2.2.2.2.1 _ hw) hd (k p e s m args below meth c R D base ad H locs lsA Z C hb hS hV hl (sd_oc (sd_oi _ _) hst) hls hok hsc hrt hcs)
theorem sw_ldc2 {n : Nat} {v : Int64} (hd : decode (sd_by y) pc = .ok (.ldc2_w n, 3)) (hw : Cond.constantLong (sd_nm y).cls n v ∈ lw_tbl) (k : sd_Wq l sc y rm Q (pc + 3) ls (.inr (.inl v) :: st) h cs ss) : sd_Wq l sc y rm Q pc ls (st) h cs ss := by
  intro p e s m args below meth c R D base ad H locs lsA Z C hb hS hV hl hst hls hok hsc hrt hcs
  exact lv_ldc2 C.1 C.2.1 C.2.2.2.1 (C.2.2.2.2.1 _ hw) hd (k p e s m args below meth c R D base ad H locs lsA Z C hb hS hV hl (sd_oc (sd_olg _ _) hst) hls hok hsc hrt hcs)
theorem sw_null (hd : decode (sd_by y) pc = .ok (.aconst_null, 1)) (k : sd_Wq l sc y rm Q (pc + 1) ls (.inr (.inr (0, none)) :: st) h cs ss) : sd_Wq l sc y rm Q pc ls (st) h cs ss := by
  intro p e s m args below meth c R D base ad H locs lsA Z C hb hS hV hl hst hls hok hsc hrt hcs
  exact lv_null C.1 C.2.1 hd (k p e s m args below meth c R D base ad H locs lsA Z C hb hS hV hl (sd_oc (sd_onl _ _) hst) hls hok hsc hrt hcs)
theorem sw_iload_n {n : Fin 4} {i : Nat} {x : Int32} (hd : decode (sd_by y) pc = .ok (.iload_n n, 1)) (hi : (n : Nat) = i) (hg : sd_g ls i = some (.inl x)) (k : sd_Wq l sc y rm Q (pc + 1) ls (.inl x :: st) h cs ss) : sd_Wq l sc y rm Q pc ls (st) h cs ss := by
  intro p e s m args below meth c R D base ad H locs lsA Z C hb hS hV hl hst hls hok hsc hrt hcs
  exact lv_iload_n C.1 C.2.1 hd hi (sd_gl hl hg) (k p e s m args below meth c R D base ad H locs lsA Z C hb hS hV hl (sd_oc (sd_g_ok hls hg) hst) hls hok hsc hrt hcs)
theorem sw_iload {i : Nat} {x : Int32} (hd : decode (sd_by y) pc = .ok (.iload i, 2)) (hg : sd_g ls i = some (.inl x)) (k : sd_Wq l sc y rm Q (pc + 2) ls (.inl x :: st) h cs ss) : sd_Wq l sc y rm Q pc ls (st) h cs ss := by
  intro p e s m args below meth c R D base ad H locs lsA Z C hb hS hV hl hst hls hok hsc hrt hcs
  exact lv_iload C.1 C.2.1 hd (sd_gl hl hg) (k p e s m args below meth c R D base ad H locs lsA Z C hb hS hV hl (sd_oc (sd_g_ok hls hg) hst) hls hok hsc hrt hcs)
theorem sw_lload_n {n : Fin 4} {i : Nat} {x : Int64} (hd : decode (sd_by y) pc = .ok (.lload_n n, 1)) (hi : (n : Nat) = i) (hg : sd_g ls i = some (.inr (.inl x))) (k : sd_Wq l sc y rm Q (pc + 1) ls (.inr (.inl x) :: st) h cs ss) : sd_Wq l sc y rm Q pc ls (st) h cs ss := by
  intro p e s m args below meth c R D base ad H locs lsA Z C hb hS hV hl hst hls hok hsc hrt hcs
  exact lv_lload_n C.1 C.2.1 hd hi (sd_gl hl hg) (k p e s m args below meth c R D base ad H locs lsA Z C hb hS hV hl (sd_oc (sd_g_ok hls hg) hst) hls hok hsc hrt hcs)
theorem sw_lload {i : Nat} {x : Int64} (hd : decode (sd_by y) pc = .ok (.lload i, 2)) (hg : sd_g ls i = some (.inr (.inl x))) (k : sd_Wq l sc y rm Q (pc + 2) ls (.inr (.inl x) :: st) h cs ss) : sd_Wq l sc y rm Q pc ls (st) h cs ss := by
  intro p e s m args below meth c R D base ad H locs lsA Z C hb hS hV hl hst hls hok hsc hrt hcs
  exact lv_lload C.1 C.2.1 hd (sd_gl hl hg) (k p e s m args below meth c R D base ad H locs lsA Z C hb hS hV hl (sd_oc (sd_g_ok hls hg) hst) hls hok hsc hrt hcs)
theorem sw_aload_n {n : Fin 4} {i : Nat} {q : Nat × Option Nat} (hd : decode (sd_by y) pc = .ok (.aload_n n, 1)) (hi : (n : Nat) = i) (hg : sd_g ls i = some (.inr (.inr q))) (k : sd_Wq l sc y rm Q (pc + 1) ls (.inr (.inr q) :: st) h cs ss) : sd_Wq l sc y rm Q pc ls st h cs ss := by
  intro p e s m args below meth c R D base ad H locs lsA Z C hb hS hV hl hst hls hok hsc hrt hcs
  have w := (k p e s m args below meth c R D base ad H locs lsA Z C hb hS hV hl (sd_oc (sd_g_ok hls hg) hst) hls hok hsc hrt hcs)
  have g := sd_gl hl hg
  obtain ⟨t, _ | o⟩ := q
  · exact lv_aload_nN C.1 C.2.1 hd hi g w
  · exact lv_aload_n C.1 C.2.1 hd hi g w
theorem sw_aload {i : Nat} {q : Nat × Option Nat} (hd : decode (sd_by y) pc = .ok (.aload i, 2)) (hg : sd_g ls i = some (.inr (.inr q))) (k : sd_Wq l sc y rm Q (pc + 2) ls (.inr (.inr q) :: st) h cs ss) : sd_Wq l sc y rm Q pc ls st h cs ss := by
  intro p e s m args below meth c R D base ad H locs lsA Z C hb hS hV hl hst hls hok hsc hrt hcs
  have w := (k p e s m args below meth c R D base ad H locs lsA Z C hb hS hV hl (sd_oc (sd_g_ok hls hg) hst) hls hok hsc hrt hcs)
  have g := sd_gl hl hg
  obtain ⟨t, _ | o⟩ := q
  · exact lv_aloadN C.1 C.2.1 hd g w
  · exact lv_aload C.1 C.2.1 hd g w
theorem sw_istore_n {n : Fin 4} {i : Nat} {x : Int32} (hd : decode (sd_by y) pc = .ok (.istore_n n, 1)) (hi : (n : Nat) = i) (hn : i < sd_ml y) (k : sd_Wq l sc y rm Q (pc + 1) (sd_s1 ls i (.inl x)) r h cs ss) : sd_Wq l sc y rm Q pc ls (.inl x :: r) h cs ss := by
  intro p e s m args below meth c R D base ad H locs lsA Z C hb hS hV hl hst hls hok hsc hrt hcs
  exact lv_istore_n C.1 C.2.1 hd hi hl hn rfl (fun lsA hl => (k p e s m args below meth c R D base ad H locs lsA Z C hb hS hV (sd_lh1 hl) (sd_o1 hst) (sd_s1_ok (sd_o0 hst) hls) hok hsc hrt hcs))
theorem sw_istore {i : Nat} {x : Int32} (hd : decode (sd_by y) pc = .ok (.istore i, 2)) (hn : i < sd_ml y) (k : sd_Wq l sc y rm Q (pc + 2) (sd_s1 ls i (.inl x)) r h cs ss) : sd_Wq l sc y rm Q pc ls (.inl x :: r) h cs ss := by
  intro p e s m args below meth c R D base ad H locs lsA Z C hb hS hV hl hst hls hok hsc hrt hcs
  exact lv_istore C.1 C.2.1 hd hl hn rfl (fun lsA hl => (k p e s m args below meth c R D base ad H locs lsA Z C hb hS hV (sd_lh1 hl) (sd_o1 hst) (sd_s1_ok (sd_o0 hst) hls) hok hsc hrt hcs))
theorem sw_lstore_n {n : Fin 4} {i : Nat} {x : Int64} (hd : decode (sd_by y) pc = .ok (.lstore_n n, 1)) (hi : (n : Nat) = i) (hn : i + 1 < sd_ml y) (k : sd_Wq l sc y rm Q (pc + 1) (sd_s2 ls i (.inr (.inl x))) r h cs ss) : sd_Wq l sc y rm Q pc ls (.inr (.inl x) :: r) h cs ss := by
  intro p e s m args below meth c R D base ad H locs lsA Z C hb hS hV hl hst hls hok hsc hrt hcs
  exact lv_lstore_n C.1 C.2.1 hd hi hl hn rfl (fun lsA hl => (k p e s m args below meth c R D base ad H locs lsA Z C hb hS hV (sd_lh2 hl) (sd_o1 hst) (sd_s2_ok (sd_o0 hst) hls) hok hsc hrt hcs))
theorem sw_lstore {i : Nat} {x : Int64} (hd : decode (sd_by y) pc = .ok (.lstore i, 2)) (hn : i + 1 < sd_ml y) (k : sd_Wq l sc y rm Q (pc + 2) (sd_s2 ls i (.inr (.inl x))) r h cs ss) : sd_Wq l sc y rm Q pc ls (.inr (.inl x) :: r) h cs ss := by
  intro p e s m args below meth c R D base ad H locs lsA Z C hb hS hV hl hst hls hok hsc hrt hcs
  exact lv_lstore C.1 C.2.1 hd hl hn rfl (fun lsA hl => (k p e s m args below meth c R D base ad H locs lsA Z C hb hS hV (sd_lh2 hl) (sd_o1 hst) (sd_s2_ok (sd_o0 hst) hls) hok hsc hrt hcs))
theorem sw_astore_n {n : Fin 4} {i : Nat} {q : Nat × Option Nat} (hd : decode (sd_by y) pc = .ok (.astore_n n, 1)) (hi : (n : Nat) = i) (hn : i < sd_ml y) (k : sd_Wq l sc y rm Q (pc + 1) (sd_s1 ls i (.inr (.inr q))) r h cs ss) : sd_Wq l sc y rm Q pc ls (.inr (.inr q) :: r) h cs ss := by
  intro p e s m args below meth c R D base ad H locs lsA Z C hb hS hV hl hst hls hok hsc hrt hcs
  obtain ⟨t, _ | o⟩ := q
  · exact lv_astore_nN C.1 C.2.1 hd hi hl hn rfl (fun lsA hl => (k p e s m args below meth c R D base ad H locs lsA Z C hb hS hV (sd_lh1 hl) (sd_o1 hst) (sd_s1_ok (sd_o0 hst) hls) hok hsc hrt hcs))
  · exact lv_astore_n C.1 C.2.1 hd hi hl hn rfl (fun lsA hl => (k p e s m args below meth c R D base ad H locs lsA Z C hb hS hV (sd_lh1 hl) (sd_o1 hst) (sd_s1_ok (sd_o0 hst) hls) hok hsc hrt hcs))
theorem sw_astore {i : Nat} {q : Nat × Option Nat} (hd : decode (sd_by y) pc = .ok (.astore i, 2)) (hn : i < sd_ml y) (k : sd_Wq l sc y rm Q (pc + 2) (sd_s1 ls i (.inr (.inr q))) r h cs ss) : sd_Wq l sc y rm Q pc ls (.inr (.inr q) :: r) h cs ss := by
  intro p e s m args below meth c R D base ad H locs lsA Z C hb hS hV hl hst hls hok hsc hrt hcs
  obtain ⟨t, _ | o⟩ := q
  · exact lv_astoreN C.1 C.2.1 hd hl hn rfl (fun lsA hl => (k p e s m args below meth c R D base ad H locs lsA Z C hb hS hV (sd_lh1 hl) (sd_o1 hst) (sd_s1_ok (sd_o0 hst) hls) hok hsc hrt hcs))
  · exact lv_astore C.1 C.2.1 hd hl hn rfl (fun lsA hl => (k p e s m args below meth c R D base ad H locs lsA Z C hb hS hV (sd_lh1 hl) (sd_o1 hst) (sd_s1_ok (sd_o0 hst) hls) hok hsc hrt hcs))
theorem sw_iinc {i : Nat} {n : Int} {x v : Int32} (hd : decode (sd_by y) pc = .ok (.iinc i n, 3)) (hg : sd_g ls i = some (.inl x)) (hv : Int32.ofInt n = v) (hn : i < sd_ml y) (k : sd_Wq l sc y rm Q (pc + 3) (sd_s1 ls i (.inl (x + v))) st h cs ss) : sd_Wq l sc y rm Q pc ls st h cs ss := by
  intro p e s m args below meth c R D base ad H locs lsA Z C hb hS hV hl hst hls hok hsc hrt hcs
  have hm := sd_al_mem ad ls 0 i _ (sd_g_nth hg)
  rw [Nat.zero_add] at hm
  obtain ⟨j, hj⟩ := List.getElem?_of_mem hm
  exact lv_iinc C.1 C.2.1 hd hl hj (by rw [hv]) hn rfl (fun lsA hl => (k p e s m args below meth c R D base ad H locs lsA Z C hb hS hV (sd_lh1 hl) hst (sd_s1_ok (sd_oi _ _) hls) hok hsc hrt hcs))
theorem sw_iadd {x z : Int32} (hd : decode (sd_by y) pc = .ok (.iadd, 1)) (k : sd_Wq l sc y rm Q (pc + 1) ls (.inl (x + z) :: r) h cs ss) : sd_Wq l sc y rm Q pc ls (.inl z :: .inl x :: r) h cs ss := by
  intro p e s m args below meth c R D base ad H locs lsA Z C hb hS hV hl hst hls hok hsc hrt hcs
  exact lv_iadd C.1 C.2.1 hd (k p e s m args below meth c R D base ad H locs lsA Z C hb hS hV hl (sd_oc (sd_oi _ _) (sd_o2 hst)) hls hok hsc hrt hcs)
theorem sw_isub {x z : Int32} (hd : decode (sd_by y) pc = .ok (.isub, 1)) (k : sd_Wq l sc y rm Q (pc + 1) ls (.inl (x - z) :: r) h cs ss) : sd_Wq l sc y rm Q pc ls (.inl z :: .inl x :: r) h cs ss := by
  intro p e s m args below meth c R D base ad H locs lsA Z C hb hS hV hl hst hls hok hsc hrt hcs
  exact lv_isub C.1 C.2.1 hd (k p e s m args below meth c R D base ad H locs lsA Z C hb hS hV hl (sd_oc (sd_oi _ _) (sd_o2 hst)) hls hok hsc hrt hcs)
theorem sw_imul {x z : Int32} (hd : decode (sd_by y) pc = .ok (.imul, 1)) (k : sd_Wq l sc y rm Q (pc + 1) ls (.inl (x * z) :: r) h cs ss) : sd_Wq l sc y rm Q pc ls (.inl z :: .inl x :: r) h cs ss := by
  intro p e s m args below meth c R D base ad H locs lsA Z C hb hS hV hl hst hls hok hsc hrt hcs
  exact lv_imul C.1 C.2.1 hd (k p e s m args below meth c R D base ad H locs lsA Z C hb hS hV hl (sd_oc (sd_oi _ _) (sd_o2 hst)) hls hok hsc hrt hcs)
theorem sw_iand {x z : Int32} (hd : decode (sd_by y) pc = .ok (.iand, 1)) (k : sd_Wq l sc y rm Q (pc + 1) ls (.inl (x &&& z) :: r) h cs ss) : sd_Wq l sc y rm Q pc ls (.inl z :: .inl x :: r) h cs ss := by
  intro p e s m args below meth c R D base ad H locs lsA Z C hb hS hV hl hst hls hok hsc hrt hcs
  exact lv_iand C.1 C.2.1 hd (k p e s m args below meth c R D base ad H locs lsA Z C hb hS hV hl (sd_oc (sd_oi _ _) (sd_o2 hst)) hls hok hsc hrt hcs)
theorem sw_ior {x z : Int32} (hd : decode (sd_by y) pc = .ok (.ior, 1)) (k : sd_Wq l sc y rm Q (pc + 1) ls (.inl (x ||| z) :: r) h cs ss) : sd_Wq l sc y rm Q pc ls (.inl z :: .inl x :: r) h cs ss := by
  intro p e s m args below meth c R D base ad H locs lsA Z C hb hS hV hl hst hls hok hsc hrt hcs
  exact lv_ior C.1 C.2.1 hd (k p e s m args below meth c R D base ad H locs lsA Z C hb hS hV hl (sd_oc (sd_oi _ _) (sd_o2 hst)) hls hok hsc hrt hcs)
theorem sw_ixor {x z : Int32} (hd : decode (sd_by y) pc = .ok (.ixor, 1)) (k : sd_Wq l sc y rm Q (pc + 1) ls (.inl (x ^^^ z) :: r) h cs ss) : sd_Wq l sc y rm Q pc ls (.inl z :: .inl x :: r) h cs ss := by
  intro p e s m args below meth c R D base ad H locs lsA Z C hb hS hV hl hst hls hok hsc hrt hcs
  exact lv_ixor C.1 C.2.1 hd (k p e s m args below meth c R D base ad H locs lsA Z C hb hS hV hl (sd_oc (sd_oi _ _) (sd_o2 hst)) hls hok hsc hrt hcs)
theorem sw_ishl {x z : Int32} (hd : decode (sd_by y) pc = .ok (.ishl, 1)) (k : sd_Wq l sc y rm Q (pc + 1) ls (.inl (x <<< (z &&& 31)) :: r) h cs ss) : sd_Wq l sc y rm Q pc ls (.inl z :: .inl x :: r) h cs ss := by
  intro p e s m args below meth c R D base ad H locs lsA Z C hb hS hV hl hst hls hok hsc hrt hcs
  exact lv_ishl C.1 C.2.1 hd (k p e s m args below meth c R D base ad H locs lsA Z C hb hS hV hl (sd_oc (sd_oi _ _) (sd_o2 hst)) hls hok hsc hrt hcs)
theorem sw_ishr {x z : Int32} (hd : decode (sd_by y) pc = .ok (.ishr, 1)) (k : sd_Wq l sc y rm Q (pc + 1) ls (.inl (x >>> (z &&& 31)) :: r) h cs ss) : sd_Wq l sc y rm Q pc ls (.inl z :: .inl x :: r) h cs ss := by
  intro p e s m args below meth c R D base ad H locs lsA Z C hb hS hV hl hst hls hok hsc hrt hcs
  exact lv_ishr C.1 C.2.1 hd (k p e s m args below meth c R D base ad H locs lsA Z C hb hS hV hl (sd_oc (sd_oi _ _) (sd_o2 hst)) hls hok hsc hrt hcs)
theorem sw_idiv {x z : Int32} (hd : decode (sd_by y) pc = .ok (.idiv, 1)) (hz : ¬ z = 0) (k : sd_Wq l sc y rm Q (pc + 1) ls (.inl (x / z) :: r) h cs ss) : sd_Wq l sc y rm Q pc ls (.inl z :: .inl x :: r) h cs ss := by
  intro p e s m args below meth c R D base ad H locs lsA Z C hb hS hV hl hst hls hok hsc hrt hcs
  exact lv_idiv C.1 C.2.1 hd hz (k p e s m args below meth c R D base ad H locs lsA Z C hb hS hV hl (sd_oc (sd_oi _ _) (sd_o2 hst)) hls hok hsc hrt hcs)
theorem sw_irem {x z : Int32} (hd : decode (sd_by y) pc = .ok (.irem, 1)) (hz : ¬ z = 0) (k : sd_Wq l sc y rm Q (pc + 1) ls (.inl (x - x / z * z) :: r) h cs ss) : sd_Wq l sc y rm Q pc ls (.inl z :: .inl x :: r) h cs ss := by
  intro p e s m args below meth c R D base ad H locs lsA Z C hb hS hV hl hst hls hok hsc hrt hcs
  exact lv_irem C.1 C.2.1 hd hz (k p e s m args below meth c R D base ad H locs lsA Z C hb hS hV hl (sd_oc (sd_oi _ _) (sd_o2 hst)) hls hok hsc hrt hcs)
theorem sw_ineg {x : Int32} (hd : decode (sd_by y) pc = .ok (.ineg, 1)) (k : sd_Wq l sc y rm Q (pc + 1) ls (.inl (-x) :: r) h cs ss) : sd_Wq l sc y rm Q pc ls (.inl x :: r) h cs ss := by
  intro p e s m args below meth c R D base ad H locs lsA Z C hb hS hV hl hst hls hok hsc hrt hcs
  exact lv_ineg C.1 C.2.1 hd (k p e s m args below meth c R D base ad H locs lsA Z C hb hS hV hl (sd_oc (sd_oi _ _) (sd_o1 hst)) hls hok hsc hrt hcs)
theorem sw_ladd {x z : Int64} (hd : decode (sd_by y) pc = .ok (.ladd, 1)) (k : sd_Wq l sc y rm Q (pc + 1) ls (.inr (.inl (x + z)) :: r) h cs ss) : sd_Wq l sc y rm Q pc ls (.inr (.inl z) :: .inr (.inl x) :: r) h cs ss := by
  intro p e s m args below meth c R D base ad H locs lsA Z C hb hS hV hl hst hls hok hsc hrt hcs
  exact lv_ladd C.1 C.2.1 hd (k p e s m args below meth c R D base ad H locs lsA Z C hb hS hV hl (sd_oc (sd_olg _ _) (sd_o2 hst)) hls hok hsc hrt hcs)
theorem sw_lsub {x z : Int64} (hd : decode (sd_by y) pc = .ok (.lsub, 1)) (k : sd_Wq l sc y rm Q (pc + 1) ls (.inr (.inl (x - z)) :: r) h cs ss) : sd_Wq l sc y rm Q pc ls (.inr (.inl z) :: .inr (.inl x) :: r) h cs ss := by
  intro p e s m args below meth c R D base ad H locs lsA Z C hb hS hV hl hst hls hok hsc hrt hcs
  exact lv_lsub C.1 C.2.1 hd (k p e s m args below meth c R D base ad H locs lsA Z C hb hS hV hl (sd_oc (sd_olg _ _) (sd_o2 hst)) hls hok hsc hrt hcs)
theorem sw_lmul {x z : Int64} (hd : decode (sd_by y) pc = .ok (.lmul, 1)) (k : sd_Wq l sc y rm Q (pc + 1) ls (.inr (.inl (x * z)) :: r) h cs ss) : sd_Wq l sc y rm Q pc ls (.inr (.inl z) :: .inr (.inl x) :: r) h cs ss := by
  intro p e s m args below meth c R D base ad H locs lsA Z C hb hS hV hl hst hls hok hsc hrt hcs
  exact lv_lmul C.1 C.2.1 hd (k p e s m args below meth c R D base ad H locs lsA Z C hb hS hV hl (sd_oc (sd_olg _ _) (sd_o2 hst)) hls hok hsc hrt hcs)
theorem sw_land {x z : Int64} (hd : decode (sd_by y) pc = .ok (.land, 1)) (k : sd_Wq l sc y rm Q (pc + 1) ls (.inr (.inl (x &&& z)) :: r) h cs ss) : sd_Wq l sc y rm Q pc ls (.inr (.inl z) :: .inr (.inl x) :: r) h cs ss := by
  intro p e s m args below meth c R D base ad H locs lsA Z C hb hS hV hl hst hls hok hsc hrt hcs
  exact lv_land C.1 C.2.1 hd (k p e s m args below meth c R D base ad H locs lsA Z C hb hS hV hl (sd_oc (sd_olg _ _) (sd_o2 hst)) hls hok hsc hrt hcs)
theorem sw_lor {x z : Int64} (hd : decode (sd_by y) pc = .ok (.lor, 1)) (k : sd_Wq l sc y rm Q (pc + 1) ls (.inr (.inl (x ||| z)) :: r) h cs ss) : sd_Wq l sc y rm Q pc ls (.inr (.inl z) :: .inr (.inl x) :: r) h cs ss := by
  intro p e s m args below meth c R D base ad H locs lsA Z C hb hS hV hl hst hls hok hsc hrt hcs
  exact lv_lor C.1 C.2.1 hd (k p e s m args below meth c R D base ad H locs lsA Z C hb hS hV hl (sd_oc (sd_olg _ _) (sd_o2 hst)) hls hok hsc hrt hcs)
theorem sw_lxor {x z : Int64} (hd : decode (sd_by y) pc = .ok (.lxor, 1)) (k : sd_Wq l sc y rm Q (pc + 1) ls (.inr (.inl (x ^^^ z)) :: r) h cs ss) : sd_Wq l sc y rm Q pc ls (.inr (.inl z) :: .inr (.inl x) :: r) h cs ss := by
  intro p e s m args below meth c R D base ad H locs lsA Z C hb hS hV hl hst hls hok hsc hrt hcs
  exact lv_lxor C.1 C.2.1 hd (k p e s m args below meth c R D base ad H locs lsA Z C hb hS hV hl (sd_oc (sd_olg _ _) (sd_o2 hst)) hls hok hsc hrt hcs)
theorem sw_ldiv {x z : Int64} (hd : decode (sd_by y) pc = .ok (.ldiv, 1)) (hz : ¬ z = 0) (k : sd_Wq l sc y rm Q (pc + 1) ls (.inr (.inl (x / z)) :: r) h cs ss) : sd_Wq l sc y rm Q pc ls (.inr (.inl z) :: .inr (.inl x) :: r) h cs ss := by
  intro p e s m args below meth c R D base ad H locs lsA Z C hb hS hV hl hst hls hok hsc hrt hcs
  exact lv_ldiv C.1 C.2.1 hd hz (k p e s m args below meth c R D base ad H locs lsA Z C hb hS hV hl (sd_oc (sd_olg _ _) (sd_o2 hst)) hls hok hsc hrt hcs)
theorem sw_lrem {x z : Int64} (hd : decode (sd_by y) pc = .ok (.lrem, 1)) (hz : ¬ z = 0) (k : sd_Wq l sc y rm Q (pc + 1) ls (.inr (.inl (x - x / z * z)) :: r) h cs ss) : sd_Wq l sc y rm Q pc ls (.inr (.inl z) :: .inr (.inl x) :: r) h cs ss := by
  intro p e s m args below meth c R D base ad H locs lsA Z C hb hS hV hl hst hls hok hsc hrt hcs
  exact lv_lrem C.1 C.2.1 hd hz (k p e s m args below meth c R D base ad H locs lsA Z C hb hS hV hl (sd_oc (sd_olg _ _) (sd_o2 hst)) hls hok hsc hrt hcs)
theorem sw_lshl {x : Int64} {z : Int32} (hd : decode (sd_by y) pc = .ok (.lshl, 1)) (k : sd_Wq l sc y rm Q (pc + 1) ls (.inr (.inl (x <<< (z.toInt64 &&& 63))) :: r) h cs ss) : sd_Wq l sc y rm Q pc ls (.inl z :: .inr (.inl x) :: r) h cs ss := by
  intro p e s m args below meth c R D base ad H locs lsA Z C hb hS hV hl hst hls hok hsc hrt hcs
  exact lv_lshl C.1 C.2.1 hd rfl (k p e s m args below meth c R D base ad H locs lsA Z C hb hS hV hl (sd_oc (sd_olg _ _) (sd_o2 hst)) hls hok hsc hrt hcs)
theorem sw_lshr {x : Int64} {z : Int32} (hd : decode (sd_by y) pc = .ok (.lshr, 1)) (k : sd_Wq l sc y rm Q (pc + 1) ls (.inr (.inl (x >>> (z.toInt64 &&& 63))) :: r) h cs ss) : sd_Wq l sc y rm Q pc ls (.inl z :: .inr (.inl x) :: r) h cs ss := by
  intro p e s m args below meth c R D base ad H locs lsA Z C hb hS hV hl hst hls hok hsc hrt hcs
  exact lv_lshr C.1 C.2.1 hd rfl (k p e s m args below meth c R D base ad H locs lsA Z C hb hS hV hl (sd_oc (sd_olg _ _) (sd_o2 hst)) hls hok hsc hrt hcs)
theorem sw_lushr {x : Int64} {z : Int32} (hd : decode (sd_by y) pc = .ok (.lushr, 1)) (k : sd_Wq l sc y rm Q (pc + 1) ls (.inr (.inl ((x.toUInt64 >>> (z.toInt64.toUInt64 &&& Int64.toUInt64 63)).toInt64)) :: r) h cs ss) : sd_Wq l sc y rm Q pc ls (.inl z :: .inr (.inl x) :: r) h cs ss := by
  intro p e s m args below meth c R D base ad H locs lsA Z C hb hS hV hl hst hls hok hsc hrt hcs
  exact lv_lushr C.1 C.2.1 hd rfl (k p e s m args below meth c R D base ad H locs lsA Z C hb hS hV hl (sd_oc (sd_olg _ _) (sd_o2 hst)) hls hok hsc hrt hcs)
theorem sw_i2l {x : Int32} (hd : decode (sd_by y) pc = .ok (.i2l, 1)) (k : sd_Wq l sc y rm Q (pc + 1) ls (.inr (.inl x.toInt64) :: r) h cs ss) : sd_Wq l sc y rm Q pc ls (.inl x :: r) h cs ss := by
  intro p e s m args below meth c R D base ad H locs lsA Z C hb hS hV hl hst hls hok hsc hrt hcs
  exact lv_i2l C.1 C.2.1 hd rfl (k p e s m args below meth c R D base ad H locs lsA Z C hb hS hV hl (sd_oc (sd_olg _ _) (sd_o1 hst)) hls hok hsc hrt hcs)
theorem sw_l2i {x : Int64} (hd : decode (sd_by y) pc = .ok (.l2i, 1)) (k : sd_Wq l sc y rm Q (pc + 1) ls (.inl x.toInt32 :: r) h cs ss) : sd_Wq l sc y rm Q pc ls (.inr (.inl x) :: r) h cs ss := by
  intro p e s m args below meth c R D base ad H locs lsA Z C hb hS hV hl hst hls hok hsc hrt hcs
  exact lv_l2i C.1 C.2.1 hd rfl (k p e s m args below meth c R D base ad H locs lsA Z C hb hS hV hl (sd_oc (sd_oi _ _) (sd_o1 hst)) hls hok hsc hrt hcs)
theorem sw_lcmp {x z : Int64} (hd : decode (sd_by y) pc = .ok (.lcmp, 1)) (k : sd_Wq l sc y rm Q (pc + 1) ls (.inl (lg_cmp x z) :: r) h cs ss) : sd_Wq l sc y rm Q pc ls (.inr (.inl z) :: .inr (.inl x) :: r) h cs ss := by
  intro p e s m args below meth c R D base ad H locs lsA Z C hb hS hV hl hst hls hok hsc hrt hcs
  exact W.lcmp C.1 C.2.1 hd (k p e s m args below meth c R D base ad H locs lsA Z C hb hS hV hl (sd_oc (sd_oi _ _) (sd_o2 hst)) hls hok hsc hrt hcs)
theorem sd_cat1 {ad : sd_A} {v : sd_V} (hv : ¬ sd_lg v) : (sd_rv ad v).category = 1 := by
  rcases lv_cat (sd_rv ad v) with q | q
  · exact q
  · exact absurd (sd_rv_cat q) hv
theorem sw_dup {v : sd_V} (hd : decode (sd_by y) pc = .ok (.dup, 1)) (hv : ¬ sd_lg v) (k : sd_Wq l sc y rm Q (pc + 1) ls (v :: v :: r) h cs ss) : sd_Wq l sc y rm Q pc ls (v :: r) h cs ss := by
  intro p e s m args below meth c R D base ad H locs lsA Z C hb hS hV hl hst hls hok hsc hrt hcs
  exact lv_dup C.1 C.2.1 hd (sd_cat1 hv) (k p e s m args below meth c R D base ad H locs lsA Z C hb hS hV hl (sd_oc (sd_o0 hst) hst) hls hok hsc hrt hcs)
theorem sw_pop {v : sd_V} (hd : decode (sd_by y) pc = .ok (.pop, 1)) (hv : ¬ sd_lg v) (k : sd_Wq l sc y rm Q (pc + 1) ls (r) h cs ss) : sd_Wq l sc y rm Q pc ls (v :: r) h cs ss := by
  intro p e s m args below meth c R D base ad H locs lsA Z C hb hS hV hl hst hls hok hsc hrt hcs
  exact lv_pop C.1 C.2.1 hd (sd_cat1 hv) (k p e s m args below meth c R D base ad H locs lsA Z C hb hS hV hl (sd_o1 hst) hls hok hsc hrt hcs)
theorem sw_dup2 {v u : sd_V} (hd : decode (sd_by y) pc = .ok (.dup2, 1)) (hv : ¬ sd_lg v) (hu : ¬ sd_lg u) (k : sd_Wq l sc y rm Q (pc + 1) ls (v :: u :: v :: u :: r) h cs ss) : sd_Wq l sc y rm Q pc ls (v :: u :: r) h cs ss := by
  intro p e s m args below meth c R D base ad H locs lsA Z C hb hS hV hl hst hls hok hsc hrt hcs
  exact lv_dup2_11 C.1 C.2.1 hd (sd_cat1 hv) (sd_cat1 hu) (k p e s m args below meth c R D base ad H locs lsA Z C hb hS hV hl (sd_oc (sd_o0 hst) (sd_oc (sd_o0 (sd_o1 hst)) hst)) hls hok hsc hrt hcs)
theorem sw_if_eq {x : Int32} {off : Int} {tgt : Nat} (hd : decode (sd_by y) pc = .ok (.ifCond .eq off, 3)) (ht : (pc : Int) + off = (tgt : Int)) (kt : x = 0 → sd_Wq l sc y rm Q tgt ls r h cs ss) (kf : ¬ x = 0 → sd_Wq l sc y rm Q (pc + 3) ls r h cs ss) : sd_Wq l sc y rm Q pc ls (.inl x :: r) h cs ss := by
  intro p e s m args below meth c R D base ad H locs lsA Z C hb hS hV hl hst hls hok hsc hrt hcs
  exact lv_if_eq C.1 C.2.1 hd ht (fun q => kt q p e s m args below meth c R D base ad H locs lsA Z C hb hS hV hl (sd_o1 hst) hls hok hsc hrt hcs) (fun q => kf q p e s m args below meth c R D base ad H locs lsA Z C hb hS hV hl (sd_o1 hst) hls hok hsc hrt hcs)
theorem sw_icmp_eq {x z : Int32} {off : Int} {tgt : Nat} (hd : decode (sd_by y) pc = .ok (.if_icmp .eq off, 3)) (ht : (pc : Int) + off = (tgt : Int)) (kt : x = z → sd_Wq l sc y rm Q tgt ls r h cs ss) (kf : ¬ x = z → sd_Wq l sc y rm Q (pc + 3) ls r h cs ss) : sd_Wq l sc y rm Q pc ls (.inl z :: .inl x :: r) h cs ss := by
  intro p e s m args below meth c R D base ad H locs lsA Z C hb hS hV hl hst hls hok hsc hrt hcs
  exact lv_icmp_eq C.1 C.2.1 hd ht (fun q => kt q p e s m args below meth c R D base ad H locs lsA Z C hb hS hV hl (sd_o2 hst) hls hok hsc hrt hcs) (fun q => kf q p e s m args below meth c R D base ad H locs lsA Z C hb hS hV hl (sd_o2 hst) hls hok hsc hrt hcs)
theorem sw_if_ne {x : Int32} {off : Int} {tgt : Nat} (hd : decode (sd_by y) pc = .ok (.ifCond .ne off, 3)) (ht : (pc : Int) + off = (tgt : Int)) (kt : ¬ x = 0 → sd_Wq l sc y rm Q tgt ls r h cs ss) (kf : x = 0 → sd_Wq l sc y rm Q (pc + 3) ls r h cs ss) : sd_Wq l sc y rm Q pc ls (.inl x :: r) h cs ss := by
  intro p e s m args below meth c R D base ad H locs lsA Z C hb hS hV hl hst hls hok hsc hrt hcs
  exact lv_if_ne C.1 C.2.1 hd ht (fun q => kt q p e s m args below meth c R D base ad H locs lsA Z C hb hS hV hl (sd_o1 hst) hls hok hsc hrt hcs) (fun q => kf q p e s m args below meth c R D base ad H locs lsA Z C hb hS hV hl (sd_o1 hst) hls hok hsc hrt hcs)
theorem sw_icmp_ne {x z : Int32} {off : Int} {tgt : Nat} (hd : decode (sd_by y) pc = .ok (.if_icmp .ne off, 3)) (ht : (pc : Int) + off = (tgt : Int)) (kt : ¬ x = z → sd_Wq l sc y rm Q tgt ls r h cs ss) (kf : x = z → sd_Wq l sc y rm Q (pc + 3) ls r h cs ss) : sd_Wq l sc y rm Q pc ls (.inl z :: .inl x :: r) h cs ss := by
  intro p e s m args below meth c R D base ad H locs lsA Z C hb hS hV hl hst hls hok hsc hrt hcs
  exact lv_icmp_ne C.1 C.2.1 hd ht (fun q => kt q p e s m args below meth c R D base ad H locs lsA Z C hb hS hV hl (sd_o2 hst) hls hok hsc hrt hcs) (fun q => kf q p e s m args below meth c R D base ad H locs lsA Z C hb hS hV hl (sd_o2 hst) hls hok hsc hrt hcs)
theorem sw_if_lt {x : Int32} {off : Int} {tgt : Nat} (hd : decode (sd_by y) pc = .ok (.ifCond .lt off, 3)) (ht : (pc : Int) + off = (tgt : Int)) (kt : x < 0 → sd_Wq l sc y rm Q tgt ls r h cs ss) (kf : ¬ x < 0 → sd_Wq l sc y rm Q (pc + 3) ls r h cs ss) : sd_Wq l sc y rm Q pc ls (.inl x :: r) h cs ss := by
  intro p e s m args below meth c R D base ad H locs lsA Z C hb hS hV hl hst hls hok hsc hrt hcs
  exact lv_if_lt C.1 C.2.1 hd ht (fun q => kt q p e s m args below meth c R D base ad H locs lsA Z C hb hS hV hl (sd_o1 hst) hls hok hsc hrt hcs) (fun q => kf q p e s m args below meth c R D base ad H locs lsA Z C hb hS hV hl (sd_o1 hst) hls hok hsc hrt hcs)
theorem sw_icmp_lt {x z : Int32} {off : Int} {tgt : Nat} (hd : decode (sd_by y) pc = .ok (.if_icmp .lt off, 3)) (ht : (pc : Int) + off = (tgt : Int)) (kt : x < z → sd_Wq l sc y rm Q tgt ls r h cs ss) (kf : ¬ x < z → sd_Wq l sc y rm Q (pc + 3) ls r h cs ss) : sd_Wq l sc y rm Q pc ls (.inl z :: .inl x :: r) h cs ss := by
  intro p e s m args below meth c R D base ad H locs lsA Z C hb hS hV hl hst hls hok hsc hrt hcs
  exact lv_icmp_lt C.1 C.2.1 hd ht (fun q => kt q p e s m args below meth c R D base ad H locs lsA Z C hb hS hV hl (sd_o2 hst) hls hok hsc hrt hcs) (fun q => kf q p e s m args below meth c R D base ad H locs lsA Z C hb hS hV hl (sd_o2 hst) hls hok hsc hrt hcs)
theorem sw_if_ge {x : Int32} {off : Int} {tgt : Nat} (hd : decode (sd_by y) pc = .ok (.ifCond .ge off, 3)) (ht : (pc : Int) + off = (tgt : Int)) (kt : 0 ≤ x → sd_Wq l sc y rm Q tgt ls r h cs ss) (kf : ¬ 0 ≤ x → sd_Wq l sc y rm Q (pc + 3) ls r h cs ss) : sd_Wq l sc y rm Q pc ls (.inl x :: r) h cs ss := by
  intro p e s m args below meth c R D base ad H locs lsA Z C hb hS hV hl hst hls hok hsc hrt hcs
  exact lv_if_ge C.1 C.2.1 hd ht (fun q => kt q p e s m args below meth c R D base ad H locs lsA Z C hb hS hV hl (sd_o1 hst) hls hok hsc hrt hcs) (fun q => kf q p e s m args below meth c R D base ad H locs lsA Z C hb hS hV hl (sd_o1 hst) hls hok hsc hrt hcs)
theorem sw_icmp_ge {x z : Int32} {off : Int} {tgt : Nat} (hd : decode (sd_by y) pc = .ok (.if_icmp .ge off, 3)) (ht : (pc : Int) + off = (tgt : Int)) (kt : z ≤ x → sd_Wq l sc y rm Q tgt ls r h cs ss) (kf : ¬ z ≤ x → sd_Wq l sc y rm Q (pc + 3) ls r h cs ss) : sd_Wq l sc y rm Q pc ls (.inl z :: .inl x :: r) h cs ss := by
  intro p e s m args below meth c R D base ad H locs lsA Z C hb hS hV hl hst hls hok hsc hrt hcs
  exact lv_icmp_ge C.1 C.2.1 hd ht (fun q => kt q p e s m args below meth c R D base ad H locs lsA Z C hb hS hV hl (sd_o2 hst) hls hok hsc hrt hcs) (fun q => kf q p e s m args below meth c R D base ad H locs lsA Z C hb hS hV hl (sd_o2 hst) hls hok hsc hrt hcs)
theorem sw_if_gt {x : Int32} {off : Int} {tgt : Nat} (hd : decode (sd_by y) pc = .ok (.ifCond .gt off, 3)) (ht : (pc : Int) + off = (tgt : Int)) (kt : 0 < x → sd_Wq l sc y rm Q tgt ls r h cs ss) (kf : ¬ 0 < x → sd_Wq l sc y rm Q (pc + 3) ls r h cs ss) : sd_Wq l sc y rm Q pc ls (.inl x :: r) h cs ss := by
  intro p e s m args below meth c R D base ad H locs lsA Z C hb hS hV hl hst hls hok hsc hrt hcs
  exact lv_if_gt C.1 C.2.1 hd ht (fun q => kt q p e s m args below meth c R D base ad H locs lsA Z C hb hS hV hl (sd_o1 hst) hls hok hsc hrt hcs) (fun q => kf q p e s m args below meth c R D base ad H locs lsA Z C hb hS hV hl (sd_o1 hst) hls hok hsc hrt hcs)
theorem sw_icmp_gt {x z : Int32} {off : Int} {tgt : Nat} (hd : decode (sd_by y) pc = .ok (.if_icmp .gt off, 3)) (ht : (pc : Int) + off = (tgt : Int)) (kt : z < x → sd_Wq l sc y rm Q tgt ls r h cs ss) (kf : ¬ z < x → sd_Wq l sc y rm Q (pc + 3) ls r h cs ss) : sd_Wq l sc y rm Q pc ls (.inl z :: .inl x :: r) h cs ss := by
  intro p e s m args below meth c R D base ad H locs lsA Z C hb hS hV hl hst hls hok hsc hrt hcs
  exact lv_icmp_gt C.1 C.2.1 hd ht (fun q => kt q p e s m args below meth c R D base ad H locs lsA Z C hb hS hV hl (sd_o2 hst) hls hok hsc hrt hcs) (fun q => kf q p e s m args below meth c R D base ad H locs lsA Z C hb hS hV hl (sd_o2 hst) hls hok hsc hrt hcs)
theorem sw_if_le {x : Int32} {off : Int} {tgt : Nat} (hd : decode (sd_by y) pc = .ok (.ifCond .le off, 3)) (ht : (pc : Int) + off = (tgt : Int)) (kt : x ≤ 0 → sd_Wq l sc y rm Q tgt ls r h cs ss) (kf : ¬ x ≤ 0 → sd_Wq l sc y rm Q (pc + 3) ls r h cs ss) : sd_Wq l sc y rm Q pc ls (.inl x :: r) h cs ss := by
  intro p e s m args below meth c R D base ad H locs lsA Z C hb hS hV hl hst hls hok hsc hrt hcs
  exact lv_if_le C.1 C.2.1 hd ht (fun q => kt q p e s m args below meth c R D base ad H locs lsA Z C hb hS hV hl (sd_o1 hst) hls hok hsc hrt hcs) (fun q => kf q p e s m args below meth c R D base ad H locs lsA Z C hb hS hV hl (sd_o1 hst) hls hok hsc hrt hcs)
theorem sw_icmp_le {x z : Int32} {off : Int} {tgt : Nat} (hd : decode (sd_by y) pc = .ok (.if_icmp .le off, 3)) (ht : (pc : Int) + off = (tgt : Int)) (kt : x ≤ z → sd_Wq l sc y rm Q tgt ls r h cs ss) (kf : ¬ x ≤ z → sd_Wq l sc y rm Q (pc + 3) ls r h cs ss) : sd_Wq l sc y rm Q pc ls (.inl z :: .inl x :: r) h cs ss := by
  intro p e s m args below meth c R D base ad H locs lsA Z C hb hS hV hl hst hls hok hsc hrt hcs
  exact lv_icmp_le C.1 C.2.1 hd ht (fun q => kt q p e s m args below meth c R D base ad H locs lsA Z C hb hS hV hl (sd_o2 hst) hls hok hsc hrt hcs) (fun q => kf q p e s m args below meth c R D base ad H locs lsA Z C hb hS hV hl (sd_o2 hst) hls hok hsc hrt hcs)
theorem sw_goto {off : Int} {tgt : Nat} (hd : decode (sd_by y) pc = .ok (.goto off, 3)) (ht : (pc : Int) + off = (tgt : Int)) (k : sd_Wq l sc y rm Q tgt ls st h cs ss) : sd_Wq l sc y rm Q pc ls st h cs ss := by
  intro p e s m args below meth c R D base ad H locs lsA Z C hb hS hV hl hst hls hok hsc hrt hcs
  exact lv_goto C.1 C.2.1 hd ht (k p e s m args below meth c R D base ad H locs lsA Z C hb hS hV hl hst hls hok hsc hrt hcs)
theorem sw_ifnull {q : Nat × Option Nat} {off : Int} {tgt : Nat} (hd : decode (sd_by y) pc = .ok (.ifnull off, 3)) (ht : (pc : Int) + off = (tgt : Int)) (kt : q.2 = none → sd_Wq l sc y rm Q tgt ls r h cs ss) (kf : ∀ n, q.2 = some n → sd_Wq l sc y rm Q (pc + 3) ls r h cs ss) : sd_Wq l sc y rm Q pc ls (.inr (.inr q) :: r) h cs ss := by
  intro p e s m args below meth c R D base ad H locs lsA Z C hb hS hV hl hst hls hok hsc hrt hcs
  obtain ⟨t, _ | o⟩ := q
  · exact lv_ifnullN C.1 C.2.1 hd ht (kt rfl p e s m args below meth c R D base ad H locs lsA Z C hb hS hV hl (sd_o1 hst) hls hok hsc hrt hcs)
  · exact lv_ifnull C.1 C.2.1 hd (kf o rfl p e s m args below meth c R D base ad H locs lsA Z C hb hS hV hl (sd_o1 hst) hls hok hsc hrt hcs)
theorem sw_ifnonnull {q : Nat × Option Nat} {off : Int} {tgt : Nat} (hd : decode (sd_by y) pc = .ok (.ifnonnull off, 3)) (ht : (pc : Int) + off = (tgt : Int)) (kt : ∀ n, q.2 = some n → sd_Wq l sc y rm Q tgt ls r h cs ss) (kf : q.2 = none → sd_Wq l sc y rm Q (pc + 3) ls r h cs ss) : sd_Wq l sc y rm Q pc ls (.inr (.inr q) :: r) h cs ss := by
  intro p e s m args below meth c R D base ad H locs lsA Z C hb hS hV hl hst hls hok hsc hrt hcs
  obtain ⟨t, _ | o⟩ := q
  · exact lv_ifnonnullN C.1 C.2.1 hd (kf rfl p e s m args below meth c R D base ad H locs lsA Z C hb hS hV hl (sd_o1 hst) hls hok hsc hrt hcs)
  · exact lv_ifnonnull C.1 C.2.1 hd ht (kt o rfl p e s m args below meth c R D base ad H locs lsA Z C hb hS hV hl (sd_o1 hst) hls hok hsc hrt hcs)
end SW
end
section
/-! facts of the classes' tables, the heap under writes and makings -/
def sd_fy (T : Nat) : Nat → FieldType := match T with
  | 0 => sd_Y0
  | 1 => sd_Y1
  | 2 => sd_Y2
  | 3 => sd_Y3
  | 4 => sd_Y4
  | 5 => sd_Y5
  | 6 => sd_Y6
  | _ => sd_Y7
theorem sd_lt8 {P : Nat → Prop} (h0 : P 0) (h1 : P 1) (h2 : P 2) (h3 : P 3) (h4 : P 4) (h5 : P 5) (h6 : P 6) (h7 : P 7) : ∀ T, T < 8 → P T := by
  intro T hT
  rcases (show T = 0 ∨ T = 1 ∨ T = 2 ∨ T = 3 ∨ T = 4 ∨ T = 5 ∨ T = 6 ∨ T = 7 by omega) with rfl | rfl | rfl | rfl | rfl | rfl | rfl | rfl <;> assumption
theorem sd_cl8 : ∀ T, T < 8 → sd_cl[T]? = some (sd_cn T, sd_ft T, sd_tn T) := sd_lt8 rfl rfl rfl rfl rfl rfl rfl rfl
theorem sd_obA : ∀ T, T < sd_nT → sd_ob T = decide (T < 8) := by decide
theorem sd_ob8 {T : Nat} (h : T < 8) : sd_ob T = true := by
  rw [sd_obA T (by show T < 46; omega)]; simp [h]
theorem sd_ob0 {T : Nat} (h : 8 ≤ T) (h2 : T < sd_nT) : sd_ob T = false := by
  rw [sd_obA T h2]; simp [h]
set_option maxRecDepth 100000 in
theorem sd_uw0 : ∀ w ∈ u_ws (sd_cn 0) (sd_ft 0) (sd_tn 0), w ∈ lw_tbl := by decide +kernel
set_option maxRecDepth 100000 in
theorem sd_uw1 : ∀ w ∈ u_ws (sd_cn 1) (sd_ft 1) (sd_tn 1), w ∈ lw_tbl := by decide +kernel
set_option maxRecDepth 100000 in
theorem sd_uw2 : ∀ w ∈ u_ws (sd_cn 2) (sd_ft 2) (sd_tn 2), w ∈ lw_tbl := by decide +kernel
set_option maxRecDepth 100000 in
theorem sd_uw3 : ∀ w ∈ u_ws (sd_cn 3) (sd_ft 3) (sd_tn 3), w ∈ lw_tbl := by decide +kernel
set_option maxRecDepth 100000 in
theorem sd_uw4 : ∀ w ∈ u_ws (sd_cn 4) (sd_ft 4) (sd_tn 4), w ∈ lw_tbl := by decide +kernel
set_option maxRecDepth 100000 in
theorem sd_uw5 : ∀ w ∈ u_ws (sd_cn 5) (sd_ft 5) (sd_tn 5), w ∈ lw_tbl := by decide +kernel
set_option maxRecDepth 100000 in
theorem sd_uw6 : ∀ w ∈ u_ws (sd_cn 6) (sd_ft 6) (sd_tn 6), w ∈ lw_tbl := by decide +kernel
set_option maxRecDepth 100000 in
theorem sd_uw7 : ∀ w ∈ u_ws (sd_cn 7) (sd_ft 7) (sd_tn 7), w ∈ lw_tbl := by decide +kernel
theorem sd_uw : ∀ T, T < 8 → ∀ w ∈ u_ws (sd_cn T) (sd_ft T) (sd_tn T), w ∈ lw_tbl := sd_lt8 sd_uw0 sd_uw1 sd_uw2 sd_uw3 sd_uw4 sd_uw5 sd_uw6 sd_uw7
theorem sd_tyA : ∀ T, T < 8 → ∀ k, k < sd_tn T → parseFieldDescriptor ((sd_ft T) k).2.2.1 = some (sd_fy T k) := sd_lt8 (by decide +kernel) (by decide +kernel) (by decide +kernel) (by decide +kernel) (by decide +kernel) (by decide +kernel) (by decide +kernel) (by decide +kernel)
theorem sd_nmA : ∀ T, T < 8 → ∀ a, a < sd_tn T → ∀ b, b < sd_tn T → a ≠ b → ((sd_ft T) a).2.1 ≠ ((sd_ft T) b).2.1 := sd_lt8 (by decide +kernel) (by decide +kernel) (by decide +kernel) (by decide +kernel) (by decide +kernel) (by decide +kernel) (by decide +kernel) (by decide +kernel)
theorem sd_dcA : ∀ T, T < 8 → ∀ k, k < sd_tn T → ((sd_ft T) k).1 = sd_cn T := sd_lt8 (by decide +kernel) (by decide +kernel) (by decide +kernel) (by decide +kernel) (by decide +kernel) (by decide +kernel) (by decide +kernel) (by decide +kernel)
/-- a field's type by its code -/
def sd_fk (c : Nat) (t : FieldType) : Bool := match c, t with
  | 0, .int => true
  | 1, .long => true
  | 2, .boolean => true
  | _ + 3, .object _ => true
  | _ + 3, .array _ => true
  | _, _ => false
theorem sd_fkA : ∀ T, T < 8 → ∀ k, k < sd_tn T → sd_fk (sd_fc T k) (sd_fy T k) = true := sd_lt8 (by decide +kernel) (by decide +kernel) (by decide +kernel) (by decide +kernel) (by decide +kernel) (by decide +kernel) (by decide +kernel) (by decide +kernel)
/-- a value of the shape of a code -/
def sd_vc (c : Nat) (v : Value) : Prop := match c with
  | 0 => ∃ x, v = .int x
  | 1 => ∃ x, v = .long x
  | 2 => v = .int 0 ∨ v = .int 1
  | _ => v = .null ∨ ∃ a, v = .ref a
theorem sd_fits {c : Nat} {t : FieldType} {v : Value} (h : sd_fk c t = true) (hv : sd_vc c v) : narrow t v = v ∧ fits t v = true := by
  match c, t, h, hv with
  | 0, .int, _, hv => obtain ⟨x, rfl⟩ := hv; exact ⟨rfl, rfl⟩
  | 1, .long, _, hv => obtain ⟨x, rfl⟩ := hv; exact ⟨rfl, rfl⟩
  | 2, .boolean, _, hv => rcases hv with rfl | rfl <;> exact ⟨by decide, by decide⟩
  | _ + 3, .object _, _, hv => rcases hv with rfl | ⟨a, rfl⟩ <;> exact ⟨rfl, rfl⟩
  | _ + 3, .array _, _, hv => rcases hv with rfl | ⟨a, rfl⟩ <;> exact ⟨rfl, rfl⟩
theorem sd_fv_i {ad : sd_A} {h : sd_H} {T k i : Nat} (hc : sd_fc T i = 0 ∨ sd_fc T i = 2) : sd_fv ad h T k i = .int (h.1 T k i) := by
  unfold sd_fv; rcases hc with hc | hc <;> rw [hc]
theorem sd_fv_l {ad : sd_A} {h : sd_H} {T k i : Nat} (hc : sd_fc T i = 1) : sd_fv ad h T k i = .long (h.2.1 T k i) := by
  unfold sd_fv; rw [hc]
theorem sd_fv_r {ad : sd_A} {h : sd_H} {T k i t : Nat} (hc : sd_fc T i = t + 3) : sd_fv ad h T k i = va_rf ((h.2.2.1 T k i).map (ad t)) := by
  unfold sd_fv; rw [hc]
theorem sd_fv_congr {ad : sd_A} {h h' : sd_H} {T k i : Nat} (e1 : h'.1 T k i = h.1 T k i) (e2 : h'.2.1 T k i = h.2.1 T k i) (e3 : h'.2.2.1 T k i = h.2.2.1 T k i) : sd_fv ad h' T k i = sd_fv ad h T k i := by
  unfold sd_fv; rw [e1, e2, e3]
theorem sd_pi_ne {h : sd_H} {T k i : Nat} {v : Int32} {T' k' i' : Nat} (hn : ¬ (T' = T ∧ k' = k ∧ i' = i)) : (sd_pi h T k i v).1 T' k' i' = h.1 T' k' i' := by
  by_cases h1 : T' = T
  · subst h1
    by_cases h2 : k' = k
    · subst h2
      have h3 : ¬ i' = i := fun e => hn ⟨rfl, rfl, e⟩
      simp [sd_pi, h3]
    · simp [sd_pi, h2]
  · simp [sd_pi, h1]
theorem sd_pi_eq {h : sd_H} {T k i : Nat} {v : Int32} : (sd_pi h T k i v).1 T k i = v := by simp [sd_pi]
theorem sd_pl_ne {h : sd_H} {T k i : Nat} {v : Int64} {T' k' i' : Nat} (hn : ¬ (T' = T ∧ k' = k ∧ i' = i)) : (sd_pl h T k i v).2.1 T' k' i' = h.2.1 T' k' i' := by
  by_cases h1 : T' = T
  · subst h1
    by_cases h2 : k' = k
    · subst h2
      have h3 : ¬ i' = i := fun e => hn ⟨rfl, rfl, e⟩
      simp [sd_pl, h3]
    · simp [sd_pl, h2]
  · simp [sd_pl, h1]
theorem sd_pl_eq {h : sd_H} {T k i : Nat} {v : Int64} : (sd_pl h T k i v).2.1 T k i = v := by simp [sd_pl]
theorem sd_pr_ne {h : sd_H} {T k i : Nat} {v : Option Nat} {T' k' i' : Nat} (hn : ¬ (T' = T ∧ k' = k ∧ i' = i)) : (sd_pr h T k i v).2.2.1 T' k' i' = h.2.2.1 T' k' i' := by
  by_cases h1 : T' = T
  · subst h1
    by_cases h2 : k' = k
    · subst h2
      have h3 : ¬ i' = i := fun e => hn ⟨rfl, rfl, e⟩
      simp [sd_pr, h3]
    · simp [sd_pr, h2]
  · simp [sd_pr, h1]
theorem sd_pr_eq {h : sd_H} {T k i : Nat} {v : Option Nat} : (sd_pr h T k i v).2.2.1 T k i = v := by simp [sd_pr]
/-- one place of one cell changes -/
theorem sd_at_kept {D : va_G} {U : State} {ad : sd_A} {h h' : sd_H} {H H' : Heap} {T k : Nat} (a : sd_at D U ad h H T k) (hf : ∀ i, sd_fv ad h' T k i = sd_fv ad h T k i) (hq : H'[ad T k]? = H[ad T k]?) : sd_at D U ad h' H' T k := by
  have e : sd_fv ad h' T k = sd_fv ad h T k := funext hf
  unfold sd_at at a ⊢
  rw [e]
  cases hb : sd_ob T with
  | true => rw [hb] at a; exact t_OB.kept a hq
  | false => rw [hb] at a; obtain ⟨cA, a1, a2⟩ := a; exact ⟨cA, by rw [hq]; exact a1, a2⟩
theorem sd_S_put {D : va_G} {base : Nat} {ad : sd_A} {h h' : sd_H} {U : State} {H H' : Heap} {T k : Nat} (hS : sd_S D base ad h U H) (hT : T < sd_nT) (hk : k < h.2.2.2 T) (hc : h'.2.2.2 = h.2.2.2) (hf : ∀ T' k' i, ¬ (T' = T ∧ k' = k) → sd_fv ad h' T' k' i = sd_fv ad h T' k' i)
    (hr : ∀ T' k' i t : Nat, T' < sd_nT → k' < h.2.2.2 T' → sd_fc T' i = t + 3 → ∀ o : Nat, h'.2.2.1 T' k' i = some o → t < sd_nT ∧ o < h.2.2.2 t) (hz : H'.size = H.size) (ho : ∀ q : Nat, q ≠ ad T k → H'[q]? = H[q]?) (ha : sd_at D U ad h' H' T k) : sd_S D base ad h' U H' := by
  obtain ⟨s1, s2, s3, s4, s5⟩ := hS
  refine ⟨s1, by rw [hz]; exact s2, ?_, ?_, ?_⟩
  · intro T' k' h1 h2
    rw [hc] at h2
    obtain ⟨q1, q2, q3⟩ := s3 T' k' h1 h2
    refine ⟨?_, q2, by rw [hz]; exact q3⟩
    by_cases he : T' = T ∧ k' = k
    · obtain ⟨rfl, rfl⟩ := he; exact ha
    · exact sd_at_kept q1 (fun i => hf T' k' i he) (ho _ fun e => he (s4 T' k' T k h1 h2 hT hk e))
  · rw [hc]; exact s4
  · rw [hc]; exact hr
theorem sd_S.moved {D : va_G} {base : Nat} {ad : sd_A} {h : sd_H} {u U : State} {H : Heap} (hvm : u.vm.Alike U.vm) (hS : sd_S D base ad h u H) : sd_S D base ad h U H := by
  obtain ⟨s1, s2, s3, s4, s5⟩ := hS
  refine ⟨va_K.moved hvm s1, s2, fun T k h1 h2 => ?_, s4, s5⟩
  obtain ⟨q1, q2⟩ := s3 T k h1 h2
  refine ⟨?_, q2⟩
  unfold sd_at at q1 ⊢
  cases hb : sd_ob T with
  | true => rw [hb] at q1; exact q1
  | false => rw [hb] at q1; obtain ⟨cA, a1, a2, a3⟩ := q1; exact ⟨cA, a1, arrOfT_moved hvm a2, a3.moved hvm⟩
/-- a cell of an object, a cell of a row -/
theorem sd_S.ob {D : va_G} {base : Nat} {ad : sd_A} {h : sd_H} {U : State} {H : Heap} {T k : Nat} (hS : sd_S D base ad h U H) (hT : T < 8) (hk : k < h.2.2.2 T) : t_OB (ad T k) (D.1 T) (sd_tn T) (D.2 T) H (sd_fv ad h T k) := by
  have a := (hS.2.2.1 T k (by show T < 46; omega) hk).1
  unfold sd_at at a
  rw [sd_ob8 hT] at a
  exact a
theorem sd_S.ar {D : va_G} {base : Nat} {ad : sd_A} {h : sd_H} {U : State} {H : Heap} {T k : Nat} (hS : sd_S D base ad h U H) (h8 : 8 ≤ T) (hT : T < sd_nT) (hk : k < h.2.2.2 T) : ∃ cA : ClassId, H[ad T k]? = some (arrV cA (sd_tn T) (sd_fv ad h T k)) ∧ ArrOfT U cA (sd_aty (sd_fc T 0)) ∧ va_RA U cA (sd_aty (sd_fc T 0)) := by
  have a := (hS.2.2.1 T k hT hk).1
  unfold sd_at at a
  rw [sd_ob0 h8 hT] at a
  exact a
theorem sd_ar_at {D : va_G} {U : State} {ad : sd_A} {h : sd_H} {H : Heap} {T k : Nat} (h8 : 8 ≤ T) (hT : T < sd_nT) {cA : ClassId} (a1 : H[ad T k]? = some (arrV cA (sd_tn T) (sd_fv ad h T k))) (a2 : ArrOfT U cA (sd_aty (sd_fc T 0)) ∧ va_RA U cA (sd_aty (sd_fc T 0))) : sd_at D U ad h H T k := by
  unfold sd_at
  rw [sd_ob0 h8 hT]
  exact ⟨cA, a1, a2⟩
theorem sd_ob_at {D : va_G} {U : State} {ad : sd_A} {h : sd_H} {H : Heap} {T k : Nat} (h8 : T < 8) (a : t_OB (ad T k) (D.1 T) (sd_tn T) (D.2 T) H (sd_fv ad h T k)) : sd_at D U ad h H T k := by
  unfold sd_at
  rw [sd_ob8 h8]
  exact a
/-- what a place of a cell holds behind a write, by its code -/
theorem sd_up_i {ad : sd_A} {h : sd_H} {T k i : Nat} {v : Int32} (hc : sd_fc T i = 0 ∨ sd_fc T i = 2) : updV (sd_fv ad h T k) i (.int v) = sd_fv ad (sd_pi h T k i v) T k := by
  funext j
  unfold updV
  by_cases hj : j = i
  · subst hj; rw [if_pos rfl, sd_fv_i hc, sd_pi_eq]
  · rw [if_neg hj]; exact (sd_fv_congr (sd_pi_ne (fun q => hj q.2.2)) rfl rfl).symm
theorem sd_up_l {ad : sd_A} {h : sd_H} {T k i : Nat} {v : Int64} (hc : sd_fc T i = 1) : updV (sd_fv ad h T k) i (.long v) = sd_fv ad (sd_pl h T k i v) T k := by
  funext j
  unfold updV
  by_cases hj : j = i
  · subst hj; rw [if_pos rfl, sd_fv_l hc, sd_pl_eq]
  · rw [if_neg hj]; exact (sd_fv_congr (h := h) (h' := sd_pl h T k i v) rfl (sd_pl_ne (fun q => hj q.2.2)) rfl).symm
theorem sd_up_r {ad : sd_A} {h : sd_H} {T k i t : Nat} {v : Option Nat} (hc : sd_fc T i = t + 3) : updV (sd_fv ad h T k) i (va_rf (v.map (ad t))) = sd_fv ad (sd_pr h T k i v) T k := by
  funext j
  unfold updV
  by_cases hj : j = i
  · subst hj; rw [if_pos rfl, sd_fv_r hc, sd_pr_eq]
  · rw [if_neg hj]; exact (sd_fv_congr (h := h) (h' := sd_pr h T k i v) rfl rfl (sd_pr_ne (fun q => hj q.2.2))).symm
theorem sd_S_pi {D : va_G} {base : Nat} {ad : sd_A} {h : sd_H} {U : State} {H H' : Heap} {T k i : Nat} {v : Int32} (hS : sd_S D base ad h U H) (hT : T < sd_nT) (hk : k < h.2.2.2 T) (hz : H'.size = H.size) (ho : ∀ q : Nat, q ≠ ad T k → H'[q]? = H[q]?) (ha : sd_at D U ad (sd_pi h T k i v) H' T k) : sd_S D base ad (sd_pi h T k i v) U H' :=
  sd_S_put hS hT hk rfl (fun T' k' j hn => sd_fv_congr (sd_pi_ne fun q => hn ⟨q.1, q.2.1⟩) rfl rfl) hS.2.2.2.2 hz ho ha
theorem sd_S_pl {D : va_G} {base : Nat} {ad : sd_A} {h : sd_H} {U : State} {H H' : Heap} {T k i : Nat} {v : Int64} (hS : sd_S D base ad h U H) (hT : T < sd_nT) (hk : k < h.2.2.2 T) (hz : H'.size = H.size) (ho : ∀ q : Nat, q ≠ ad T k → H'[q]? = H[q]?) (ha : sd_at D U ad (sd_pl h T k i v) H' T k) : sd_S D base ad (sd_pl h T k i v) U H' :=
  sd_S_put hS hT hk rfl (fun T' k' j hn => sd_fv_congr rfl (sd_pl_ne fun q => hn ⟨q.1, q.2.1⟩) rfl) hS.2.2.2.2 hz ho ha
theorem sd_S_pr {D : va_G} {base : Nat} {ad : sd_A} {h : sd_H} {U : State} {H H' : Heap} {T k i t : Nat} {v : Option Nat} (hS : sd_S D base ad h U H) (hT : T < sd_nT) (hk : k < h.2.2.2 T) (hc : sd_fc T i = t + 3) (hv : ∀ o, v = some o → t < sd_nT ∧ o < h.2.2.2 t) (hz : H'.size = H.size) (ho : ∀ q : Nat, q ≠ ad T k → H'[q]? = H[q]?) (ha : sd_at D U ad (sd_pr h T k i v) H' T k) : sd_S D base ad (sd_pr h T k i v) U H' := by
  refine sd_S_put hS hT hk rfl (fun T' k' j hn => sd_fv_congr rfl rfl (sd_pr_ne fun q => hn ⟨q.1, q.2.1⟩)) (fun T' k' j t' h1 h2 h3 o h4 => ?_) hz ho ha
  by_cases he : T' = T ∧ k' = k ∧ j = i
  · obtain ⟨rfl, rfl, rfl⟩ := he
    rw [sd_pr_eq] at h4
    rw [hc] at h3
    rw [show t' = t by omega]
    exact hv o h4
  · rw [sd_pr_ne he] at h4
    exact hS.2.2.2.2 T' k' j t' h1 h2 h3 o h4
/-- a new cell -/
def sd_ad (ad : sd_A) (h : sd_H) (T a : Nat) : sd_A := fun T' k' => if T' = T ∧ k' = h.2.2.2 T then a else ad T' k'
theorem sd_ad_new {ad : sd_A} {h : sd_H} {T a : Nat} : sd_ad ad h T a T (h.2.2.2 T) = a := by simp [sd_ad]
theorem sd_ad_old {ad : sd_A} {h : sd_H} {T a T' k' : Nat} (hn : ¬ (T' = T ∧ k' = h.2.2.2 T)) : sd_ad ad h T a T' k' = ad T' k' := by simp [sd_ad, hn]
theorem sd_nw_old {h : sd_H} {T T' k' : Nat} (hn : ¬ (T' = T ∧ k' = h.2.2.2 T)) (i : Nat) : (sd_nw h T).1 T' k' i = h.1 T' k' i ∧ (sd_nw h T).2.1 T' k' i = h.2.1 T' k' i ∧ (sd_nw h T).2.2.1 T' k' i = h.2.2.1 T' k' i := by
  by_cases h1 : T' = T
  · subst h1
    have h2 : ¬ k' = h.2.2.2 T' := fun e => hn ⟨rfl, e⟩
    simp [sd_nw, h2]
  · simp [sd_nw, h1]
theorem sd_nw_new {h : sd_H} {T : Nat} (i : Nat) : (sd_nw h T).1 T (h.2.2.2 T) i = 0 ∧ (sd_nw h T).2.1 T (h.2.2.2 T) i = 0 ∧ (sd_nw h T).2.2.1 T (h.2.2.2 T) i = none := by simp [sd_nw]
theorem sd_nw_cnt (h : sd_H) (T T' : Nat) : (sd_nw h T).2.2.2 T' = if T' = T then h.2.2.2 T + 1 else h.2.2.2 T' := rfl
theorem sd_nw_ext {ad : sd_A} {h : sd_H} {T a : Nat} (hT : T < sd_nT) : sd_ext h ad (sd_nw h T) (sd_ad ad h T a) := by
  refine ⟨fun T' k' hk => ?_, fun T' => ?_⟩
  · refine sd_ad_old fun q => ?_
    obtain ⟨rfl, rfl⟩ := q
    rcases hk with hk | hk <;> omega
  · rw [sd_nw_cnt]; split
    · next e => subst e; omega
    · exact Nat.le_refl _
theorem sd_S_nw {D : va_G} {base : Nat} {ad : sd_A} {h : sd_H} {U : State} {H H' : Heap} {T : Nat} (hS : sd_S D base ad h U H) (hT : T < sd_nT) (hz : H'.size = H.size + 1) (ho : ∀ q : Nat, q < H.size → H'[q]? = H[q]?)
    (ha : sd_at D U (sd_ad ad h T H.size) (sd_nw h T) H' T (h.2.2.2 T)) : sd_S D base (sd_ad ad h T H.size) (sd_nw h T) U H' := by
  obtain ⟨s1, s2, s3, s4, s5⟩ := hS
  have cnt : ∀ T' k', k' < (sd_nw h T).2.2.2 T' → (T' = T ∧ k' = h.2.2.2 T) ∨ (¬ (T' = T ∧ k' = h.2.2.2 T) ∧ k' < h.2.2.2 T') := by
    intro T' k' hk
    rw [sd_nw_cnt] at hk
    by_cases he : T' = T ∧ k' = h.2.2.2 T
    · exact Or.inl he
    · refine Or.inr ⟨he, ?_⟩
      split at hk
      · next e => subst e; have : k' ≠ h.2.2.2 T' := fun q => he ⟨rfl, q⟩
                  omega
      · exact hk
  have wf : ∀ T' k' i t, T' < sd_nT → k' < (sd_nw h T).2.2.2 T' → sd_fc T' i = t + 3 → ∀ o, (sd_nw h T).2.2.1 T' k' i = some o → t < sd_nT ∧ o < h.2.2.2 t := by
    intro T' k' i t h1 h2 h3 o h4
    rcases cnt T' k' h2 with ⟨rfl, rfl⟩ | ⟨hn, hk⟩
    · rw [(sd_nw_new i).2.2] at h4; cases h4
    · rw [(sd_nw_old hn i).2.2] at h4
      exact s5 T' k' i t h1 hk h3 o h4
  refine ⟨s1, by omega, fun T' k' h1 h2 => ?_, fun T1 k1 T2 k2 h1 h2 h3 h4 he => ?_, fun T' k' i t h1 h2 h3 o h4 => ?_⟩
  · rcases cnt T' k' h2 with ⟨rfl, rfl⟩ | ⟨hn, hk⟩
    · refine ⟨ha, ?_, ?_⟩ <;> rw [sd_ad_new] <;> omega
    · obtain ⟨q1, q2, q3⟩ := s3 T' k' h1 hk
      rw [sd_ad_old hn]
      refine ⟨?_, q2, by omega⟩
      have hfv : sd_fv (sd_ad ad h T H.size) (sd_nw h T) T' k' = sd_fv ad h T' k' := by
        funext i
        obtain ⟨e1, e2, e3⟩ := sd_nw_old hn i
        unfold sd_fv
        split
        · rw [e1]
        · rw [e2]
        · rw [e1]
        · next t hc =>
          rw [e3]
          cases hr : h.2.2.1 T' k' i with
          | none => rfl
          | some o =>
            have hlt := (s5 T' k' i t h1 hk hc o hr).2
            show va_rf (some (sd_ad ad h T H.size t o)) = _
            rw [sd_ad_old fun q => by obtain ⟨rfl, rfl⟩ := q; omega]
            rfl
      unfold sd_at at q1 ⊢
      rw [hfv, sd_ad_old hn]
      cases hb : sd_ob T' with
      | true => rw [hb] at q1; exact t_OB.kept q1 (ho _ q3)
      | false => rw [hb] at q1; obtain ⟨cA, a1, a2⟩ := q1; exact ⟨cA, by rw [ho _ q3]; exact a1, a2⟩
  · rcases cnt T1 k1 h2 with ⟨rfl, rfl⟩ | ⟨hn1, hk1⟩
    · rcases cnt T2 k2 h4 with ⟨rfl, rfl⟩ | ⟨hn2, hk2⟩
      · exact ⟨rfl, rfl⟩
      · rw [sd_ad_new, sd_ad_old hn2] at he
        have := (s3 T2 k2 h3 hk2).2.2
        omega
    · rcases cnt T2 k2 h4 with ⟨rfl, rfl⟩ | ⟨hn2, hk2⟩
      · rw [sd_ad_new, sd_ad_old hn1] at he
        have := (s3 T1 k1 h1 hk1).2.2
        omega
      · rw [sd_ad_old hn1, sd_ad_old hn2] at he
        exact s4 T1 k1 T2 k2 h1 hk1 h3 hk2 he
  · obtain ⟨q1, q2⟩ := wf T' k' i t h1 h2 h3 o h4
    refine ⟨q1, ?_⟩
    rw [sd_nw_cnt]; split
    · next e => subst e; omega
    · exact q2
/-- the fields of a new object, the places of a new row -/
def sd_zv (c : Nat) : Value := match c with
  | 0 => .int 0
  | 1 => .long 0
  | 2 => .int 0
  | _ + 3 => .null
theorem sd_fv_new {ad : sd_A} {h : sd_H} {T i : Nat} : sd_fv ad (sd_nw h T) T (h.2.2.2 T) i = sd_zv (sd_fc T i) := by
  obtain ⟨e1, e2, e3⟩ := sd_nw_new (h := h) (T := T) i
  unfold sd_fv
  rw [e1, e2, e3]
  generalize sd_fc T i = c
  match c with
  | 0 => rfl
  | 1 => rfl
  | 2 => rfl
  | _ + 3 => rfl
theorem sd_dv {c : Nat} {t : FieldType} (h : sd_fk c t = true) : defaultValue t = sd_zv c := by
  match c, t, h with
  | 0, .int, _ => rfl
  | 1, .long, _ => rfl
  | 2, .boolean, _ => rfl
  | _ + 3, .object _, _ => rfl
  | _ + 3, .array _, _ => rfl
theorem sd_rv_ext {h h' : sd_H} {ad ad' : sd_A} (hx : sd_ext h ad h' ad') {v : sd_V} (hv : sd_ok h v) : sd_rv ad' v = sd_rv ad v := by
  rcases v with x | x | ⟨t, _ | k⟩
  · rfl
  · rfl
  · rfl
  · show va_rf (some (ad' t k)) = va_rf (some (ad t k))
    rw [hx.1 t k (hv t k rfl)]
theorem sd_ok_ext {h h' : sd_H} {ad ad' : sd_A} (hx : sd_ext h ad h' ad') {v : sd_V} (hv : sd_ok h v) : sd_ok h' v := by
  intro t k e
  rcases hv t k e with ⟨q1, q2⟩ | q
  · exact Or.inl ⟨q1, Nat.lt_of_lt_of_le q2 (hx.2 t)⟩
  · exact Or.inr q
theorem sd_map_ext {h h' : sd_H} {ad ad' : sd_A} (hx : sd_ext h ad h' ad') {st : List sd_V} (hv : ∀ v ∈ st, sd_ok h v) : st.map (sd_rv ad') = st.map (sd_rv ad) := List.map_congr_left fun v h => sd_rv_ext hx (hv v h)
theorem sd_al_ext {h h' : sd_H} {ad ad' : sd_A} (hx : sd_ext h ad h' ad') : ∀ (ls : List (Option sd_V)) (b : Nat), (∀ v, some v ∈ ls → sd_ok h v) → sd_al ad' b ls = sd_al ad b ls
  | [], _, _ => rfl
  | none :: t, b, hv => sd_al_ext hx t (b + 1) fun v h => hv v (List.mem_cons_of_mem _ h)
  | some u :: t, b, hv => by
    show (b, sd_rv ad' u) :: sd_al ad' (b + 1) t = (b, sd_rv ad u) :: sd_al ad (b + 1) t
    rw [sd_rv_ext hx (hv u List.mem_cons_self), sd_al_ext hx t (b + 1) fun v h => hv v (List.mem_cons_of_mem _ h)]
theorem sd_ext.rf (h : sd_H) (ad : sd_A) : sd_ext h ad h ad := ⟨fun _ _ _ => rfl, fun _ => Nat.le_refl _⟩
theorem sd_ext.tr {h1 h2 h3 : sd_H} {a1 a2 a3 : sd_A} (x : sd_ext h1 a1 h2 a2) (z : sd_ext h2 a2 h3 a3) : sd_ext h1 a1 h3 a3 := by
  refine ⟨fun T k hk => ?_, fun T => Nat.le_trans (x.2 T) (z.2 T)⟩
  rw [z.1 T k (by rcases hk with ⟨q1, q2⟩ | q; exact Or.inl ⟨q1, Nat.lt_of_lt_of_le q2 (x.2 T)⟩; exact Or.inr q), x.1 T k hk]
theorem sd_wd_mem {w : Nat} {q : Cond} (h : sd_wd w = some q) : q ∈ lw_tbl := List.mem_of_getElem? h
end
section
/-! fields, rows and makings over sd_Wq -/
section SC
variable {l : Launch} {sc : Option (Nat × (Nat → Int32))} {y : Nat} {rm : Bool} {Q : Option sd_V → sd_H → Prop} {pc : Nat} {ls : List (Option sd_V)} {st r : List sd_V} {h : sd_H} {cs ss : Nat}
theorem sd_okR {h : sd_H} {T k : Nat} (a : sd_ok h (.inr (.inr (T, some k)))) (hT : T < sd_nT) : k < h.2.2.2 T := by
  rcases a T k rfl with q | q
  · exact q.2
  · omega
/-- the value in a place of a cell, as the machine has it and as we have it -/
def sd_rd (h : sd_H) (T k i : Nat) : sd_V := match sd_fc T i with
  | 0 => .inl (h.1 T k i)
  | 1 => .inr (.inl (h.2.1 T k i))
  | 2 => .inl (h.1 T k i)
  | t + 3 => .inr (.inr (t, h.2.2.1 T k i))
theorem sd_rd_v {ad : sd_A} {h : sd_H} {T k i : Nat} : sd_fv ad h T k i = sd_rv ad (sd_rd h T k i) := by
  unfold sd_fv sd_rd
  generalize sd_fc T i = c
  match c with
  | 0 => rfl
  | 1 => rfl
  | 2 => rfl
  | _ + 3 => rfl
theorem sd_rd_ok {D : va_G} {base : Nat} {ad : sd_A} {h : sd_H} {U : State} {H : Heap} {T k i : Nat} (hS : sd_S D base ad h U H) (hT : T < sd_nT) (hk : k < h.2.2.2 T) : sd_ok h (sd_rd h T k i) := by
  intro t o e
  unfold sd_rd at e
  split at e
  · cases e
  · cases e
  · cases e
  · next t' hc =>
    have e1 : t' = t ∧ h.2.2.1 T k i = some o := by
      have := Sum.inr.inj (Sum.inr.inj e)
      exact ⟨congrArg Prod.fst this, congrArg Prod.snd this⟩
    obtain ⟨rfl, e2⟩ := e1
    exact Or.inl (hS.2.2.2.2 T k i t' hT hk hc o e2)
theorem sd_gf {p : Program} {e : Env} {R : Room} {s : State} {m : MethodId} {args : Array Value} {below : List Frame} {meth : Method} {c : Code} {H : Heap} {locs : List Loc} {cells slots : Nat} {Z : State → Prop} {D : va_G} {base : Nat} {ad : sd_A} {T k i ix : Nat} {lsA : Array Slot} {rest : List Value}
    (C : sd_C p s m args meth c R y) (hS : sd_S D base ad h s H) (hT : T < 8) (hk : k < h.2.2.2 T) (hi : i < sd_tn T) (hw : Cond.fieldLink (sd_nm y).cls ix (sd_cn T) ((sd_ft T) i).2.1 ((sd_ft T) i).2.2.1 ∈ lw_tbl) (hd : decode (sd_by y) pc = .ok (.getfield ix, 3))
    (kk : W p l e R s m args below meth c H locs cells slots Z (F0 m (pc + 3) lsA (sd_fv ad h T k i :: rest))) : W p l e R s m args below meth c H locs cells slots Z (F0 m pc lsA (.ref (ad T k) :: rest)) := by
  obtain ⟨hx, hb, -, hown, hts, -⟩ := C
  have hob := hS.ob hT hk
  have hP : va_P D sd_cl [(ad T k, .inr (T, (List.range (sd_tn T)).map (sd_fv ad h T k)))] H := by
    intro j q hj
    have hz : j < 1 := (List.getElem?_eq_some_iff.mp hj).1
    rw [show j = 0 by omega] at hj
    cases hj
    refine ⟨_, sd_cl8 T hT, hob.to fun j hj => ?_⟩
    simp [vp_V, hj]
  refine va_get (D := D) (cl := sd_cl) (ci := T) (C := sd_cn T) (T := sd_ft T) (N := sd_tn T) (ref := sd_cn T) hx hb hts (sd_uw T hT) hown hS.1 hP 0 rfl (sd_cl8 T hT) i hi (hts _ hw) (fun x hx => by rw [sd_dcA T hT i hi] at hx; exact hx) (v := sd_fv ad h T k i) ?_ hd kk
  simp [hi]
theorem sw_getf {T k i ix : Nat} (hd : decode (sd_by y) pc = .ok (.getfield ix, 3)) (hT : T < 8) (hi : i < sd_tn T) (hw : Cond.fieldLink (sd_nm y).cls ix (sd_cn T) ((sd_ft T) i).2.1 ((sd_ft T) i).2.2.1 ∈ lw_tbl)
    (kk : sd_Wq l sc y rm Q (pc + 3) ls (sd_rd h T k i :: r) h cs ss) : sd_Wq l sc y rm Q pc ls (.inr (.inr (T, some k)) :: r) h cs ss := by
  intro p e s m args below meth c R D base ad H locs lsA Z C hb hS hV hl hst hls hok hsc hrt hcs
  have hk := sd_okR (sd_o0 hst) (show T < 46 by omega)
  refine sd_gf C hS hT hk hi hw hd ?_
  rw [sd_rd_v]
  exact kk p e s m args below meth c R D base ad H locs lsA Z C hb hS hV hl (sd_oc (sd_rd_ok hS (show T < 46 by omega) hk) (sd_o1 hst)) hls hok hsc hrt hcs
/-- putfield, for any value -/
theorem sd_pf {p : Program} {e : Env} {R : Room} {s : State} {m : MethodId} {args : Array Value} {below : List Frame} {meth : Method} {c : Code} {H : Heap} {locs : List Loc} {cells slots : Nat} {Z : State → Prop} {D : va_G} {base : Nat} {ad : sd_A} {T k i ix : Nat} {lsA : Array Slot} {rest : List Value} {v : Value}
    (C : sd_C p s m args meth c R y) (hS : sd_S D base ad h s H) (hT : T < 8) (hk : k < h.2.2.2 T) (hi : i < sd_tn T) (hw : Cond.fieldLink (sd_nm y).cls ix (sd_cn T) ((sd_ft T) i).2.1 ((sd_ft T) i).2.2.1 ∈ lw_tbl) (hd : decode (sd_by y) pc = .ok (.putfield ix, 3))
    (hfin : ((sd_ft T) i).2.2.2 = false ∨ (((sd_ft T) i).2.2.2 = true ∧ (sd_nm y).name = "<init>" ∧ ((sd_ft T) i).1 = (sd_nm y).cls)) (hv : sd_vc (sd_fc T i) v)
    (kk : ∀ H' : Heap, t_OB (ad T k) (D.1 T) (sd_tn T) (D.2 T) H' (updV (sd_fv ad h T k) i v) → H'.size = H.size → (∀ q : Nat, q ≠ ad T k → H'[q]? = H[q]?) → W p l e R s m args below meth c H' (locs ++ [⟨ad T k, D.2 T i⟩]) cells slots Z (F0 m (pc + 3) lsA rest)) :
    W p l e R s m args below meth c H locs cells slots Z (F0 m pc lsA (v :: .ref (ad T k) :: rest)) := by
  obtain ⟨hx, hb, -, hown, hts, -, -, hnm, -⟩ := C
  have hin := sd_uw T hT
  have hK := hS.1
  have hc := sd_cl8 T hT
  have hap := va_apart (own := (sd_nm y).cls) hts hin (sd_fy T) (sd_tyA T hT) (sd_nmA T hT) hK hc
  obtain ⟨cell, q1, q2, q3, q4⟩ := hS.ob hT hk
  obtain ⟨hSl, hfc, kC, hkC, hkind⟩ := hK.1 T _ hc
  obtain ⟨cf, kf, fi, f, hif, hsl⟩ := hSl i hi
  have hsame : s.fieldFound? (sd_cn T) ((sd_ft T) i).2.1 ((sd_ft T) i).2.2.1 = some (cf, kf, fi, f) := by
    rw [← sd_dcA T hT i hi]; exact hif
  have hst := (u_facts hfc hkC (u_lays hts hin hi) hif).1
  obtain ⟨hn, hf⟩ := sd_fits (sd_fkA T hT i hi) hv
  have hlay := hts _ (hin _ (u_in_lay hi))
  rcases hfin with hfin | ⟨hfin, hini, hdecl⟩
  · unfold u_lay at hlay
    rw [if_neg (by rw [hfin]; decide)] at hlay
    have h6 := u_store hfc hkC hkind hlay hif (sd_tyA T hT i hi) hn hf
    refine W.putK hx hb (f := f) ⟨hown, hts _ hw, ⟨_, _, _, hsame⟩, hst⟩ (by rw [q2]; exact h6) q1 q3 (by rw [hsl]; exact k2_hasslot (q4 i hi)) rfl rfl hd fun H' e1 e2 e3 => ?_
    rw [hsl] at e1 ⊢
    exact kk H' ⟨_, e1, q2, q3, t_set q4 hap hi v⟩ e2 e3
  · unfold u_lay at hlay
    rw [if_pos hfin] at hlay
    have hcf : m.cls = cf := by
      obtain ⟨_, _, c', _, _, _, -, -, hf', -, -, -, hown2, -⟩ := Cond.laysFinal_spec hlay
      have e1 : c' = cf := by have := hif.symm.trans hf'; simp at this; exact this.1.symm
      rw [hdecl] at hown2
      rw [← e1]; exact Option.some.inj (hown.symm.trans hown2)
    have h6 := u_fits hfc hkC hkind (Or.inr hlay) hif (sd_tyA T hT i hi) hn hf
    refine W.putFinK hx hb hown (hts _ hw) hsame hst hcf (hnm.trans hini) (by rw [q2]; exact h6) q1 q3 (by rw [hsl]; exact k2_hasslot (q4 i hi)) rfl rfl hd fun H' e1 e2 e3 => ?_
    rw [hsl] at e1 ⊢
    exact kk H' ⟨_, e1, q2, q3, t_set q4 hap hi v⟩ e2 e3
theorem sd_rv_null (ad : sd_A) (q : Nat × Option Nat) : sd_rv ad (.inr (.inr q)) = .null ∨ ∃ a, sd_rv ad (.inr (.inr q)) = .ref a := by
  obtain ⟨t, _ | k⟩ := q
  · exact Or.inl rfl
  · exact Or.inr ⟨_, rfl⟩
abbrev sd_fin (y T i : Nat) : Prop := ((sd_ft T) i).2.2.2 = false ∨ (((sd_ft T) i).2.2.2 = true ∧ (sd_nm y).name = "<init>" ∧ ((sd_ft T) i).1 = (sd_nm y).cls)
theorem sw_putI {T k i ix : Nat} {x : Int32} (hd : decode (sd_by y) pc = .ok (.putfield ix, 3)) (hT : T < 8) (hi : i < sd_tn T) (hw : Cond.fieldLink (sd_nm y).cls ix (sd_cn T) ((sd_ft T) i).2.1 ((sd_ft T) i).2.2.1 ∈ lw_tbl) (hfin : sd_fin y T i) (hc : sd_fc T i = 0 ∨ (sd_fc T i = 2 ∧ (x = 0 ∨ x = 1)))
    (kk : sd_Wq l sc y rm Q (pc + 3) ls r (sd_pi h T k i x) cs ss) : sd_Wq l sc y rm Q pc ls (.inl x :: .inr (.inr (T, some k)) :: r) h cs ss := by
  intro p e s m args below meth c R D base ad H locs lsA Z C hb hS hV hl hst hls hok hsc hrt hcs
  have hT46 : T < sd_nT := show T < 46 by omega
  have hk := sd_okR (sd_o0 (sd_o1 hst)) hT46
  have hc' : sd_fc T i = 0 ∨ sd_fc T i = 2 := hc.imp id fun q => q.1
  refine sd_pf C hS hT hk hi hw hd hfin (v := .int x) ?_ fun H' e1 e2 e3 => ?_
  · rcases hc with q | ⟨q, rfl | rfl⟩ <;> rw [q]
    · exact ⟨x, rfl⟩
    · exact Or.inl rfl
    · exact Or.inr rfl
  · rw [sd_up_i hc'] at e1
    exact kk p e s m args below meth c R D base ad H' _ lsA Z C hb (sd_S_pi hS hT46 hk e2 e3 (sd_ob_at hT e1)) (hV.put e2 e3 (hS.2.2.1 T k hT46 hk).2.1) hl (sd_o2 hst) hls hok hsc hrt hcs
theorem sw_putL {T k i ix : Nat} {x : Int64} (hd : decode (sd_by y) pc = .ok (.putfield ix, 3)) (hT : T < 8) (hi : i < sd_tn T) (hw : Cond.fieldLink (sd_nm y).cls ix (sd_cn T) ((sd_ft T) i).2.1 ((sd_ft T) i).2.2.1 ∈ lw_tbl) (hfin : sd_fin y T i) (hc : sd_fc T i = 1)
    (kk : sd_Wq l sc y rm Q (pc + 3) ls r (sd_pl h T k i x) cs ss) : sd_Wq l sc y rm Q pc ls (.inr (.inl x) :: .inr (.inr (T, some k)) :: r) h cs ss := by
  intro p e s m args below meth c R D base ad H locs lsA Z C hb hS hV hl hst hls hok hsc hrt hcs
  have hT46 : T < sd_nT := show T < 46 by omega
  have hk := sd_okR (sd_o0 (sd_o1 hst)) hT46
  refine sd_pf C hS hT hk hi hw hd hfin (v := .long x) (by rw [hc]; exact ⟨x, rfl⟩) fun H' e1 e2 e3 => ?_
  rw [sd_up_l hc] at e1
  exact kk p e s m args below meth c R D base ad H' _ lsA Z C hb (sd_S_pl hS hT46 hk e2 e3 (sd_ob_at hT e1)) (hV.put e2 e3 (hS.2.2.1 T k hT46 hk).2.1) hl (sd_o2 hst) hls hok hsc hrt hcs
theorem sw_putR {T k i ix t : Nat} {q : Nat × Option Nat} (hd : decode (sd_by y) pc = .ok (.putfield ix, 3)) (hT : T < 8) (hi : i < sd_tn T) (hw : Cond.fieldLink (sd_nm y).cls ix (sd_cn T) ((sd_ft T) i).2.1 ((sd_ft T) i).2.2.1 ∈ lw_tbl) (hfin : sd_fin y T i) (hc : sd_fc T i = t + 3) (hq : q.1 = t) (ht : t < sd_nT) (hrm : rm = false)
    (kk : sd_Wq l sc y rm Q (pc + 3) ls r (sd_pr h T k i q.2) cs ss) : sd_Wq l sc y rm Q pc ls (.inr (.inr q) :: .inr (.inr (T, some k)) :: r) h cs ss := by
  intro p e s m args below meth c R D base ad H locs lsA Z C hb hS hV hl hst hls hok hsc hrt hcs
  have hT46 : T < sd_nT := show T < 46 by omega
  have hk := sd_okR (sd_o0 (sd_o1 hst)) hT46
  have hqv : ∀ o, q.2 = some o → t < sd_nT ∧ o < h.2.2.2 t := by
    intro o ho
    obtain ⟨q1, q2⟩ := q
    subst hq
    cases ho
    exact ⟨ht, sd_okR (sd_o0 hst) ht⟩
  refine sd_pf C hS hT hk hi hw hd hfin (v := sd_rv ad (.inr (.inr q))) (by rw [hc]; exact sd_rv_null ad q) fun H' e1 e2 e3 => ?_
  have e1 : t_OB (ad T k) (D.1 T) (sd_tn T) (D.2 T) H' (updV (sd_fv ad h T k) i (va_rf (q.2.map (ad t)))) := by rw [← hq]; exact e1
  rw [sd_up_r hc] at e1
  exact kk p e s m args below meth c R D base ad H' _ lsA Z C hb (sd_S_pr hS hT46 hk hc hqv e2 e3 (sd_ob_at hT e1)) (hV.put e2 e3 (hS.2.2.1 T k hT46 hk).2.1) hl (sd_o2 hst) hls (fun q => by rw [hrm] at q; cases q) hsc hrt hcs
/-! rows -/
theorem sd_aix {n N : Nat} (hn : n < N) (hN : N < 2 ^ 31) {j : Int32} (hj : j = nI n) : ¬ (j < 0 ∨ N ≤ j.toNatClampNeg) ∧ j.toNatClampNeg = n := by
  subst hj
  have hc := nI_clamp (n := n) (by omega)
  refine ⟨nI_in hn hN, hc⟩
theorem sd_tnA : ∀ T, T < sd_nT → sd_tn T < 1000 := by decide
theorem sd_fcA : ∀ T, T < sd_nT → 8 ≤ T → ∀ i, sd_fc T i = sd_fc T 0 := by
  intro T hT h8 i
  have hb := sd_ob0 h8 hT
  unfold sd_ob at hb
  unfold sd_fc
  cases hx : sd_nth sd_tg T with
  | none => rfl
  | some q =>
    rw [hx] at hb
    obtain ⟨b, n, l⟩ := q
    dsimp only at hb
    subst hb
    cases l <;> rfl
theorem sw_ald {T k n : Nat} {j : Int32} {ins : Instr} (hi : (ins = .iaload ∧ sd_fc T 0 = 0) ∨ (ins = .laload ∧ sd_fc T 0 = 1) ∨ (ins = .baload ∧ sd_fc T 0 = 2) ∨ (ins = .aaload ∧ 3 ≤ sd_fc T 0)) (hd : decode (sd_by y) pc = .ok (ins, 1)) (h8 : 8 ≤ T) (hT : T < sd_nT) (hn : n < sd_tn T) (hj : j = nI n)
    (kk : sd_Wq l sc y rm Q (pc + 1) ls (sd_rd h T k n :: r) h cs ss) : sd_Wq l sc y rm Q pc ls (.inl j :: .inr (.inr (T, some k)) :: r) h cs ss := by
  intro p e s m args below meth c R D base ad H locs lsA Z C hb hS hV hl hst hls hok hsc hrt hcs
  have hk := sd_okR (sd_o0 (sd_o1 hst)) hT
  obtain ⟨cA, a1, a2, a3⟩ := hS.ar h8 hT hk
  obtain ⟨hin, hcl⟩ := sd_aix hn (Nat.lt_trans (sd_tnA T hT) (by decide)) hj
  have hin : ¬ (j < 0 ∨ (arrV cA (sd_tn T) (sd_fv ad h T k)).slots.size ≤ j.toNatClampNeg) := by rw [arrV_size]; exact hin
  have hv : (arrV cA (sd_tn T) (sd_fv ad h T k)).slots[j.toNatClampNeg]? = some (sd_fv ad h T k n) := by rw [hcl]; exact arrV_read cA _ hn
  have w := kk p e s m args below meth c R D base ad H locs lsA Z C hb hS hV hl (sd_oc (sd_rd_ok hS hT hk) (sd_o2 hst)) hls hok hsc hrt hcs
  have w : W p l e R s m args below meth c H locs cs ss Z (F0 m (pc + 1) lsA (sd_fv ad h T k n :: r.map (sd_rv ad))) := by rw [sd_rd_v]; exact w
  have ha := a2 (sd_tn T) (sd_fv ad h T k)
  rcases hi with ⟨rfl, hf⟩ | ⟨rfl, hf⟩ | ⟨rfl, hf⟩ | ⟨rfl, hf⟩
  · rw [hf] at ha
    exact W.iald C.1 C.2.1 a1 ha (fun q => by cases q) hin hv rfl rfl hd w
  · rw [hf] at ha
    exact W.lald C.1 C.2.1 a1 ha (fun q => by cases q) hin hv rfl rfl hd w
  · rw [hf] at ha
    exact W.zald C.1 C.2.1 a1 ha (fun q => by cases q) hin hv rfl rfl hd w
  · obtain ⟨t, ht⟩ : ∃ t, sd_fc T 0 = t + 3 := ⟨sd_fc T 0 - 3, by omega⟩
    rw [ht] at ha
    exact W.aald C.1 C.2.1 a1 ha rfl (fun q => by cases q) hin hv rfl rfl hd w
theorem sw_astI {T k n : Nat} {j x : Int32} {ins : Instr} (hi : (ins = .iastore ∧ sd_fc T 0 = 0) ∨ (ins = .bastore ∧ sd_fc T 0 = 2 ∧ (x = 0 ∨ x = 1))) (hd : decode (sd_by y) pc = .ok (ins, 1)) (h8 : 8 ≤ T) (hT : T < sd_nT) (hn : n < sd_tn T) (hj : j = nI n)
    (kk : sd_Wq l sc y rm Q (pc + 1) ls r (sd_pi h T k n x) cs ss) : sd_Wq l sc y rm Q pc ls (.inl x :: .inl j :: .inr (.inr (T, some k)) :: r) h cs ss := by
  intro p e s m args below meth c R D base ad H locs lsA Z C hb hS hV hl hst hls hok hsc hrt hcs
  have hk := sd_okR (sd_o0 (sd_o2 hst)) hT
  obtain ⟨cA, a1, a2, a3⟩ := hS.ar h8 hT hk
  obtain ⟨hin, hcl⟩ := sd_aix hn (Nat.lt_trans (sd_tnA T hT) (by decide)) hj
  have hin : ¬ (j < 0 ∨ (arrV cA (sd_tn T) (sd_fv ad h T k)).slots.size ≤ j.toNatClampNeg) := by rw [arrV_size]; exact hin
  have ha := a2 (sd_tn T) (sd_fv ad h T k)
  have hfn : sd_fc T n = 0 ∨ sd_fc T n = 2 := by rw [sd_fcA T hT h8 n]; exact hi.imp (fun q => q.2) fun q => q.2.1
  have fin : ∀ H' : Heap, H'[ad T k]? = some ((arrV cA (sd_tn T) (sd_fv ad h T k)).setSlot j.toNatClampNeg (.int x)) → H'.size = H.size → (∀ q, q ≠ ad T k → H'[q]? = H[q]?) → W p l e R s m args below meth c H' (locs ++ [⟨ad T k, j.toNatClampNeg⟩]) cs ss Z (F0 m (pc + 1) lsA (r.map (sd_rv ad))) := by
    intro H' e1 e2 e3
    rw [hcl, arrV_store, sd_up_i hfn] at e1
    exact kk p e s m args below meth c R D base ad H' _ lsA Z C hb (sd_S_pi hS hT hk e2 e3 (sd_ar_at h8 hT e1 ⟨a2, a3⟩)) (hV.put e2 e3 (hS.2.2.1 T k hT hk).2.1) hl (sd_o3 hst) hls hok hsc hrt hcs
  rcases hi with ⟨rfl, hf⟩ | ⟨rfl, hf, hx⟩
  · rw [hf] at ha
    exact W.iast C.1 C.2.1 a1 ha (fun q => by cases q) hin rfl rfl hd fin
  · rw [hf] at ha
    refine W.zast C.1 C.2.1 a1 ha (fun q => by cases q) hin rfl rfl hd fun H' e1 => fin H' ?_
    have : narrow .boolean (.int x) = .int x := by rcases hx with rfl | rfl <;> decide
    rw [this] at e1
    exact e1
theorem sw_astL {T k n : Nat} {j : Int32} {x : Int64} (hf : sd_fc T 0 = 1) (hd : decode (sd_by y) pc = .ok (.lastore, 1)) (h8 : 8 ≤ T) (hT : T < sd_nT) (hn : n < sd_tn T) (hj : j = nI n)
    (kk : sd_Wq l sc y rm Q (pc + 1) ls r (sd_pl h T k n x) cs ss) : sd_Wq l sc y rm Q pc ls (.inr (.inl x) :: .inl j :: .inr (.inr (T, some k)) :: r) h cs ss := by
  intro p e s m args below meth c R D base ad H locs lsA Z C hb hS hV hl hst hls hok hsc hrt hcs
  have hk := sd_okR (sd_o0 (sd_o2 hst)) hT
  obtain ⟨cA, a1, a2, a3⟩ := hS.ar h8 hT hk
  obtain ⟨hin, hcl⟩ := sd_aix hn (Nat.lt_trans (sd_tnA T hT) (by decide)) hj
  have hin : ¬ (j < 0 ∨ (arrV cA (sd_tn T) (sd_fv ad h T k)).slots.size ≤ j.toNatClampNeg) := by rw [arrV_size]; exact hin
  have ha := a2 (sd_tn T) (sd_fv ad h T k)
  have hfn : sd_fc T n = 1 := by rw [sd_fcA T hT h8 n]; exact hf
  rw [hf] at ha
  refine W.last C.1 C.2.1 a1 ha (fun q => by cases q) hin rfl rfl hd fun H' e1 e2 e3 => ?_
  rw [hcl, arrV_store, sd_up_l hfn] at e1
  exact kk p e s m args below meth c R D base ad H' _ lsA Z C hb (sd_S_pl hS hT hk e2 e3 (sd_ar_at h8 hT e1 ⟨a2, a3⟩)) (hV.put e2 e3 (hS.2.2.1 T k hT hk).2.1) hl (sd_o3 hst) hls hok hsc hrt hcs
/-- a row of objects takes an object -/
theorem sw_astR {T k n t o : Nat} {j : Int32} (hf : sd_fc T 0 = t + 3) (ht : t < 8) (hd : decode (sd_by y) pc = .ok (.aastore, 1)) (h8 : 8 ≤ T) (hT : T < sd_nT) (hn : n < sd_tn T) (hj : j = nI n)
    (kk : sd_Wq l sc y rm Q (pc + 1) ls r (sd_pr h T k n (some o)) cs ss) : sd_Wq l sc y rm Q pc ls (.inr (.inr (t, some o)) :: .inl j :: .inr (.inr (T, some k)) :: r) h cs ss := by
  intro p e s m args below meth c R D base ad H locs lsA Z C hb hS hV hl hst hls hok hsc hrt hcs
  have hk := sd_okR (sd_o0 (sd_o2 hst)) hT
  have ht46 : t < sd_nT := show t < 46 by omega
  have hko := sd_okR (sd_o0 hst) ht46
  obtain ⟨cA, a1, a2, a3⟩ := hS.ar h8 hT hk
  obtain ⟨hin, hcl⟩ := sd_aix hn (Nat.lt_trans (sd_tnA T hT) (by decide)) hj
  have hfn : sd_fc T n = t + 3 := by rw [sd_fcA T hT h8 n]; exact hf
  have hin2 : ¬ j < 0 ∧ j.toNatClampNeg < (arrV cA (sd_tn T) (sd_fv ad h T k)).slots.size := by
    rw [arrV_size]; exact ⟨fun q => hin (Or.inl q), Nat.not_le.mp fun q => hin (Or.inr q)⟩
  rw [hf] at a3
  obtain ⟨kA, comp, k1, k2, k3, -⟩ := a3
  obtain ⟨cellV, g1, g2, g3, -⟩ := hS.ob ht hko
  have hcls := (hS.1.1 t _ (sd_cl8 t ht)).2
  have hcomp : comp = D.1 t := Option.some.inj (k3.symm.trans hcls.1)
  subst hcomp
  obtain ⟨kC, hkC, -⟩ := hcls.2
  refine W.aast C.1 C.2.1 a1 (fun q h => by cases h) (fun h => by cases h) k1 k2 rfl hkC hin2 g1 (fun q h => by rw [g3] at h; cases h) (by rw [g2]; exact hkC) (by rw [g2]; exact va_assign hcls) rfl rfl hd fun H' e1 e2 e3 => ?_
  have e1 : H'[ad T k]? = some ((arrV cA (sd_tn T) (sd_fv ad h T k)).setSlot j.toNatClampNeg (va_rf ((some o).map (ad t)))) := e1
  rw [hcl, arrV_store, sd_up_r hfn] at e1
  obtain ⟨cB, b1, b2⟩ := hS.ar h8 hT hk
  have hcc : cB = cA := by
    have := a1.symm.trans b1
    exact (congrArg Cell.cls (Option.some.inj this)).symm
  subst hcc
  exact kk p e s m args below meth c R D base ad H' _ lsA Z C hb (sd_S_pr hS hT hk hfn (fun o' ho => by cases ho; exact ⟨ht46, hko⟩) e2 e3 (sd_ar_at h8 hT e1 b2)) (hV.put e2 e3 (hS.2.2.1 T k hT hk).2.1) hl (sd_o3 hst) hls (fun q T' k' i' h1 h2 => by
    have hh := hok q T' k' i' h1 h2
    have hne : ¬ (T' = T ∧ k' = k ∧ i' = n) := fun z => by omega
    rw [sd_pr_ne hne]
    exact hh) hsc hrt hcs
/-! the script -/
theorem sw_slen {L : Nat} {xs : Nat → Int32} (hsc0 : sc = some (L, xs)) (hd : decode (sd_by y) pc = .ok (.arraylength, 1)) (kk : sd_Wq l sc y rm Q (pc + 1) ls (.inl (nI L) :: r) h cs ss) : sd_Wq l sc y rm Q pc ls (.inr (.inr (sd_nT, some 0)) :: r) h cs ss := by
  intro p e s m args below meth c R D base ad H locs lsA Z C hb hS hV hl hst hls hok hsc hrt hcs
  obtain ⟨hX, hlt⟩ := hsc L xs hsc0
  exact va_slen (A := fun q => base ≤ q) C.1 C.2.1 hX (Nat.lt_of_lt_of_le hlt hb) (Nat.not_le.mpr hlt) hV hd (kk p e s m args below meth c R D base ad H locs lsA Z C hb hS hV hl (sd_oc (sd_oi _ _) (sd_o1 hst)) hls hok hsc hrt hcs)
theorem sw_sld {L n : Nat} {xs : Nat → Int32} {j : Int32} (hsc0 : sc = some (L, xs)) (hn : n < L) (hL : L < 2 ^ 31) (hj : j = nI n) (hd : decode (sd_by y) pc = .ok (.iaload, 1)) (kk : sd_Wq l sc y rm Q (pc + 1) ls (.inl (xs n) :: r) h cs ss) : sd_Wq l sc y rm Q pc ls (.inl j :: .inr (.inr (sd_nT, some 0)) :: r) h cs ss := by
  intro p e s m args below meth c R D base ad H locs lsA Z C hb hS hV hl hst hls hok hsc hrt hcs
  obtain ⟨hX, hlt⟩ := hsc L xs hsc0
  obtain ⟨hin, hcl⟩ := sd_aix hn hL hj
  refine va_sld (A := fun q => base ≤ q) C.1 C.2.1 hX (Nat.lt_of_lt_of_le hlt hb) (Nat.not_le.mpr hlt) hV hin hd ?_
  rw [hcl]
  exact kk p e s m args below meth c R D base ad H locs lsA Z C hb hS hV hl (sd_oc (sd_oi _ _) (sd_o2 hst)) hls hok hsc hrt hcs
end SC
end
section
theorem sd_caA_b0 : ∀ y, 0 ≤ y → y < 16 → sd_ca y = true := fun y h0 h1 => ((Nat.lt_or_ge y 8).elim (fun h => ((Nat.lt_or_ge y 4).elim (fun h => ((Nat.lt_or_ge y 2).elim (fun h => ((Nat.lt_or_ge y 1).elim (fun h => (by rw [show y = 0 by omega]; exact sd_ca_0)) (fun h => (by rw [show y = 1 by omega]; exact sd_ca_1)))) (fun h => ((Nat.lt_or_ge y 3).elim (fun h => (by rw [show y = 2 by omega]; exact sd_ca_2)) (fun h => (by rw [show y = 3 by omega]; exact sd_ca_3)))))) (fun h => ((Nat.lt_or_ge y 6).elim (fun h => ((Nat.lt_or_ge y 5).elim (fun h => (by rw [show y = 4 by omega]; exact sd_ca_4)) (fun h => (by rw [show y = 5 by omega]; exact sd_ca_5)))) (fun h => ((Nat.lt_or_ge y 7).elim (fun h => (by rw [show y = 6 by omega]; exact sd_ca_6)) (fun h => (by rw [show y = 7 by omega]; exact sd_ca_7)))))))) (fun h => ((Nat.lt_or_ge y 12).elim (fun h => ((Nat.lt_or_ge y 10).elim (fun h => ((Nat.lt_or_ge y 9).elim (fun h => (by rw [show y = 8 by omega]; exact sd_ca_8)) (fun h => (by rw [show y = 9 by omega]; exact sd_ca_9)))) (fun h => ((Nat.lt_or_ge y 11).elim (fun h => (by rw [show y = 10 by omega]; exact sd_ca_10)) (fun h => (by rw [show y = 11 by omega]; exact sd_ca_11)))))) (fun h => ((Nat.lt_or_ge y 14).elim (fun h => ((Nat.lt_or_ge y 13).elim (fun h => (by rw [show y = 12 by omega]; exact sd_ca_12)) (fun h => (by rw [show y = 13 by omega]; exact sd_ca_13)))) (fun h => ((Nat.lt_or_ge y 15).elim (fun h => (by rw [show y = 14 by omega]; exact sd_ca_14)) (fun h => (by rw [show y = 15 by omega]; exact sd_ca_15)))))))))
theorem sd_caA_b16 : ∀ y, 16 ≤ y → y < 32 → sd_ca y = true := fun y h0 h1 => ((Nat.lt_or_ge y 24).elim (fun h => ((Nat.lt_or_ge y 20).elim (fun h => ((Nat.lt_or_ge y 18).elim (fun h => ((Nat.lt_or_ge y 17).elim (fun h => (by rw [show y = 16 by omega]; exact sd_ca_16)) (fun h => (by rw [show y = 17 by omega]; exact sd_ca_17)))) (fun h => ((Nat.lt_or_ge y 19).elim (fun h => (by rw [show y = 18 by omega]; exact sd_ca_18)) (fun h => (by rw [show y = 19 by omega]; exact sd_ca_19)))))) (fun h => ((Nat.lt_or_ge y 22).elim (fun h => ((Nat.lt_or_ge y 21).elim (fun h => (by rw [show y = 20 by omega]; exact sd_ca_20)) (fun h => (by rw [show y = 21 by omega]; exact sd_ca_21)))) (fun h => ((Nat.lt_or_ge y 23).elim (fun h => (by rw [show y = 22 by omega]; exact sd_ca_22)) (fun h => (by rw [show y = 23 by omega]; exact sd_ca_23)))))))) (fun h => ((Nat.lt_or_ge y 28).elim (fun h => ((Nat.lt_or_ge y 26).elim (fun h => ((Nat.lt_or_ge y 25).elim (fun h => (by rw [show y = 24 by omega]; exact sd_ca_24)) (fun h => (by rw [show y = 25 by omega]; exact sd_ca_25)))) (fun h => ((Nat.lt_or_ge y 27).elim (fun h => (by rw [show y = 26 by omega]; exact sd_ca_26)) (fun h => (by rw [show y = 27 by omega]; exact sd_ca_27)))))) (fun h => ((Nat.lt_or_ge y 30).elim (fun h => ((Nat.lt_or_ge y 29).elim (fun h => (by rw [show y = 28 by omega]; exact sd_ca_28)) (fun h => (by rw [show y = 29 by omega]; exact sd_ca_29)))) (fun h => ((Nat.lt_or_ge y 31).elim (fun h => (by rw [show y = 30 by omega]; exact sd_ca_30)) (fun h => (by rw [show y = 31 by omega]; exact sd_ca_31)))))))))
theorem sd_caA_b32 : ∀ y, 32 ≤ y → y < 48 → sd_ca y = true := fun y h0 h1 => ((Nat.lt_or_ge y 40).elim (fun h => ((Nat.lt_or_ge y 36).elim (fun h => ((Nat.lt_or_ge y 34).elim (fun h => ((Nat.lt_or_ge y 33).elim (fun h => (by rw [show y = 32 by omega]; exact sd_ca_32)) (fun h => (by rw [show y = 33 by omega]; exact sd_ca_33)))) (fun h => ((Nat.lt_or_ge y 35).elim (fun h => (by rw [show y = 34 by omega]; exact sd_ca_34)) (fun h => (by rw [show y = 35 by omega]; exact sd_ca_35)))))) (fun h => ((Nat.lt_or_ge y 38).elim (fun h => ((Nat.lt_or_ge y 37).elim (fun h => (by rw [show y = 36 by omega]; exact sd_ca_36)) (fun h => (by rw [show y = 37 by omega]; exact sd_ca_37)))) (fun h => ((Nat.lt_or_ge y 39).elim (fun h => (by rw [show y = 38 by omega]; exact sd_ca_38)) (fun h => (by rw [show y = 39 by omega]; exact sd_ca_39)))))))) (fun h => ((Nat.lt_or_ge y 44).elim (fun h => ((Nat.lt_or_ge y 42).elim (fun h => ((Nat.lt_or_ge y 41).elim (fun h => (by rw [show y = 40 by omega]; exact sd_ca_40)) (fun h => (by rw [show y = 41 by omega]; exact sd_ca_41)))) (fun h => ((Nat.lt_or_ge y 43).elim (fun h => (by rw [show y = 42 by omega]; exact sd_ca_42)) (fun h => (by rw [show y = 43 by omega]; exact sd_ca_43)))))) (fun h => ((Nat.lt_or_ge y 46).elim (fun h => ((Nat.lt_or_ge y 45).elim (fun h => (by rw [show y = 44 by omega]; exact sd_ca_44)) (fun h => (by rw [show y = 45 by omega]; exact sd_ca_45)))) (fun h => ((Nat.lt_or_ge y 47).elim (fun h => (by rw [show y = 46 by omega]; exact sd_ca_46)) (fun h => (by rw [show y = 47 by omega]; exact sd_ca_47)))))))))
theorem sd_caA_b48 : ∀ y, 48 ≤ y → y < 64 → sd_ca y = true := fun y h0 h1 => ((Nat.lt_or_ge y 56).elim (fun h => ((Nat.lt_or_ge y 52).elim (fun h => ((Nat.lt_or_ge y 50).elim (fun h => ((Nat.lt_or_ge y 49).elim (fun h => (by rw [show y = 48 by omega]; exact sd_ca_48)) (fun h => (by rw [show y = 49 by omega]; exact sd_ca_49)))) (fun h => ((Nat.lt_or_ge y 51).elim (fun h => (by rw [show y = 50 by omega]; exact sd_ca_50)) (fun h => (by rw [show y = 51 by omega]; exact sd_ca_51)))))) (fun h => ((Nat.lt_or_ge y 54).elim (fun h => ((Nat.lt_or_ge y 53).elim (fun h => (by rw [show y = 52 by omega]; exact sd_ca_52)) (fun h => (by rw [show y = 53 by omega]; exact sd_ca_53)))) (fun h => ((Nat.lt_or_ge y 55).elim (fun h => (by rw [show y = 54 by omega]; exact sd_ca_54)) (fun h => (by rw [show y = 55 by omega]; exact sd_ca_55)))))))) (fun h => ((Nat.lt_or_ge y 60).elim (fun h => ((Nat.lt_or_ge y 58).elim (fun h => ((Nat.lt_or_ge y 57).elim (fun h => (by rw [show y = 56 by omega]; exact sd_ca_56)) (fun h => (by rw [show y = 57 by omega]; exact sd_ca_57)))) (fun h => ((Nat.lt_or_ge y 59).elim (fun h => (by rw [show y = 58 by omega]; exact sd_ca_58)) (fun h => (by rw [show y = 59 by omega]; exact sd_ca_59)))))) (fun h => ((Nat.lt_or_ge y 62).elim (fun h => ((Nat.lt_or_ge y 61).elim (fun h => (by rw [show y = 60 by omega]; exact sd_ca_60)) (fun h => (by rw [show y = 61 by omega]; exact sd_ca_61)))) (fun h => ((Nat.lt_or_ge y 63).elim (fun h => (by rw [show y = 62 by omega]; exact sd_ca_62)) (fun h => (by rw [show y = 63 by omega]; exact sd_ca_63)))))))))
theorem sd_caA_b64 : ∀ y, 64 ≤ y → y < 80 → sd_ca y = true := fun y h0 h1 => ((Nat.lt_or_ge y 72).elim (fun h => ((Nat.lt_or_ge y 68).elim (fun h => ((Nat.lt_or_ge y 66).elim (fun h => ((Nat.lt_or_ge y 65).elim (fun h => (by rw [show y = 64 by omega]; exact sd_ca_64)) (fun h => (by rw [show y = 65 by omega]; exact sd_ca_65)))) (fun h => ((Nat.lt_or_ge y 67).elim (fun h => (by rw [show y = 66 by omega]; exact sd_ca_66)) (fun h => (by rw [show y = 67 by omega]; exact sd_ca_67)))))) (fun h => ((Nat.lt_or_ge y 70).elim (fun h => ((Nat.lt_or_ge y 69).elim (fun h => (by rw [show y = 68 by omega]; exact sd_ca_68)) (fun h => (by rw [show y = 69 by omega]; exact sd_ca_69)))) (fun h => ((Nat.lt_or_ge y 71).elim (fun h => (by rw [show y = 70 by omega]; exact sd_ca_70)) (fun h => (by rw [show y = 71 by omega]; exact sd_ca_71)))))))) (fun h => ((Nat.lt_or_ge y 76).elim (fun h => ((Nat.lt_or_ge y 74).elim (fun h => ((Nat.lt_or_ge y 73).elim (fun h => (by rw [show y = 72 by omega]; exact sd_ca_72)) (fun h => (by rw [show y = 73 by omega]; exact sd_ca_73)))) (fun h => ((Nat.lt_or_ge y 75).elim (fun h => (by rw [show y = 74 by omega]; exact sd_ca_74)) (fun h => (by rw [show y = 75 by omega]; exact sd_ca_75)))))) (fun h => ((Nat.lt_or_ge y 78).elim (fun h => ((Nat.lt_or_ge y 77).elim (fun h => (by rw [show y = 76 by omega]; exact sd_ca_76)) (fun h => (by rw [show y = 77 by omega]; exact sd_ca_77)))) (fun h => ((Nat.lt_or_ge y 79).elim (fun h => (by rw [show y = 78 by omega]; exact sd_ca_78)) (fun h => (by rw [show y = 79 by omega]; exact sd_ca_79)))))))))
theorem sd_caA_b80 : ∀ y, 80 ≤ y → y < 96 → sd_ca y = true := fun y h0 h1 => ((Nat.lt_or_ge y 88).elim (fun h => ((Nat.lt_or_ge y 84).elim (fun h => ((Nat.lt_or_ge y 82).elim (fun h => ((Nat.lt_or_ge y 81).elim (fun h => (by rw [show y = 80 by omega]; exact sd_ca_80)) (fun h => (by rw [show y = 81 by omega]; exact sd_ca_81)))) (fun h => ((Nat.lt_or_ge y 83).elim (fun h => (by rw [show y = 82 by omega]; exact sd_ca_82)) (fun h => (by rw [show y = 83 by omega]; exact sd_ca_83)))))) (fun h => ((Nat.lt_or_ge y 86).elim (fun h => ((Nat.lt_or_ge y 85).elim (fun h => (by rw [show y = 84 by omega]; exact sd_ca_84)) (fun h => (by rw [show y = 85 by omega]; exact sd_ca_85)))) (fun h => ((Nat.lt_or_ge y 87).elim (fun h => (by rw [show y = 86 by omega]; exact sd_ca_86)) (fun h => (by rw [show y = 87 by omega]; exact sd_ca_87)))))))) (fun h => ((Nat.lt_or_ge y 92).elim (fun h => ((Nat.lt_or_ge y 90).elim (fun h => ((Nat.lt_or_ge y 89).elim (fun h => (by rw [show y = 88 by omega]; exact sd_ca_88)) (fun h => (by rw [show y = 89 by omega]; exact sd_ca_89)))) (fun h => ((Nat.lt_or_ge y 91).elim (fun h => (by rw [show y = 90 by omega]; exact sd_ca_90)) (fun h => (by rw [show y = 91 by omega]; exact sd_ca_91)))))) (fun h => ((Nat.lt_or_ge y 94).elim (fun h => ((Nat.lt_or_ge y 93).elim (fun h => (by rw [show y = 92 by omega]; exact sd_ca_92)) (fun h => (by rw [show y = 93 by omega]; exact sd_ca_93)))) (fun h => ((Nat.lt_or_ge y 95).elim (fun h => (by rw [show y = 94 by omega]; exact sd_ca_94)) (fun h => (by rw [show y = 95 by omega]; exact sd_ca_95)))))))))
theorem sd_caA_b96 : ∀ y, 96 ≤ y → y < 112 → sd_ca y = true := fun y h0 h1 => ((Nat.lt_or_ge y 104).elim (fun h => ((Nat.lt_or_ge y 100).elim (fun h => ((Nat.lt_or_ge y 98).elim (fun h => ((Nat.lt_or_ge y 97).elim (fun h => (by rw [show y = 96 by omega]; exact sd_ca_96)) (fun h => (by rw [show y = 97 by omega]; exact sd_ca_97)))) (fun h => ((Nat.lt_or_ge y 99).elim (fun h => (by rw [show y = 98 by omega]; exact sd_ca_98)) (fun h => (by rw [show y = 99 by omega]; exact sd_ca_99)))))) (fun h => ((Nat.lt_or_ge y 102).elim (fun h => ((Nat.lt_or_ge y 101).elim (fun h => (by rw [show y = 100 by omega]; exact sd_ca_100)) (fun h => (by rw [show y = 101 by omega]; exact sd_ca_101)))) (fun h => ((Nat.lt_or_ge y 103).elim (fun h => (by rw [show y = 102 by omega]; exact sd_ca_102)) (fun h => (by rw [show y = 103 by omega]; exact sd_ca_103)))))))) (fun h => ((Nat.lt_or_ge y 108).elim (fun h => ((Nat.lt_or_ge y 106).elim (fun h => ((Nat.lt_or_ge y 105).elim (fun h => (by rw [show y = 104 by omega]; exact sd_ca_104)) (fun h => (by rw [show y = 105 by omega]; exact sd_ca_105)))) (fun h => ((Nat.lt_or_ge y 107).elim (fun h => (by rw [show y = 106 by omega]; exact sd_ca_106)) (fun h => (by rw [show y = 107 by omega]; exact sd_ca_107)))))) (fun h => ((Nat.lt_or_ge y 110).elim (fun h => ((Nat.lt_or_ge y 109).elim (fun h => (by rw [show y = 108 by omega]; exact sd_ca_108)) (fun h => (by rw [show y = 109 by omega]; exact sd_ca_109)))) (fun h => ((Nat.lt_or_ge y 111).elim (fun h => (by rw [show y = 110 by omega]; exact sd_ca_110)) (fun h => (by rw [show y = 111 by omega]; exact sd_ca_111)))))))))
theorem sd_caA_b112 : ∀ y, 112 ≤ y → y < 128 → sd_ca y = true := fun y h0 h1 => ((Nat.lt_or_ge y 120).elim (fun h => ((Nat.lt_or_ge y 116).elim (fun h => ((Nat.lt_or_ge y 114).elim (fun h => ((Nat.lt_or_ge y 113).elim (fun h => (by rw [show y = 112 by omega]; exact sd_ca_112)) (fun h => (by rw [show y = 113 by omega]; exact sd_ca_113)))) (fun h => ((Nat.lt_or_ge y 115).elim (fun h => (by rw [show y = 114 by omega]; exact sd_ca_114)) (fun h => (by rw [show y = 115 by omega]; exact sd_ca_115)))))) (fun h => ((Nat.lt_or_ge y 118).elim (fun h => ((Nat.lt_or_ge y 117).elim (fun h => (by rw [show y = 116 by omega]; exact sd_ca_116)) (fun h => (by rw [show y = 117 by omega]; exact sd_ca_117)))) (fun h => ((Nat.lt_or_ge y 119).elim (fun h => (by rw [show y = 118 by omega]; exact sd_ca_118)) (fun h => (by rw [show y = 119 by omega]; exact sd_ca_119)))))))) (fun h => ((Nat.lt_or_ge y 124).elim (fun h => ((Nat.lt_or_ge y 122).elim (fun h => ((Nat.lt_or_ge y 121).elim (fun h => (by rw [show y = 120 by omega]; exact sd_ca_120)) (fun h => (by rw [show y = 121 by omega]; exact sd_ca_121)))) (fun h => ((Nat.lt_or_ge y 123).elim (fun h => (by rw [show y = 122 by omega]; exact sd_ca_122)) (fun h => (by rw [show y = 123 by omega]; exact sd_ca_123)))))) (fun h => ((Nat.lt_or_ge y 126).elim (fun h => ((Nat.lt_or_ge y 125).elim (fun h => (by rw [show y = 124 by omega]; exact sd_ca_124)) (fun h => (by rw [show y = 125 by omega]; exact sd_ca_125)))) (fun h => ((Nat.lt_or_ge y 127).elim (fun h => (by rw [show y = 126 by omega]; exact sd_ca_126)) (fun h => (by rw [show y = 127 by omega]; exact sd_ca_127)))))))))
theorem sd_caA_b128 : ∀ y, 128 ≤ y → y < 144 → sd_ca y = true := fun y h0 h1 => ((Nat.lt_or_ge y 136).elim (fun h => ((Nat.lt_or_ge y 132).elim (fun h => ((Nat.lt_or_ge y 130).elim (fun h => ((Nat.lt_or_ge y 129).elim (fun h => (by rw [show y = 128 by omega]; exact sd_ca_128)) (fun h => (by rw [show y = 129 by omega]; exact sd_ca_129)))) (fun h => ((Nat.lt_or_ge y 131).elim (fun h => (by rw [show y = 130 by omega]; exact sd_ca_130)) (fun h => (by rw [show y = 131 by omega]; exact sd_ca_131)))))) (fun h => ((Nat.lt_or_ge y 134).elim (fun h => ((Nat.lt_or_ge y 133).elim (fun h => (by rw [show y = 132 by omega]; exact sd_ca_132)) (fun h => (by rw [show y = 133 by omega]; exact sd_ca_133)))) (fun h => ((Nat.lt_or_ge y 135).elim (fun h => (by rw [show y = 134 by omega]; exact sd_ca_134)) (fun h => (by rw [show y = 135 by omega]; exact sd_ca_135)))))))) (fun h => ((Nat.lt_or_ge y 140).elim (fun h => ((Nat.lt_or_ge y 138).elim (fun h => ((Nat.lt_or_ge y 137).elim (fun h => (by rw [show y = 136 by omega]; exact sd_ca_136)) (fun h => (by rw [show y = 137 by omega]; exact sd_ca_137)))) (fun h => ((Nat.lt_or_ge y 139).elim (fun h => (by rw [show y = 138 by omega]; exact sd_ca_138)) (fun h => (by rw [show y = 139 by omega]; exact sd_ca_139)))))) (fun h => ((Nat.lt_or_ge y 142).elim (fun h => ((Nat.lt_or_ge y 141).elim (fun h => (by rw [show y = 140 by omega]; exact sd_ca_140)) (fun h => (by rw [show y = 141 by omega]; exact sd_ca_141)))) (fun h => ((Nat.lt_or_ge y 143).elim (fun h => (by rw [show y = 142 by omega]; exact sd_ca_142)) (fun h => (by rw [show y = 143 by omega]; exact sd_ca_143)))))))))
theorem sd_caA_b144 : ∀ y, 144 ≤ y → y < 146 → sd_ca y = true := fun y h0 h1 => ((Nat.lt_or_ge y 145).elim (fun h => (by rw [show y = 144 by omega]; exact sd_ca_144)) (fun h => (by rw [show y = 145 by omega]; exact sd_ca_145)))
theorem sd_caA : ∀ y, y < 146 → sd_ca y = true := fun y hy => (Nat.lt_or_ge y 16).elim (fun h => sd_caA_b0 y (by omega) h) (fun h => (Nat.lt_or_ge y 32).elim (fun h => sd_caA_b16 y (by omega) h) (fun h => (Nat.lt_or_ge y 48).elim (fun h => sd_caA_b32 y (by omega) h) (fun h => (Nat.lt_or_ge y 64).elim (fun h => sd_caA_b48 y (by omega) h) (fun h => (Nat.lt_or_ge y 80).elim (fun h => sd_caA_b64 y (by omega) h) (fun h => (Nat.lt_or_ge y 96).elim (fun h => sd_caA_b80 y (by omega) h) (fun h => (Nat.lt_or_ge y 112).elim (fun h => sd_caA_b96 y (by omega) h) (fun h => (Nat.lt_or_ge y 128).elim (fun h => sd_caA_b112 y (by omega) h) (fun h => (Nat.lt_or_ge y 144).elim (fun h => sd_caA_b128 y (by omega) h) (fun h => sd_caA_b144 y (by omega) (by omega))))))))))
theorem sd_cmA_b0 : ∀ y, 0 ≤ y → y < 16 → sd_cm y = true := fun y h0 h1 => ((Nat.lt_or_ge y 8).elim (fun h => ((Nat.lt_or_ge y 4).elim (fun h => ((Nat.lt_or_ge y 2).elim (fun h => ((Nat.lt_or_ge y 1).elim (fun h => (by rw [show y = 0 by omega]; exact sd_cm_0)) (fun h => (by rw [show y = 1 by omega]; exact sd_cm_1)))) (fun h => ((Nat.lt_or_ge y 3).elim (fun h => (by rw [show y = 2 by omega]; exact sd_cm_2)) (fun h => (by rw [show y = 3 by omega]; exact sd_cm_3)))))) (fun h => ((Nat.lt_or_ge y 6).elim (fun h => ((Nat.lt_or_ge y 5).elim (fun h => (by rw [show y = 4 by omega]; exact sd_cm_4)) (fun h => (by rw [show y = 5 by omega]; exact sd_cm_5)))) (fun h => ((Nat.lt_or_ge y 7).elim (fun h => (by rw [show y = 6 by omega]; exact sd_cm_6)) (fun h => (by rw [show y = 7 by omega]; exact sd_cm_7)))))))) (fun h => ((Nat.lt_or_ge y 12).elim (fun h => ((Nat.lt_or_ge y 10).elim (fun h => ((Nat.lt_or_ge y 9).elim (fun h => (by rw [show y = 8 by omega]; exact sd_cm_8)) (fun h => (by rw [show y = 9 by omega]; exact sd_cm_9)))) (fun h => ((Nat.lt_or_ge y 11).elim (fun h => (by rw [show y = 10 by omega]; exact sd_cm_10)) (fun h => (by rw [show y = 11 by omega]; exact sd_cm_11)))))) (fun h => ((Nat.lt_or_ge y 14).elim (fun h => ((Nat.lt_or_ge y 13).elim (fun h => (by rw [show y = 12 by omega]; exact sd_cm_12)) (fun h => (by rw [show y = 13 by omega]; exact sd_cm_13)))) (fun h => ((Nat.lt_or_ge y 15).elim (fun h => (by rw [show y = 14 by omega]; exact sd_cm_14)) (fun h => (by rw [show y = 15 by omega]; exact sd_cm_15)))))))))
theorem sd_cmA_b16 : ∀ y, 16 ≤ y → y < 32 → sd_cm y = true := fun y h0 h1 => ((Nat.lt_or_ge y 24).elim (fun h => ((Nat.lt_or_ge y 20).elim (fun h => ((Nat.lt_or_ge y 18).elim (fun h => ((Nat.lt_or_ge y 17).elim (fun h => (by rw [show y = 16 by omega]; exact sd_cm_16)) (fun h => (by rw [show y = 17 by omega]; exact sd_cm_17)))) (fun h => ((Nat.lt_or_ge y 19).elim (fun h => (by rw [show y = 18 by omega]; exact sd_cm_18)) (fun h => (by rw [show y = 19 by omega]; exact sd_cm_19)))))) (fun h => ((Nat.lt_or_ge y 22).elim (fun h => ((Nat.lt_or_ge y 21).elim (fun h => (by rw [show y = 20 by omega]; exact sd_cm_20)) (fun h => (by rw [show y = 21 by omega]; exact sd_cm_21)))) (fun h => ((Nat.lt_or_ge y 23).elim (fun h => (by rw [show y = 22 by omega]; exact sd_cm_22)) (fun h => (by rw [show y = 23 by omega]; exact sd_cm_23)))))))) (fun h => ((Nat.lt_or_ge y 28).elim (fun h => ((Nat.lt_or_ge y 26).elim (fun h => ((Nat.lt_or_ge y 25).elim (fun h => (by rw [show y = 24 by omega]; exact sd_cm_24)) (fun h => (by rw [show y = 25 by omega]; exact sd_cm_25)))) (fun h => ((Nat.lt_or_ge y 27).elim (fun h => (by rw [show y = 26 by omega]; exact sd_cm_26)) (fun h => (by rw [show y = 27 by omega]; exact sd_cm_27)))))) (fun h => ((Nat.lt_or_ge y 30).elim (fun h => ((Nat.lt_or_ge y 29).elim (fun h => (by rw [show y = 28 by omega]; exact sd_cm_28)) (fun h => (by rw [show y = 29 by omega]; exact sd_cm_29)))) (fun h => ((Nat.lt_or_ge y 31).elim (fun h => (by rw [show y = 30 by omega]; exact sd_cm_30)) (fun h => (by rw [show y = 31 by omega]; exact sd_cm_31)))))))))
theorem sd_cmA_b32 : ∀ y, 32 ≤ y → y < 48 → sd_cm y = true := fun y h0 h1 => ((Nat.lt_or_ge y 40).elim (fun h => ((Nat.lt_or_ge y 36).elim (fun h => ((Nat.lt_or_ge y 34).elim (fun h => ((Nat.lt_or_ge y 33).elim (fun h => (by rw [show y = 32 by omega]; exact sd_cm_32)) (fun h => (by rw [show y = 33 by omega]; exact sd_cm_33)))) (fun h => ((Nat.lt_or_ge y 35).elim (fun h => (by rw [show y = 34 by omega]; exact sd_cm_34)) (fun h => (by rw [show y = 35 by omega]; exact sd_cm_35)))))) (fun h => ((Nat.lt_or_ge y 38).elim (fun h => ((Nat.lt_or_ge y 37).elim (fun h => (by rw [show y = 36 by omega]; exact sd_cm_36)) (fun h => (by rw [show y = 37 by omega]; exact sd_cm_37)))) (fun h => ((Nat.lt_or_ge y 39).elim (fun h => (by rw [show y = 38 by omega]; exact sd_cm_38)) (fun h => (by rw [show y = 39 by omega]; exact sd_cm_39)))))))) (fun h => ((Nat.lt_or_ge y 44).elim (fun h => ((Nat.lt_or_ge y 42).elim (fun h => ((Nat.lt_or_ge y 41).elim (fun h => (by rw [show y = 40 by omega]; exact sd_cm_40)) (fun h => (by rw [show y = 41 by omega]; exact sd_cm_41)))) (fun h => ((Nat.lt_or_ge y 43).elim (fun h => (by rw [show y = 42 by omega]; exact sd_cm_42)) (fun h => (by rw [show y = 43 by omega]; exact sd_cm_43)))))) (fun h => ((Nat.lt_or_ge y 46).elim (fun h => ((Nat.lt_or_ge y 45).elim (fun h => (by rw [show y = 44 by omega]; exact sd_cm_44)) (fun h => (by rw [show y = 45 by omega]; exact sd_cm_45)))) (fun h => ((Nat.lt_or_ge y 47).elim (fun h => (by rw [show y = 46 by omega]; exact sd_cm_46)) (fun h => (by rw [show y = 47 by omega]; exact sd_cm_47)))))))))
theorem sd_cmA_b48 : ∀ y, 48 ≤ y → y < 64 → sd_cm y = true := fun y h0 h1 => ((Nat.lt_or_ge y 56).elim (fun h => ((Nat.lt_or_ge y 52).elim (fun h => ((Nat.lt_or_ge y 50).elim (fun h => ((Nat.lt_or_ge y 49).elim (fun h => (by rw [show y = 48 by omega]; exact sd_cm_48)) (fun h => (by rw [show y = 49 by omega]; exact sd_cm_49)))) (fun h => ((Nat.lt_or_ge y 51).elim (fun h => (by rw [show y = 50 by omega]; exact sd_cm_50)) (fun h => (by rw [show y = 51 by omega]; exact sd_cm_51)))))) (fun h => ((Nat.lt_or_ge y 54).elim (fun h => ((Nat.lt_or_ge y 53).elim (fun h => (by rw [show y = 52 by omega]; exact sd_cm_52)) (fun h => (by rw [show y = 53 by omega]; exact sd_cm_53)))) (fun h => ((Nat.lt_or_ge y 55).elim (fun h => (by rw [show y = 54 by omega]; exact sd_cm_54)) (fun h => (by rw [show y = 55 by omega]; exact sd_cm_55)))))))) (fun h => ((Nat.lt_or_ge y 60).elim (fun h => ((Nat.lt_or_ge y 58).elim (fun h => ((Nat.lt_or_ge y 57).elim (fun h => (by rw [show y = 56 by omega]; exact sd_cm_56)) (fun h => (by rw [show y = 57 by omega]; exact sd_cm_57)))) (fun h => ((Nat.lt_or_ge y 59).elim (fun h => (by rw [show y = 58 by omega]; exact sd_cm_58)) (fun h => (by rw [show y = 59 by omega]; exact sd_cm_59)))))) (fun h => ((Nat.lt_or_ge y 62).elim (fun h => ((Nat.lt_or_ge y 61).elim (fun h => (by rw [show y = 60 by omega]; exact sd_cm_60)) (fun h => (by rw [show y = 61 by omega]; exact sd_cm_61)))) (fun h => ((Nat.lt_or_ge y 63).elim (fun h => (by rw [show y = 62 by omega]; exact sd_cm_62)) (fun h => (by rw [show y = 63 by omega]; exact sd_cm_63)))))))))
theorem sd_cmA_b64 : ∀ y, 64 ≤ y → y < 80 → sd_cm y = true := fun y h0 h1 => ((Nat.lt_or_ge y 72).elim (fun h => ((Nat.lt_or_ge y 68).elim (fun h => ((Nat.lt_or_ge y 66).elim (fun h => ((Nat.lt_or_ge y 65).elim (fun h => (by rw [show y = 64 by omega]; exact sd_cm_64)) (fun h => (by rw [show y = 65 by omega]; exact sd_cm_65)))) (fun h => ((Nat.lt_or_ge y 67).elim (fun h => (by rw [show y = 66 by omega]; exact sd_cm_66)) (fun h => (by rw [show y = 67 by omega]; exact sd_cm_67)))))) (fun h => ((Nat.lt_or_ge y 70).elim (fun h => ((Nat.lt_or_ge y 69).elim (fun h => (by rw [show y = 68 by omega]; exact sd_cm_68)) (fun h => (by rw [show y = 69 by omega]; exact sd_cm_69)))) (fun h => ((Nat.lt_or_ge y 71).elim (fun h => (by rw [show y = 70 by omega]; exact sd_cm_70)) (fun h => (by rw [show y = 71 by omega]; exact sd_cm_71)))))))) (fun h => ((Nat.lt_or_ge y 76).elim (fun h => ((Nat.lt_or_ge y 74).elim (fun h => ((Nat.lt_or_ge y 73).elim (fun h => (by rw [show y = 72 by omega]; exact sd_cm_72)) (fun h => (by rw [show y = 73 by omega]; exact sd_cm_73)))) (fun h => ((Nat.lt_or_ge y 75).elim (fun h => (by rw [show y = 74 by omega]; exact sd_cm_74)) (fun h => (by rw [show y = 75 by omega]; exact sd_cm_75)))))) (fun h => ((Nat.lt_or_ge y 78).elim (fun h => ((Nat.lt_or_ge y 77).elim (fun h => (by rw [show y = 76 by omega]; exact sd_cm_76)) (fun h => (by rw [show y = 77 by omega]; exact sd_cm_77)))) (fun h => ((Nat.lt_or_ge y 79).elim (fun h => (by rw [show y = 78 by omega]; exact sd_cm_78)) (fun h => (by rw [show y = 79 by omega]; exact sd_cm_79)))))))))
theorem sd_cmA_b80 : ∀ y, 80 ≤ y → y < 96 → sd_cm y = true := fun y h0 h1 => ((Nat.lt_or_ge y 88).elim (fun h => ((Nat.lt_or_ge y 84).elim (fun h => ((Nat.lt_or_ge y 82).elim (fun h => ((Nat.lt_or_ge y 81).elim (fun h => (by rw [show y = 80 by omega]; exact sd_cm_80)) (fun h => (by rw [show y = 81 by omega]; exact sd_cm_81)))) (fun h => ((Nat.lt_or_ge y 83).elim (fun h => (by rw [show y = 82 by omega]; exact sd_cm_82)) (fun h => (by rw [show y = 83 by omega]; exact sd_cm_83)))))) (fun h => ((Nat.lt_or_ge y 86).elim (fun h => ((Nat.lt_or_ge y 85).elim (fun h => (by rw [show y = 84 by omega]; exact sd_cm_84)) (fun h => (by rw [show y = 85 by omega]; exact sd_cm_85)))) (fun h => ((Nat.lt_or_ge y 87).elim (fun h => (by rw [show y = 86 by omega]; exact sd_cm_86)) (fun h => (by rw [show y = 87 by omega]; exact sd_cm_87)))))))) (fun h => ((Nat.lt_or_ge y 92).elim (fun h => ((Nat.lt_or_ge y 90).elim (fun h => ((Nat.lt_or_ge y 89).elim (fun h => (by rw [show y = 88 by omega]; exact sd_cm_88)) (fun h => (by rw [show y = 89 by omega]; exact sd_cm_89)))) (fun h => ((Nat.lt_or_ge y 91).elim (fun h => (by rw [show y = 90 by omega]; exact sd_cm_90)) (fun h => (by rw [show y = 91 by omega]; exact sd_cm_91)))))) (fun h => ((Nat.lt_or_ge y 94).elim (fun h => ((Nat.lt_or_ge y 93).elim (fun h => (by rw [show y = 92 by omega]; exact sd_cm_92)) (fun h => (by rw [show y = 93 by omega]; exact sd_cm_93)))) (fun h => ((Nat.lt_or_ge y 95).elim (fun h => (by rw [show y = 94 by omega]; exact sd_cm_94)) (fun h => (by rw [show y = 95 by omega]; exact sd_cm_95)))))))))
theorem sd_cmA_b96 : ∀ y, 96 ≤ y → y < 112 → sd_cm y = true := fun y h0 h1 => ((Nat.lt_or_ge y 104).elim (fun h => ((Nat.lt_or_ge y 100).elim (fun h => ((Nat.lt_or_ge y 98).elim (fun h => ((Nat.lt_or_ge y 97).elim (fun h => (by rw [show y = 96 by omega]; exact sd_cm_96)) (fun h => (by rw [show y = 97 by omega]; exact sd_cm_97)))) (fun h => ((Nat.lt_or_ge y 99).elim (fun h => (by rw [show y = 98 by omega]; exact sd_cm_98)) (fun h => (by rw [show y = 99 by omega]; exact sd_cm_99)))))) (fun h => ((Nat.lt_or_ge y 102).elim (fun h => ((Nat.lt_or_ge y 101).elim (fun h => (by rw [show y = 100 by omega]; exact sd_cm_100)) (fun h => (by rw [show y = 101 by omega]; exact sd_cm_101)))) (fun h => ((Nat.lt_or_ge y 103).elim (fun h => (by rw [show y = 102 by omega]; exact sd_cm_102)) (fun h => (by rw [show y = 103 by omega]; exact sd_cm_103)))))))) (fun h => ((Nat.lt_or_ge y 108).elim (fun h => ((Nat.lt_or_ge y 106).elim (fun h => ((Nat.lt_or_ge y 105).elim (fun h => (by rw [show y = 104 by omega]; exact sd_cm_104)) (fun h => (by rw [show y = 105 by omega]; exact sd_cm_105)))) (fun h => ((Nat.lt_or_ge y 107).elim (fun h => (by rw [show y = 106 by omega]; exact sd_cm_106)) (fun h => (by rw [show y = 107 by omega]; exact sd_cm_107)))))) (fun h => ((Nat.lt_or_ge y 110).elim (fun h => ((Nat.lt_or_ge y 109).elim (fun h => (by rw [show y = 108 by omega]; exact sd_cm_108)) (fun h => (by rw [show y = 109 by omega]; exact sd_cm_109)))) (fun h => ((Nat.lt_or_ge y 111).elim (fun h => (by rw [show y = 110 by omega]; exact sd_cm_110)) (fun h => (by rw [show y = 111 by omega]; exact sd_cm_111)))))))))
theorem sd_cmA_b112 : ∀ y, 112 ≤ y → y < 128 → sd_cm y = true := fun y h0 h1 => ((Nat.lt_or_ge y 120).elim (fun h => ((Nat.lt_or_ge y 116).elim (fun h => ((Nat.lt_or_ge y 114).elim (fun h => ((Nat.lt_or_ge y 113).elim (fun h => (by rw [show y = 112 by omega]; exact sd_cm_112)) (fun h => (by rw [show y = 113 by omega]; exact sd_cm_113)))) (fun h => ((Nat.lt_or_ge y 115).elim (fun h => (by rw [show y = 114 by omega]; exact sd_cm_114)) (fun h => (by rw [show y = 115 by omega]; exact sd_cm_115)))))) (fun h => ((Nat.lt_or_ge y 118).elim (fun h => ((Nat.lt_or_ge y 117).elim (fun h => (by rw [show y = 116 by omega]; exact sd_cm_116)) (fun h => (by rw [show y = 117 by omega]; exact sd_cm_117)))) (fun h => ((Nat.lt_or_ge y 119).elim (fun h => (by rw [show y = 118 by omega]; exact sd_cm_118)) (fun h => (by rw [show y = 119 by omega]; exact sd_cm_119)))))))) (fun h => ((Nat.lt_or_ge y 124).elim (fun h => ((Nat.lt_or_ge y 122).elim (fun h => ((Nat.lt_or_ge y 121).elim (fun h => (by rw [show y = 120 by omega]; exact sd_cm_120)) (fun h => (by rw [show y = 121 by omega]; exact sd_cm_121)))) (fun h => ((Nat.lt_or_ge y 123).elim (fun h => (by rw [show y = 122 by omega]; exact sd_cm_122)) (fun h => (by rw [show y = 123 by omega]; exact sd_cm_123)))))) (fun h => ((Nat.lt_or_ge y 126).elim (fun h => ((Nat.lt_or_ge y 125).elim (fun h => (by rw [show y = 124 by omega]; exact sd_cm_124)) (fun h => (by rw [show y = 125 by omega]; exact sd_cm_125)))) (fun h => ((Nat.lt_or_ge y 127).elim (fun h => (by rw [show y = 126 by omega]; exact sd_cm_126)) (fun h => (by rw [show y = 127 by omega]; exact sd_cm_127)))))))))
theorem sd_cmA_b128 : ∀ y, 128 ≤ y → y < 144 → sd_cm y = true := fun y h0 h1 => ((Nat.lt_or_ge y 136).elim (fun h => ((Nat.lt_or_ge y 132).elim (fun h => ((Nat.lt_or_ge y 130).elim (fun h => ((Nat.lt_or_ge y 129).elim (fun h => (by rw [show y = 128 by omega]; exact sd_cm_128)) (fun h => (by rw [show y = 129 by omega]; exact sd_cm_129)))) (fun h => ((Nat.lt_or_ge y 131).elim (fun h => (by rw [show y = 130 by omega]; exact sd_cm_130)) (fun h => (by rw [show y = 131 by omega]; exact sd_cm_131)))))) (fun h => ((Nat.lt_or_ge y 134).elim (fun h => ((Nat.lt_or_ge y 133).elim (fun h => (by rw [show y = 132 by omega]; exact sd_cm_132)) (fun h => (by rw [show y = 133 by omega]; exact sd_cm_133)))) (fun h => ((Nat.lt_or_ge y 135).elim (fun h => (by rw [show y = 134 by omega]; exact sd_cm_134)) (fun h => (by rw [show y = 135 by omega]; exact sd_cm_135)))))))) (fun h => ((Nat.lt_or_ge y 140).elim (fun h => ((Nat.lt_or_ge y 138).elim (fun h => ((Nat.lt_or_ge y 137).elim (fun h => (by rw [show y = 136 by omega]; exact sd_cm_136)) (fun h => (by rw [show y = 137 by omega]; exact sd_cm_137)))) (fun h => ((Nat.lt_or_ge y 139).elim (fun h => (by rw [show y = 138 by omega]; exact sd_cm_138)) (fun h => (by rw [show y = 139 by omega]; exact sd_cm_139)))))) (fun h => ((Nat.lt_or_ge y 142).elim (fun h => ((Nat.lt_or_ge y 141).elim (fun h => (by rw [show y = 140 by omega]; exact sd_cm_140)) (fun h => (by rw [show y = 141 by omega]; exact sd_cm_141)))) (fun h => ((Nat.lt_or_ge y 143).elim (fun h => (by rw [show y = 142 by omega]; exact sd_cm_142)) (fun h => (by rw [show y = 143 by omega]; exact sd_cm_143)))))))))
theorem sd_cmA_b144 : ∀ y, 144 ≤ y → y < 145 → sd_cm y = true := fun y h0 h1 => (by rw [show y = 144 by omega]; exact sd_cm_144)
theorem sd_cmA : ∀ y, y < 145 → sd_cm y = true := fun y hy => (Nat.lt_or_ge y 16).elim (fun h => sd_cmA_b0 y (by omega) h) (fun h => (Nat.lt_or_ge y 32).elim (fun h => sd_cmA_b16 y (by omega) h) (fun h => (Nat.lt_or_ge y 48).elim (fun h => sd_cmA_b32 y (by omega) h) (fun h => (Nat.lt_or_ge y 64).elim (fun h => sd_cmA_b48 y (by omega) h) (fun h => (Nat.lt_or_ge y 80).elim (fun h => sd_cmA_b64 y (by omega) h) (fun h => (Nat.lt_or_ge y 96).elim (fun h => sd_cmA_b80 y (by omega) h) (fun h => (Nat.lt_or_ge y 112).elim (fun h => sd_cmA_b96 y (by omega) h) (fun h => (Nat.lt_or_ge y 128).elim (fun h => sd_cmA_b112 y (by omega) h) (fun h => (Nat.lt_or_ge y 144).elim (fun h => sd_cmA_b128 y (by omega) h) (fun h => sd_cmA_b144 y (by omega) (by omega))))))))))
/-- the tag of the class whose method it is (8: static) -/
def sd_vl : List Nat := [8, 8, 8, 8, 8, 8, 8, 8, 8, 8, 8, 2, 2, 2, 2, 5, 5, 4, 4, 4, 4, 4, 4, 4, 4, 4, 1, 1, 1, 1, 1, 1, 1, 6, 6, 6, 6, 6, 8, 6, 6, 6, 6, 6, 6, 6, 6, 8, 8, 8, 8, 8, 8, 8, 3, 3, 3, 3, 3, 3, 0, 0, 0, 0, 0, 0, 0, 0, 0, 0, 0, 0, 0, 0, 0, 0, 0, 0, 0, 0, 0, 0, 0, 0, 0, 0, 0, 0, 0, 0, 7, 8, 7, 7, 7, 7, 7, 7, 7, 7, 7, 7, 7, 7, 7, 7, 7, 7, 7, 7, 7, 7, 7, 8, 7, 7, 7, 7, 7, 7, 7, 7, 7, 7, 7, 7, 7, 7, 7, 7, 7, 7, 7, 7, 7, 7, 7, 7, 7, 8, 8, 8, 8, 8, 8, 8]
def sd_vt (y : Nat) : Nat := (sd_nth sd_vl y).getD 8
theorem sd_vtA : ∀ y, y < 145 → (sd_mx y).2.2.2.2.1 = false → sd_vt y < 8 ∧ sd_cn (sd_vt y) = (sd_nm y).cls := by decide +kernel
/-- what the check of a method's words says -/
theorem sd_cms {y : Nat} (hy : y < 145) : Cond.code (sd_nm y) (sd_by y) (sd_ml y) (sd_rt y) ∈ lw_tbl ∧ ((sd_mx y).2.2.2.2.1 = true → Cond.static (sd_nm y) ∈ lw_tbl) ∧ ((sd_mx y).2.2.2.2.1 = false → Cond.instanceMethod (sd_nm y) ∈ lw_tbl ∧ 1 ≤ (sd_mx y).2.2.2.1) ∧ ((sd_mx y).2.2.2.2.1 = false → (sd_nm y).name ≠ "<init>" → Cond.selects (sd_nm y).cls (sd_nm y) (sd_nm y) ∈ lw_tbl) ∧ Cond.initialized (sd_nm y).cls ∈ lw_tbl ∧
    ((sd_nm y).cls ≠ "java/lang/invoke/MethodHandle" ∧ (sd_nm y).cls ≠ "java/lang/invoke/VarHandle") ∧ (parseMethodDescriptor (sd_nm y).desc).map (fun d => d.parameters.length) = some ((sd_mx y).2.2.2.1 - if (sd_mx y).2.2.2.2.1 = true then 0 else 1) ∧ sd_ml y ≤ 20 ∧ plainFor (sd_nm y) = true := by
  have h := sd_cmA y hy
  unfold sd_cm at h
  unfold sd_nm sd_by sd_ml sd_rt
  generalize sd_mr y = mr at h ⊢
  generalize sd_mx y = mx at h ⊢
  obtain ⟨nm, bytes, ml, rt, cd⟩ := mr
  obtain ⟨dp, mc, mz, np, stt, ic, im, is, ii⟩ := mx
  simp only [sd_cq, Bool.and_eq_true, decide_eq_true_eq, Bool.or_eq_true] at h
  obtain ⟨⟨⟨⟨⟨⟨⟨⟨h1, h2⟩, h3⟩, h4⟩, h5⟩, h6⟩, h7⟩, h8⟩, h9⟩ := h
  refine ⟨sd_wd_mem h1, fun q => ?_, fun q => ⟨?_, ?_⟩, fun q q2 => ?_, sd_wd_mem h4, h5, h6, h7, h8⟩
  · have q : stt = true := q
    rw [if_pos q] at h2; exact sd_wd_mem h2
  · have q : stt = false := q
    rw [if_neg (by rw [q]; decide)] at h2; exact sd_wd_mem h2
  · have q : stt = false := q
    rcases h9 with h9 | h9
    · rw [q] at h9; cases h9
    · exact h9
  · have q : stt = false := q
    rcases h3 with (h3 | h3) | h3
    · rw [q] at h3; cases h3
    · exact absurd h3 q2
    · exact sd_wd_mem h3
/-- every word of the tables holds on in every later state -/
def sd_gd : Cond → Bool
  | .methodLinkNest .. => true
  | .privateMethod _ => true
  | .arrayOver (.object _) => true
  | w => goodWord w
theorem sd_gdA : lw_tbl.all sd_gd = true := by decide +kernel
theorem sd_pm {x : MethodName} {a a' : Array Value} {s U : State} (hW : s.WarmedH U.vm) (h : (Cond.privateMethod x).before a s = true) : (Cond.privateMethod x).before a' U = true := by
  have h1 : (Cond.privateMethod x).before a (s.setVm U.vm) = true := by
    rw [Cond.before_iff] at h ⊢
    have hm : U.vm.method? = s.vm.method? := funext hW.alike.method?
    simp only [Cond.value, State.methodNamed?_setVm hW.alike, State.vm_setVm, hm] at h ⊢
    exact h
  exact va_tabs rfl (rfl : (s.setVm U.vm).vm = U.vm) h1
theorem sd_pay1 {w : Cond} {args : Array Value} {s : State} (hg : sd_gd w = true) (h : w.before args s = true) (a' : Array Value) (U : State) (hW : s.WarmedH U.vm) : w.before a' U = true := by
  unfold sd_gd at hg
  split at hg
  · exact va_Nw.use rfl (va_Nw.warmM hW (va_Nw.of rfl h))
  · exact sd_pm hW h
  · exact va_AO.use (va_AO.moved hW.alike (va_AO.of h))
  · exact word_at hW (good_of_word hg) h
theorem sd_pay {args : Array Value} {s : State} (hts : ∀ w ∈ lw_tbl, w.before args s = true) : ∀ w ∈ lw_tbl, ∀ (a' : Array Value) (U : State), s.WarmedH U.vm → w.before a' U = true :=
  fun w hw => sd_pay1 (List.all_eq_true.mp sd_gdA w hw) (hts w hw)
section SK
variable {l : Launch} {sc : Option (Nat × (Nat → Int32))} {y : Nat} {rm : Bool} {Q : Option sd_V → sd_H → Prop} {pc : Nat} {ls : List (Option sd_V)} {st r : List sd_V} {h : sd_H} {cs ss : Nat}
theorem sd_RT.ext {p : Program} {e : Env} {R : Room} {s : State} {m : MethodId} {args : Array Value} {below : List Frame} {meth : Method} {c : Code} {D : va_G} {base : Nat} {Z : State → Prop} {ad ad' : sd_A} {h' : sd_H} (hrt : sd_RT l y rm Q p e R s m args below meth c D base Z h ad) (hx : sd_ext h ad h' ad') : sd_RT l y rm Q p e R s m args below meth c D base Z h' ad' :=
  fun r h2 ad2 H2 l2 c2 s2 p2 A2 q1 q2 q3 => hrt r h2 ad2 H2 l2 c2 s2 p2 A2 q1 q2 (hx.tr q3)
theorem sd_VS {base : Nat} {H0 H H' : Heap} {locs : List Loc} (hV : va_S (fun q => base ≤ q) H0 H locs) (hz : H'.size = H.size + 1) (ho : ∀ q : Nat, q < H.size → H'[q]? = H[q]?) : va_S (fun q => base ≤ q) H0 H' locs :=
  ⟨Nat.le_trans hV.1 (by omega), fun x h1 h2 => (ho x (Nat.lt_of_lt_of_le h1 hV.1)).trans (hV.2.1 x h1 h2), hV.2.2⟩
/-- behind a making: the new heap, the old stack and locals -/
theorem sd_made {T : Nat} {ad : sd_A} {D : va_G} {base : Nat} {H H' : Heap} {locs : List Loc} {s : State} {p : Program} {e : Env} {R : Room} {m : MethodId} {args : Array Value} {below : List Frame} {meth : Method} {c : Code} {Z : State → Prop} {lsA : Array Slot} {n : Nat} (hT : T < sd_nT) (hrm : rm = false) (kk : sd_Wq l sc y rm Q pc ls (.inr (.inr (T, some (h.2.2.2 T))) :: r) (sd_nw h T) (cs + 1) (ss + n))
    (C : sd_C p s m args meth c R y) (hb : base ≤ s.heap.size) (hS' : sd_S D base (sd_ad ad h T H.size) (sd_nw h T) s H') (hV : va_S (fun q => base ≤ q) s.heap H locs) (hz : H'.size = H.size + 1) (ho : ∀ q : Nat, q < H.size → H'[q]? = H[q]?)
    (hl : lv_has lsA (sd_ml y) (sd_al ad 0 ls)) (hst : ∀ v ∈ r, sd_ok h v) (hls : ∀ v, some v ∈ ls → sd_ok h v) (hsc : ∀ (L : Nat) (xs : Nat → Int32), sc = some (L, xs) → va_X (ad sd_nT 0) L xs s s.heap ∧ ad sd_nT 0 < base) (hrt : sd_RT l y rm Q p e R s m args below meth c D base Z h ad) (hcs : cs + 1 ≤ sd_mc y ∧ ss + n ≤ sd_mz y) :
    W p l e R s m args below meth c H' locs (cs + 1) (ss + n) Z (F0 m pc lsA (.ref H.size :: r.map (sd_rv ad))) := by
  have hx := sd_nw_ext (ad := ad) (h := h) (a := H.size) hT
  have w := kk p e s m args below meth c R D base (sd_ad ad h T H.size) H' locs lsA Z C hb hS' (sd_VS hV hz ho) (by rw [sd_al_ext hx ls 0 hls]; exact hl)
    (sd_oc (fun t k e => by
      have := Sum.inr.inj (Sum.inr.inj e)
      cases this
      exact Or.inl ⟨hT, by rw [sd_nw_cnt, if_pos rfl]; omega⟩) fun v hv => sd_ok_ext hx (hst v hv)) (fun v hv => sd_ok_ext hx (hls v hv)) (fun q => by rw [hrm] at q; cases q)
    (fun L xs e => by rw [hx.1 sd_nT 0 (Or.inr ⟨rfl, rfl⟩)]; exact hsc L xs e) (hrt.ext hx) hcs
  have e1 : (.inr (.inr (T, some (h.2.2.2 T))) :: r : List sd_V).map (sd_rv (sd_ad ad h T H.size)) = .ref H.size :: r.map (sd_rv ad) := by
    show Value.ref (sd_ad ad h T H.size T (h.2.2.2 T)) :: r.map (sd_rv (sd_ad ad h T H.size)) = _
    rw [sd_ad_new, sd_map_ext hx hst]
  rw [e1] at w
  exact w
theorem sw_new {T ix : Nat} (hd : decode (sd_by y) pc = .ok (.new ix, 3)) (hT : T < 8) (w1 : Cond.classLink (sd_nm y).cls ix (sd_cn T) ∈ lw_tbl) (w2 : Cond.instantiable (sd_cn T) (sd_tn T) ∈ lw_tbl) (w3 : Cond.initialized (sd_cn T) ∈ lw_tbl) (hrm : rm = false) (hc : cs + 1 ≤ sd_mc y ∧ ss + sd_tn T ≤ sd_mz y)
    (kk : sd_Wq l sc y rm Q (pc + 3) ls (.inr (.inr (T, some (h.2.2.2 T))) :: st) (sd_nw h T) (cs + 1) (ss + sd_tn T)) : sd_Wq l sc y rm Q pc ls st h cs ss := by
  intro p e s m args below meth c R D base ad H locs lsA Z C hb hS hV hl hst hls hok hsc hrt hcs
  obtain ⟨hx, hb', -, hown, hts, -, -, -, -, -, hRc, hRs⟩ := id C
  have hT46 : T < sd_nT := show T < 46 by omega
  have hKn := hS.1.1 T _ (sd_cl8 T hT)
  refine W.newcK hx hb' hown (hts _ w1) (hts _ w2) (hts _ w3) rfl hd (Nat.le_trans hc.1 hRc) (Nat.le_trans hc.2 hRs) hKn.2.1 rfl fun H1 kC hkC e1 z1 o1 => ?_
  have born := u_born (sd_fy T) hts (sd_uw T hT) hKn hkC e1 (sd_tyA T hT)
  refine sd_made hT46 hrm kk C hb (sd_S_nw hS hT46 z1 o1 (sd_ob_at hT ?_)) hV z1 o1 hl hst hls hsc hrt hc
  rw [sd_ad_new]
  exact born.to fun j hj => by rw [sd_fv_new, sd_dv (sd_fkA T hT j hj)]
theorem sw_newa {T : Nat} {x : Int32} {at_ : ArrayType} (hd : decode (sd_by y) pc = .ok (.newarray at_, 2)) (h8 : 8 ≤ T) (hT : T < sd_nT) (h3 : sd_fc T 0 < 3) (hty : sd_aty (sd_fc T 0) = newarray.typeOf at_) (w1 : Cond.arrayClass (newarray.typeOf at_) ∈ lw_tbl) (hrm : rm = false) (hc : cs + 1 ≤ sd_mc y ∧ ss + sd_tn T ≤ sd_mz y) (hxn : x = nI (sd_tn T))
    (kk : sd_Wq l sc y rm Q (pc + 2) ls (.inr (.inr (T, some (h.2.2.2 T))) :: r) (sd_nw h T) (cs + 1) (ss + sd_tn T)) : sd_Wq l sc y rm Q pc ls (.inl x :: r) h cs ss := by
  intro p e s m args below meth c R D base ad H locs lsA Z C hb hS hV hl hst hls hok hsc hrt hcs
  obtain ⟨hx, hb', -, hown, hts, -, -, -, -, -, hRc, hRs⟩ := id C
  have hN := sd_tnA T hT
  have hlt : sd_tn T < 2 ^ 31 := Nat.lt_trans hN (by decide)
  have hcb : componentBytes (newarray.typeOf at_) ≤ 8 := by
    rw [← hty]; rcases (show sd_fc T 0 = 0 ∨ sd_fc T 0 = 1 ∨ sd_fc T 0 = 2 by omega) with q | q | q <;> rw [q] <;> decide
  refine va_newaK hx hb' (hts _ w1) rfl hd rfl (by rw [hxn]; exact nI_pos hlt) (by rw [hxn]; exact nI_clamp hlt) (Nat.le_trans (Nat.mul_le_mul (Nat.le_of_lt hN) hcb) (by decide)) (Nat.le_trans hc.1 hRc) (Nat.le_trans hc.2 hRs) rfl fun H1 cA e1 z1 o1 hA hf => ?_
  refine sd_made hT hrm kk C hb (sd_S_nw hS hT z1 o1 (sd_ar_at (cA := cA) h8 hT ?_ ⟨by rw [hty]; exact hA, ?_⟩)) hV z1 o1 hl (sd_o1 hst) hls hsc hrt hc
  · rw [sd_ad_new, e1]
    congr 2
    funext j
    rw [sd_fv_new, sd_fcA T hT h8 j, ← hty]
    rcases (show sd_fc T 0 = 0 ∨ sd_fc T 0 = 1 ∨ sd_fc T 0 = 2 by omega) with q | q | q <;> rw [q] <;> rfl
  · rw [← hty] at hf
    rcases (show sd_fc T 0 = 0 ∨ sd_fc T 0 = 1 ∨ sd_fc T 0 = 2 by omega) with q | q | q <;> rw [q] at hf ⊢ <;> exact hf
theorem sw_anew {T ix t : Nat} {x : Int32} (hd : decode (sd_by y) pc = .ok (.anewarray ix, 3)) (h8 : 8 ≤ T) (hT : T < sd_nT) (ht : sd_fc T 0 = t + 3) (w1 : Cond.classLink (sd_nm y).cls ix (sd_cn t) ∈ lw_tbl) (w2 : Cond.arrayOver (.object (sd_cn t)) ∈ lw_tbl) (hrm : rm = false) (hc : cs + 1 ≤ sd_mc y ∧ ss + sd_tn T ≤ sd_mz y) (hxn : x = nI (sd_tn T))
    (kk : sd_Wq l sc y rm Q (pc + 3) ls (.inr (.inr (T, some (h.2.2.2 T))) :: r) (sd_nw h T) (cs + 1) (ss + sd_tn T)) : sd_Wq l sc y rm Q pc ls (.inl x :: r) h cs ss := by
  intro p e s m args below meth c R D base ad H locs lsA Z C hb hS hV hl hst hls hok hsc hrt hcs
  obtain ⟨hx, hb', -, hown, hts, -, -, -, -, -, hRc, hRs⟩ := id C
  have hN := sd_tnA T hT
  have hlt : sd_tn T < 2 ^ 31 := Nat.lt_trans hN (by decide)
  have hcl : x.toNatClampNeg = sd_tn T := by rw [hxn]; exact nI_clamp hlt
  refine W.anew hx hb' hown (hts _ w1) (hts _ w2) rfl hd rfl (by rw [hxn]; exact nI_pos hlt) (by rw [hcl]; omega) (Nat.le_trans hc.1 hRc) (by rw [hcl]; exact Nat.le_trans hc.2 hRs) fun cA kA comp f1 f2 f3 f4 => ?_
  rw [hcl]
  generalize hH1 : H.push ({ cls := cA, slots := Array.replicate (sd_tn T) .null, vm := .none } : Cell) = H1
  have z1 : H1.size = H.size + 1 := by rw [← hH1, Array.size_push]
  have e1 : H1[H.size]? = some (arrV cA (sd_tn T) (fun _ => .null)) := by rw [← hH1, Array.getElem?_push_size, ← arrV_new]
  have o1 : ∀ q : Nat, q < H.size → H1[q]? = H[q]? := fun q hq => by rw [← hH1, Array.getElem?_push, if_neg (Nat.ne_of_lt hq)]
  have hAr : ArrOfT s cA (.object (sd_cn t)) := fun N z => ⟨(fun k h => by cases h), kA, f2, comp, f3⟩
  refine sd_made hT hrm kk C hb (sd_S_nw hS hT z1 o1 (sd_ar_at (cA := cA) h8 hT ?_ ⟨by rw [ht]; exact hAr, by rw [ht]; exact ⟨kA, comp, f2, f3, f4, f1⟩⟩)) hV z1 o1 hl (sd_o1 hst) hls hsc hrt hc
  rw [sd_ad_new, e1]
  congr 2
  funext j
  rw [sd_fv_new, sd_fcA T hT h8 j, ht]
  rfl
/-- Object.<init> -/
theorem sw_objInit {ix : Nat} {q : Nat × Nat} (hd : decode (sd_by y) pc = .ok (.invokespecial ix, 3)) (w1 : Cond.methodLink (sd_nm y).cls ix Lib.objectInit ∈ lw_tbl) (w2 : Cond.instanceMethod Lib.objectInit ∈ lw_tbl) (w3 : Cond.code Lib.objectInit ⟨#[0xb1]⟩ 1 none ∈ lw_tbl) (hdp : 1 ≤ sd_dp y) (hr : r = [])
    (kk : sd_Wq l sc y rm Q (pc + 3) ls r h cs ss) : sd_Wq l sc y rm Q pc ls (.inr (.inr (q.1, some q.2)) :: r) h cs ss := by
  intro p e s m args below meth c R D base ad H locs lsA Z C hb hS hV hl hst hls hok hsc hrt hcs
  obtain ⟨hx, hb', hml, hown, hts, -, -, -, hRf, hRl, -, -⟩ := id C
  subst hr
  exact W.objInit hx hb' hown (hts _ w1) (hts _ w2) (hts _ w3) rfl (by rw [hml]; exact hl.1) rfl hd (Nat.le_trans hdp hRf) (by show 2 * 0 + 0 + 12 ≤ R.locals; omega) (kk p e s m args below meth c R D base ad H locs lsA Z C hb hS hV hl (sd_o1 hst) hls hok hsc hrt hcs)
def sd_cat (v : sd_V) : Nat := match v with
  | .inr (.inl _) => 2
  | _ => 1
def sd_cats : List sd_V → Nat
  | [] => 0
  | v :: t => sd_cat v + sd_cats t
theorem sd_cats_eq (ad : sd_A) : ∀ r : List sd_V, ((r.map (sd_rv ad)).map fun v => v.category).sum = sd_cats r
  | [] => rfl
  | v :: t => by
    have e : (sd_rv ad v).category = sd_cat v := by
      rcases v with x | x | ⟨u, _ | k⟩ <;> rfl
    simp only [List.map_cons, List.sum_cons, sd_cats, e]
    rw [sd_cats_eq ad t]
/-- the heap behind a call -/
theorem sd_goon {p : Program} {e : Env} {R : Room} {s : State} {m : MethodId} {args a : Array Value} {below : List Frame} {meth : Method} {c : Code} {H : Heap} {locs : List Loc} {mc ms : Nat} {Z : State → Prop} {D : va_G} {base : Nat} {ad : sd_A} {lsA : Array Slot} {st0 rest : List Value} {Q' : Option sd_V → sd_H → Prop}
    (hr : va_Run p l e R s m args below meth c H locs cs ss mc ms (F0 m pc lsA st0) rest (sd_Qc D base ad h Q' a) (fun q => base ≤ q)) (hV : va_S (fun q => base ≤ q) s.heap H locs)
    (kk : ∀ (v : Option sd_V) (h' : sd_H) (ad' : sd_A) (H1 : Heap) (locs1 : List Loc), Q' v h' → sd_ext h ad h' ad' → sd_S D base ad' h' s H1 → va_S (fun q => base ≤ q) s.heap H1 locs1 → (∀ w, v = some w → sd_ok h' w) → W p l e R s m args below meth c H1 locs1 (cs + mc) (ss + ms) Z (F0 m (pc + 3) lsA (sd_rs ad' v ++ rest))) :
    W p l e R s m args below meth c H locs cs ss Z (F0 m pc lsA st0) := by
  intro T hT X
  obtain ⟨v, st₀, t, T', L, h0, X', hL, e1, e2, ⟨r, h', ad', hv, hQ, hx, hS', hrv, hz, hk⟩, st⟩ := hr T hT X
  have hv : v = r.map (sd_rv ad') := Outcome.returned.inj hv
  rw [h0] at hz hk
  have hvm : t.vm.Alike s.vm := by rw [← e2]; exact X'.warmed.alike.symm
  obtain ⟨t2, a1, b1⟩ := kk r h' ad' T'.heap (locs ++ L) hQ hx (by rw [e1]; exact hS'.moved hvm)
    ⟨Nat.le_trans hV.1 (by rw [e1]; exact hz), fun q h1 h2 => by rw [e1, hk q (Nat.lt_of_lt_of_le h1 hV.1) h2]; exact hV.2.1 q h1 h2, fun q hq => by
      rcases List.mem_append.mp hq with h | h
      · exact hV.2.2 q h
      · exact hL q h⟩ hrv T' rfl X'
  refine ⟨t2, st t2 ?_, b1⟩
  have e3 : v.toList = sd_rs ad' r := by
    rw [hv]; cases r <;> rfl
  rw [e3]
  exact a1
theorem sd_blind {D : va_G} {base : Nat} {ad : sd_A} {as : List sd_V} : FrameBlind (sd_Pc D base ad h as) := fun a U g mk q => ⟨q.1, q.2.1, q.2.2.moved (u := U) (U := U.calling g mk a) (Vm.Alike.refl U.vm)⟩
theorem sd_preU {D : va_G} {base : Nat} {ad : sd_A} {as : List sd_V} {s : State} {H : Heap} (hb : base ≤ s.heap.size) (hz : s.heap.size ≤ H.size) (hS : sd_S D base ad h s H) : ∀ U : State, U.heap = H → s.WarmedH U.vm → sd_Pc D base ad h as (as.map (sd_rv ad)).toArray U := fun U hU hW =>
  ⟨rfl, by rw [hU]; omega, by rw [hU]; exact hS.moved hW.alike⟩
/-- how a method y' is called from a method y -/
def sd_how (y y' pc : Nat) (as : List sd_V) : Prop := ∃ ix : Nat,
  (decode (sd_by y) pc = .ok (.invokevirtual ix, 3) ∧ Cond.methodLink (sd_nm y).cls ix (sd_nm y') ∈ lw_tbl ∧ (sd_mx y').2.2.2.2.1 = false ∧ (sd_nm y').name ≠ "<init>" ∧ ∃ (T k : Nat) (as' : List sd_V), as = .inr (.inr (T, some k)) :: as' ∧ T = sd_vt y') ∨
  (decode (sd_by y) pc = .ok (.invokestatic ix, 3) ∧ Cond.methodLink (sd_nm y).cls ix (sd_nm y') ∈ lw_tbl ∧ (sd_mx y').2.2.2.2.1 = true) ∨
  (decode (sd_by y) pc = .ok (.invokespecial ix, 3) ∧ (Cond.methodLink (sd_nm y).cls ix (sd_nm y') ∈ lw_tbl ∨ Cond.methodLinkNest (sd_nm y).cls ix (sd_nm y') "StreamDesk" ∈ lw_tbl) ∧ (sd_mx y').2.2.2.2.1 = false ∧ (sd_nm y').name = "<init>" ∧ sd_rt y' = none ∧ ∃ (T k : Nat) (as' : List sd_V), as = .inr (.inr (T, some k)) :: as')
theorem sw_call {y' : Nat} {as : List sd_V} (hy : y' < 145) (how : sd_how y y' pc as) (hlen : as.length = (sd_mx y').2.2.2.1) (hdp : sd_dp y' + 1 ≤ sd_dp y) (hrest : sd_cats r ≤ 8) (hc : cs + sd_mc y' ≤ sd_mc y ∧ ss + sd_mz y' ≤ sd_mz y)
    (hE : (rm = true → sd_OK h) → sd_E l y' as h (fun v h' => (rm = true → sd_OK h') ∧ sd_Wq l sc y rm Q (pc + 3) ls (v.toList ++ r) h' (cs + sd_mc y') (ss + sd_mz y'))) : sd_Wq l sc y rm Q pc ls (as.reverse ++ r) h cs ss := by
  intro p e s m args below meth c R D base ad H locs lsA Z C hb hS hV hl hst hls hok hsc hrt hcs
  obtain ⟨hx, hb', hml, hown, hts, hlk, hrr, hnm, hRf, hRl, hRc, hRs⟩ := id C
  obtain ⟨c1, c2, c3, c4, c5, c6, c7, c8, c9⟩ := sd_cms hy
  have hoka : ∀ v ∈ as, sd_ok h v := fun v hv => hst v (List.mem_append_left _ (List.mem_reverse.mpr hv))
  have hokr : ∀ v ∈ r, sd_ok h v := fun v hv => hst v (List.mem_append_right _ hv)
  have hM := hE hok hoka D base ad
  have hR : (sd_rm y').frames + 1 ≤ R.frames ∧ 8 + (sd_ml y' + 11) + (sd_rm y').locals ≤ R.locals := by
    refine ⟨Nat.le_trans hdp hRf, ?_⟩
    show 8 + (sd_ml y' + 11) + 39 * sd_dp y' ≤ R.locals
    omega
  have hcode : Cond.code (sd_nm y') (sd_by y') (sd_ml y') (sd_rt y') ∈ sd_ws y' := List.mem_cons_self
  have hpay : ∀ w ∈ sd_ws y', ∀ (a' : Array Value) (U : State), s.WarmedH U.vm → w.before a' U = true := by
    intro w hw
    rcases List.mem_cons.mp hw with rfl | hw
    · exact sd_pay hts _ c1
    · exact sd_pay hts w hw
  have hf : cs + sd_mc y' ≤ R.cells ∧ ss + sd_mz y' ≤ R.slots := ⟨Nat.le_trans hc.1 hRc, Nat.le_trans hc.2 hRs⟩
  have hroom : 2 * (F0 m pc lsA ((as.reverse ++ r).map (sd_rv ad))).monitorRoom + ((r.map (sd_rv ad)).map fun v => v.category).sum ≤ 8 := lv_room (by rw [sd_cats_eq]; exact hrest)
  have hparm : ∀ n, (sd_mx y').2.2.2.1 - (if (sd_mx y').2.2.2.2.1 = true then 0 else 1) = n → ∀ sig, parseMethodDescriptor (sd_nm y').desc = some sig → n = sig.parameters.length := by
    intro n hn sig hs
    rw [hs] at c7
    rw [← hn]
    exact (Option.some.inj c7).symm
  have hzz := hV.1
  have hB : ∀ ix n, (sd_mx y').2.2.2.1 - (if (sd_mx y').2.2.2.2.1 = true then 0 else 1) = n → Cond.methodLink (sd_nm y).cls ix (sd_nm y') ∈ lw_tbl → CallB R s args (sd_nm y).cls ix (sd_nm y') (sd_by y') (sd_ml y') (sd_rt y') (sd_ws y') (sd_rm y') (sd_mc y') (sd_mz y') n := fun ix n hn hw =>
    ⟨rfl, rfl, hR.1, hR.2, hpay, hcode, hts _ c1, hts _ c5, c6, hparm n hn, hts _ hw⟩
  have fix : CallFix p m c (sd_by y) (sd_ml y) s args lw_tbl (sd_nm y).cls := ⟨hx, hb', hml, hown, hts⟩
  have go : va_Run p l e R s m args below meth c H locs cs ss (sd_mc y') (sd_mz y') (F0 m pc lsA ((as.reverse ++ r).map (sd_rv ad))) (r.map (sd_rv ad)) (sd_Qc D base ad h (fun v h' => (rm = true → sd_OK h') ∧ sd_Wq l sc y rm Q (pc + 3) ls (v.toList ++ r) h' (cs + sd_mc y') (ss + sd_mz y')) (as.map (sd_rv ad)).toArray) (fun q => base ≤ q) := by
    obtain ⟨ix, ⟨d1, d2, d3, d4, T, k, as', rfl, hTT⟩ | ⟨d1, d2, d3⟩ | ⟨d1, d2, d3, d4, d5, T, k, as', rfl⟩⟩ := how
    · obtain ⟨v1, v2⟩ := sd_vtA y' hy d3
      subst hTT
      have hkk := sd_okR (hoka _ List.mem_cons_self) (show sd_vt y' < 46 by omega)
      obtain ⟨cell, g1, g2, g3, -⟩ := hS.ob v1 hkk
      refine va_runV (C := (sd_nm y').cls) (b := ad (sd_vt y') k) (As := as'.map (sd_rv ad)) (n := as'.length) fix hM ⟨hB ix _ ?_ d2, hts _ (c3 d3).1, hts _ (c4 d3 d4)⟩ ⟨sd_blind, ⟨cell, g1, by rw [g3]; rfl, ?_⟩, sd_preU (as := .inr (.inr (sd_vt y', some k)) :: as') hb hzz hS⟩ rfl (by simp) hl.1 (by simp [sd_rv, va_rf]) hroom d1 hf
      · rw [← hlen, d3]; simp
      · rw [g2, ← v2]; exact (hS.1.1 _ _ (sd_cl8 _ v1)).2.1
    · refine va_runS (As := as.map (sd_rv ad)) (n := as.length) fix hM ⟨hB ix _ ?_ d2, hts _ (c2 d3)⟩ ⟨sd_blind, sd_preU hb hzz hS⟩ rfl (by simp) hl.1 (by simp) hroom d1 hf
      rw [← hlen, d3]; simp
    · rcases d2 with d2 | d2
      · have hB' := hB ix as'.length (by rw [← hlen, d3]; simp) d2
        rw [d5] at hB'
        exact va_runI (b := ad T k) (As := as'.map (sd_rv ad)) (n := as'.length) fix hM ⟨hB', d4, hts _ (c3 d3).1⟩ ⟨sd_blind, sd_preU (as := .inr (.inr (T, some k)) :: as') hb hzz hS⟩ rfl (by simp) hl.1 (by simp [sd_rv, va_rf]) hroom d1 hf
      · have hN : va_CN R s args (sd_nm y).cls ix (sd_nm y') "StreamDesk" (sd_by y') (sd_ml y') none (sd_ws y') (sd_rm y') (sd_mc y') (sd_mz y') as'.length := by
          rw [← d5]
          exact ⟨⟨rfl, rfl, hR.1, hR.2, hpay, hcode⟩, hts _ c1, hts _ c5, c6, hparm _ (by rw [← hlen, d3]; simp), hts _ d2⟩
        exact va_runIN (b := ad T k) (As := as'.map (sd_rv ad)) fix hM ⟨hN, d4, hts _ (c3 d3).1⟩ ⟨sd_blind, sd_preU (as := .inr (.inr (T, some k)) :: as') hb hzz hS⟩ rfl (by simp) hl.1 (by simp [sd_rv, va_rf]) hroom d1 hf
  refine sd_goon go hV fun v h' ad' H1 locs1 hQ hx' hS' hV' hrv => ?_
  have w := hQ.2 p e s m args below meth c R D base ad' H1 locs1 lsA Z C hb hS' hV' (by rw [sd_al_ext hx' ls 0 hls]; exact hl) (fun u hu => by
      rcases List.mem_append.mp hu with hu | hu
      · cases v with
        | none => cases hu
        | some w => exact hrv u (by rw [List.mem_singleton.mp hu])
      · exact sd_ok_ext hx' (hokr u hu)) (fun u hu => sd_ok_ext hx' (hls u hu)) hQ.1 (fun L xs e => by rw [hx'.1 sd_nT 0 (Or.inr ⟨rfl, rfl⟩)]; exact hsc L xs e) (hrt.ext hx') hc
  have e1 : (v.toList ++ r).map (sd_rv ad') = sd_rs ad' v ++ r.map (sd_rv ad) := by
    rw [List.map_append, sd_map_ext hx' hokr]
    cases v <;> rfl
  rw [e1] at w
  exact w
theorem sw_ret {v : Option sd_V} (hk : sd_rk y pc v) (hQ : Q v h) : sd_Wq l sc y rm Q pc ls v.toList h cs ss := by
  intro p e s m args below meth c R D base ad H locs lsA Z C hb hS hV hl hst hls hok hsc hrt hcs
  have w := hrt v h ad H locs cs ss pc lsA hQ hok (sd_ext.rf h ad) hS hV hcs.1 hcs.2 (fun u hu => hst u (by rw [hu]; exact List.mem_singleton.mpr rfl)) hk
  cases v <;> exact w
/-! switches -/
def sd_sw (k : Nat → Prop) (x : Int32) (d : Nat) : Int32 → List Nat → Prop
  | _, [] => k d
  | c, t :: ts => (x = c → k t) ∧ (¬ x = c → sd_sw k x d (c + 1) ts)
theorem sd_p1 {c : Int32} (h0 : 0 ≤ c.toInt) (h1 : c.toInt < 100000) : (c + 1).toInt = c.toInt + 1 := by
  rw [Int32.toInt_add]
  have : (1 : Int32).toInt = 1 := rfl
  rw [this]
  exact Int.bmod_eq_of_le (by omega) (by omega)
theorem sd_sw_in {k : Nat → Prop} {x : Int32} {d : Nat} : ∀ (ts : List Nat) (c : Int32) (j t : Nat), 0 ≤ c.toInt → c.toInt + (ts.length : Int) < 100000 → x.toInt = c.toInt + (j : Int) → ts[j]? = some t → sd_sw k x d c ts → k t
  | [], _, _, _, _, _, _, h, _ => by simp at h
  | a :: ts, c, 0, t, h0, h1, hx, ht, hs => by
    simp at ht
    rw [← ht]
    exact hs.1 (Int32.toInt_inj.mp (by rw [hx]; simp))
  | a :: ts, c, j + 1, t, h0, h1, hx, ht, hs => by
    have hlen : ((a :: ts).length : Int) = (ts.length : Int) + 1 := by simp
    rw [hlen] at h1
    have hc1 := sd_p1 h0 (by omega)
    have hne : ¬ x = c := fun e => by rw [e] at hx; omega
    exact sd_sw_in ts (c + 1) j t (by omega) (by omega) (by rw [hc1, hx]; omega) (by simpa using ht) (hs.2 hne)
theorem sd_sw_out {k : Nat → Prop} {x : Int32} {d : Nat} : ∀ (ts : List Nat) (c : Int32), 0 ≤ c.toInt → c.toInt + (ts.length : Int) < 100000 → (x.toInt < c.toInt ∨ c.toInt + (ts.length : Int) ≤ x.toInt) → sd_sw k x d c ts → k d
  | [], _, _, _, _, hs => hs
  | a :: ts, c, h0, h1, hx, hs => by
    have hlen : ((a :: ts).length : Int) = (ts.length : Int) + 1 := by simp
    rw [hlen] at h1 hx
    have hc1 := sd_p1 h0 (by omega)
    have hne : ¬ x = c := fun e => by rw [e] at hx; omega
    exact sd_sw_out ts (c + 1) (by omega) (by omega) (by omega) (hs.2 hne)
theorem sw_tab {df lo hi : Int} {of : Array Int} {len d : Nat} {x c0 : Int32} {ts : List Nat} (hd : decode (sd_by y) pc = .ok (.tableswitch df lo hi of, len)) (h1 : (pc : Int) + df = (d : Int)) (h2 : lo = c0.toInt) (h3 : hi = lo + (ts.length : Int) - 1) (h4 : 0 ≤ lo) (h5 : hi < 1000) (h6 : of.toList.map (fun o => (pc : Int) + o) = ts.map (fun t : Nat => (t : Int)))
    (kk : sd_sw (fun t => sd_Wq l sc y rm Q t ls r h cs ss) x d c0 ts) : sd_Wq l sc y rm Q pc ls (.inl x :: r) h cs ss := by
  have key : ∀ (t : Nat) (off : Int), (pc : Int) + off = (t : Int) → ((¬ x.toInt < lo ∧ ¬ hi < x.toInt ∧ of[(x.toInt - lo).toNat]? = some off) ∨ ((x.toInt < lo ∨ hi < x.toInt) ∧ off = df)) → sd_Wq l sc y rm Q t ls r h cs ss → sd_Wq l sc y rm Q pc ls (.inl x :: r) h cs ss := by
    intro t off ht hcase k
    intro p e s m args below meth c R D base ad H locs lsA Z C hb hS hV hl hst hls hok hsc hrt hcs
    have w := k p e s m args below meth c R D base ad H locs lsA Z C hb hS hV hl (sd_o1 hst) hls hok hsc hrt hcs
    rcases hcase with ⟨q1, q2, q3⟩ | ⟨q1, rfl⟩
    · exact lv_tableIn C.1 C.2.1 hd q1 q2 q3 ht w
    · exact lv_tableOut C.1 C.2.1 hd q1 ht w
  by_cases hr : x.toInt < lo ∨ hi < x.toInt
  · exact key d df h1 (Or.inr ⟨hr, rfl⟩) (sd_sw_out (x := x) (k := fun t => sd_Wq l sc y rm Q t ls r h cs ss) ts c0 (by omega) (by omega) (by omega) kk)
  · have hj : (x.toInt - lo).toNat < ts.length := by omega
    obtain ⟨j, hjj⟩ : ∃ j : Nat, j = (x.toInt - lo).toNat := ⟨_, rfl⟩
    rw [← hjj] at hj
    have hl2 : of.toList.length = ts.length := by
      have := congrArg List.length h6
      simpa using this
    have ho : j < of.toList.length := by rw [hl2]; exact hj
    have e6 : (pc : Int) + of.toList[j] = (ts[j] : Int) := by
      have := congrArg (fun l : List Int => l[j]?) h6
      simp only [List.getElem?_map, List.getElem?_eq_getElem ho, List.getElem?_eq_getElem hj, Option.map_some, Option.some.injEq] at this
      exact this
    refine key ts[j] of.toList[j] e6 (Or.inl ⟨fun q => hr (Or.inl q), fun q => hr (Or.inr q), ?_⟩) (sd_sw_in (x := x) (k := fun t => sd_Wq l sc y rm Q t ls r h cs ss) ts c0 j ts[j] (by omega) (by omega) (by omega) (List.getElem?_eq_getElem hj) kk)
    rw [← hjj, ← Array.getElem?_toList, List.getElem?_eq_getElem ho]
end SK
/-! a method's contract out of its body -/
def sd_en : List sd_V → List (Option sd_V)
  | [] => []
  | .inr (.inl x) :: t => some (.inr (.inl x)) :: none :: sd_en t
  | v :: t => some v :: sd_en t
theorem sd_en_len (ad : sd_A) : ∀ as : List sd_V, (lg_sl (as.map (sd_rv ad))).length = (sd_en as).length
  | [] => rfl
  | .inl x :: t => by simpa [lg_sl, sd_rv, sd_en, Value.category] using sd_en_len ad t
  | .inr (.inl x) :: t => by simpa [lg_sl, sd_rv, sd_en, Value.category] using sd_en_len ad t
  | .inr (.inr (u, none)) :: t => by simpa [lg_sl, sd_rv, sd_en, va_rf, Value.category] using sd_en_len ad t
  | .inr (.inr (u, some k)) :: t => by simpa [lg_sl, sd_rv, sd_en, va_rf, Value.category] using sd_en_len ad t
theorem sd_al_app (ad : sd_A) (n : Nat) : ∀ (ls : List (Option sd_V)) (b : Nat), sd_al ad b (ls ++ List.replicate n none) = sd_al ad b ls
  | [], b => by
    induction n generalizing b with
    | zero => rfl
    | succ n ih => exact ih (b + 1)
  | none :: t, b => sd_al_app ad n t (b + 1)
  | some v :: t, b => by
    show (b, sd_rv ad v) :: sd_al ad (b + 1) (t ++ List.replicate n none) = (b, sd_rv ad v) :: sd_al ad (b + 1) t
    rw [sd_al_app ad n t (b + 1)]
theorem sd_al_en (ad : sd_A) : ∀ (as : List sd_V) (b : Nat), sd_al ad b (sd_en as) = lv_args b (as.map (sd_rv ad))
  | [], _ => rfl
  | .inl x :: t, b => by
    show (b, _) :: sd_al ad (b + 1) (sd_en t) = (b, _) :: lv_args _ _
    rw [sd_al_en ad t (b + 1)]; rfl
  | .inr (.inl x) :: t, b => by
    show (b, _) :: sd_al ad (b + 2) (sd_en t) = (b, _) :: lv_args _ _
    rw [sd_al_en ad t (b + 2)]; rfl
  | .inr (.inr (u, none)) :: t, b => by
    show (b, _) :: sd_al ad (b + 1) (sd_en t) = (b, _) :: lv_args _ _
    rw [sd_al_en ad t (b + 1)]; rfl
  | .inr (.inr (u, some k)) :: t, b => by
    show (b, _) :: sd_al ad (b + 1) (sd_en t) = (b, _) :: lv_args _ _
    rw [sd_al_en ad t (b + 1)]; rfl
theorem sd_en_ok {h : sd_H} : ∀ (as : List sd_V), (∀ v ∈ as, sd_ok h v) → ∀ v, some v ∈ sd_en as → sd_ok h v
  | [], _, _, hv => by cases hv
  | .inl x :: t, ho, v, hv => by
    rcases List.mem_cons.mp hv with hv | hv
    · cases hv; exact ho _ List.mem_cons_self
    · exact sd_en_ok t (fun u hu => ho u (List.mem_cons_of_mem _ hu)) v hv
  | .inr (.inl x) :: t, ho, v, hv => by
    rcases List.mem_cons.mp hv with hv | hv
    · cases hv; exact ho _ List.mem_cons_self
    · rcases List.mem_cons.mp hv with hv | hv
      · cases hv
      · exact sd_en_ok t (fun u hu => ho u (List.mem_cons_of_mem _ hu)) v hv
  | .inr (.inr q) :: t, ho, v, hv => by
    rcases List.mem_cons.mp hv with hv | hv
    · cases hv; exact ho _ List.mem_cons_self
    · exact sd_en_ok t (fun u hu => ho u (List.mem_cons_of_mem _ hu)) v hv
def sd_in (y : Nat) (as : List sd_V) : List (Option sd_V) := sd_en as ++ List.replicate (sd_ml y - (sd_en as).length) none
theorem sd_intro {l : Launch} {y : Nat} {rm : Bool} {Q Q2 : Option sd_V → sd_H → Prop} {h : sd_H} {as : List sd_V} (hy : y < 145) (hok : rm = true → sd_OK h) (hQ2 : ∀ v h', Q v h' → (rm = true → sd_OK h') → Q2 v h') (hlen : (sd_en as).length ≤ sd_ml y)
    (hw : sd_Wq l none y rm Q 0 (sd_in y as) [] h 0 0) : sd_E l y as h Q2 := by
  intro hoka D base ad
  obtain ⟨c1, -, -, -, -, -, -, -, c9⟩ := sd_cms hy
  refine MetFree.of_bodySF (code := sd_by y) (maxLocals := sd_ml y) (ret := sd_rt y) c9 ?_ ?_
  · intro args s m hpre hn
    obtain ⟨meth, c, h1, h2, h3, h4, h5, h6, -, -⟩ := Cond.code_spec hn (atoms_spec (ws := sd_ws y) hpre _ List.mem_cons_self)
    exact ⟨meth, c, h1, h2, h3, h4, h5, h6⟩
  · intro p e s m args below meth c s₁ B hml hP _
    have hh0 : s₁.heap = s.heap := by rw [B.state]; rfl
    obtain ⟨rfl, hbs, hS⟩ := hP
    have hts := atoms_spec (ws := sd_ws y) B.pre
    have C : sd_C p s m (as.map (sd_rv ad)).toArray meth c (headSpec (sd_ws y) (sd_rm y)).room y :=
      ⟨B.exec, B.bytes, hml, findClass_of_methodNamed B.named, fun w hw => hts w (List.mem_cons_of_mem _ hw), B.notSynchronized, B.returns, (name_of_methodNamed B.named B.method).1, Nat.le_refl _, Nat.le_refl _, Nat.le_refl _, Nat.le_refl _⟩
    have hl := lv_entry (as.map (sd_rv ad)) (n := sd_ml y) (by rw [sd_en_len]; exact hlen)
    have K : W p l e (headSpec (sd_ws y) (sd_rm y)).room s m (as.map (sd_rv ad)).toArray below meth c s.heap [] 0 0 (MQ below (sd_Qc D base ad h Q2) (as.map (sd_rv ad)).toArray s (sd_mc y) (sd_mz y) (fun q => base ≤ q)) (entryFrame m (as.map (sd_rv ad)).toArray (sd_ml y)) := by
      rw [lg_entry_eq]
      refine hw p e s m _ below meth c _ D base ad s.heap [] _ _ C hbs hS va_S.rf (by rw [sd_in, sd_al_app, sd_al_en]; exact hl) (fun v hv => by cases hv) (fun v hv => ?_) hok (fun L xs q => by cases q) ?_ ⟨Nat.zero_le _, Nat.zero_le _⟩
      · rcases List.mem_append.mp hv with hv | hv
        · exact sd_en_ok as hoka v hv
        · rw [List.mem_replicate] at hv; cases hv.2
      · intro r h' ad' H' locs' cs' ss' pc' lsA' q1 q2 q3 q4 q5 q6 q7 q8 q9
        refine W.widen (k := sd_mc y) (n := sd_mz y) q6 q7 ?_
        have fin : ∀ t : State, t.heap = H' → s.WarmedH t.vm → sd_Qc D base ad h Q2 (as.map (sd_rv ad)).toArray s (.returned (r.map (sd_rv ad'))) t := fun t ht hWm => ⟨r, h', ad', rfl, hQ2 r h' q1 q2, q3, by rw [ht]; exact q4.moved hWm.alike, q8, q5.F ht⟩
        rcases r with _ | x | x | z
        · exact W.vret B.exec B.bytes (B.returns.trans q9.2) fin q5.2.2 q9.1
        · rcases q9.2 with hr | ⟨hr, hx⟩
          · exact W.iret B.exec B.bytes (B.returns.trans hr) fin q5.2.2 q9.1
          · refine W.zret (ty := .boolean) B.exec B.bytes (B.returns.trans hr) ?_ fin q5.2.2 q9.1
            rcases hx with rfl | rfl <;> decide
        · exact W.lret B.exec B.bytes (B.returns.trans q9.2) fin q5.2.2 q9.1
        · obtain ⟨n, hn⟩ := q9.2
          exact W.aret B.exec B.bytes (B.returns.trans hn) (Or.inl ⟨n, rfl⟩) (sd_rv_null ad' z) fin q5.2.2 q9.1
    obtain ⟨t, a1, o, b1, b2, b3⟩ := K s₁ hh0 (Stand.of_body B)
    exact ⟨t, o, a1, b1, b2, ⟨b3.1, b3.2⟩⟩
end
section
/-! the weakest condition of a stretch of bytecode, computed; and that it is enough -/
def sd_pop : Nat → List sd_V → List sd_V → Option (List sd_V × List sd_V)
  | 0, st, acc => some (acc, st)
  | n + 1, v :: t, acc => sd_pop n t (v :: acc)
  | _ + 1, [], _ => none
theorem sd_pop_eq : ∀ (n : Nat) (st acc as r : List sd_V), sd_pop n st acc = some (as, r) → ∃ a' : List sd_V, as = a' ++ acc ∧ st = a'.reverse ++ r ∧ a'.length = n
  | 0, st, acc, as, r, h => by cases h; exact ⟨[], rfl, rfl, rfl⟩
  | n + 1, [], acc, as, r, h => by cases h
  | n + 1, v :: t, acc, as, r, h => by
    obtain ⟨a', e1, e2, e3⟩ := sd_pop_eq n t (v :: acc) as r h
    exact ⟨a' ++ [v], by rw [e1]; simp, by rw [e2]; simp, by simp [e3]⟩
theorem sd_E_mono {l : Launch} {y : Nat} {as : List sd_V} {h : sd_H} {Q Q' : Option sd_V → sd_H → Prop} (hE : sd_E l y as h Q) (hQ : ∀ v h', Q v h' → Q' v h') : sd_E l y as h Q' := by
  intro hoka D base ad p e ha hc hk s m args below hf happ hP hK
  obtain ⟨n, o, q1, q2, q3, ⟨r, h', ad', w1, w2, w3⟩, q5⟩ := hE hoka D base ad p e ha hc hk s m args below hf happ hP hK
  exact ⟨n, o, q1, q2, q3, ⟨r, h', ad', w1, hQ r h' w2, w3⟩, q5⟩
abbrev sd_Rc : Type := Nat → List (Option sd_V) → List sd_V → sd_H → Nat → Nat → Prop
/-- the reference in a field: set once for all, where the mode says so -/
def sd_ro (rm : Bool) (h : sd_H) (T k i own : Nat) : Option Nat := cond rm (match own with
  | 1 => some k
  | 2 => some 0
  | _ => h.2.2.1 T k i) (h.2.2.1 T k i)
def sd_X1 (rec : sd_Rc) (nx : Nat) (ls : List (Option sd_V)) (r : List sd_V) (h : sd_H) (cs ss : Nat) (l : Launch) (rm : Bool) (y a1 : Nat) (as : List sd_V) (ts : List Nat) : Prop := match ts with
  | [mc, ms] => cond (Nat.beq mc 0 && Nat.beq ms 0)
      (cond rm (sd_E1 l a1 as h (fun v h' => rec nx ls (v.toList ++ r) h' cs ss)) (sd_E l a1 as h (fun v h' => rec nx ls (v.toList ++ r) h' cs ss)))
      ((cs + mc ≤ sd_mc y ∧ ss + ms ≤ sd_mz y) ∧ cond rm (sd_E1 l a1 as h (fun v h' => rec nx ls (v.toList ++ r) h' (cs + mc) (ss + ms))) (sd_E l a1 as h (fun v h' => rec nx ls (v.toList ++ r) h' (cs + mc) (ss + ms))))
  | _ => False
def sd_X (l : Launch) (sc : Option (Nat × (Nat → Int32))) (y : Nat) (rm : Bool) (Q : Option sd_V → sd_H → Prop) (rec : sd_Rc) (q : sd_I) (ls : List (Option sd_V)) (st : List sd_V) (h : sd_H) (cs ss : Nat) : Prop := match q with
  | (_, i, nx, a1, a2, a3, a4, _, c, d, ts) => match i with
    | .iconst _ => rec nx ls (.inl c :: st) h cs ss
    | .bipush _ => rec nx ls (.inl c :: st) h cs ss
    | .sipush _ => rec nx ls (.inl c :: st) h cs ss
    | .ldc _ => rec nx ls (.inl c :: st) h cs ss
    | .ldc_w _ => rec nx ls (.inl c :: st) h cs ss
    | .lconst _ => rec nx ls (.inr (.inl d) :: st) h cs ss
    | .ldc2_w _ => rec nx ls (.inr (.inl d) :: st) h cs ss
    | .aconst_null => rec nx ls (.inr (.inr (0, none)) :: st) h cs ss
    | .iload_n _ => match sd_g ls a1 with | some (.inl x) => rec nx ls (.inl x :: st) h cs ss | _ => False
    | .iload _ => match sd_g ls a1 with | some (.inl x) => rec nx ls (.inl x :: st) h cs ss | _ => False
    | .lload_n _ => match sd_g ls a1 with | some (.inr (.inl x)) => rec nx ls (.inr (.inl x) :: st) h cs ss | _ => False
    | .lload _ => match sd_g ls a1 with | some (.inr (.inl x)) => rec nx ls (.inr (.inl x) :: st) h cs ss | _ => False
    | .aload_n _ => match sd_g ls a1 with | some (.inr (.inr x)) => rec nx ls (.inr (.inr x) :: st) h cs ss | _ => False
    | .aload _ => match sd_g ls a1 with | some (.inr (.inr x)) => rec nx ls (.inr (.inr x) :: st) h cs ss | _ => False
    | .istore_n _ => match st with | .inl x :: r => rec nx (sd_s1 ls a1 (.inl x)) r h cs ss | _ => False
    | .istore _ => match st with | .inl x :: r => rec nx (sd_s1 ls a1 (.inl x)) r h cs ss | _ => False
    | .lstore_n _ => match st with | .inr (.inl x) :: r => rec nx (sd_s2 ls a1 (.inr (.inl x))) r h cs ss | _ => False
    | .lstore _ => match st with | .inr (.inl x) :: r => rec nx (sd_s2 ls a1 (.inr (.inl x))) r h cs ss | _ => False
    | .astore_n _ => match st with | .inr (.inr x) :: r => rec nx (sd_s1 ls a1 (.inr (.inr x))) r h cs ss | _ => False
    | .astore _ => match st with | .inr (.inr x) :: r => rec nx (sd_s1 ls a1 (.inr (.inr x))) r h cs ss | _ => False
    | .iinc _ _ => match sd_g ls a1 with | some (.inl x) => rec nx (sd_s1 ls a1 (.inl (x + c))) st h cs ss | _ => False
    | .iadd => match st with | .inl z :: .inl x :: r => rec nx ls (.inl (x + z) :: r) h cs ss | _ => False
    | .isub => match st with | .inl z :: .inl x :: r => rec nx ls (.inl (x - z) :: r) h cs ss | _ => False
    | .imul => match st with | .inl z :: .inl x :: r => rec nx ls (.inl (x * z) :: r) h cs ss | _ => False
    | .iand => match st with | .inl z :: .inl x :: r => rec nx ls (.inl (x &&& z) :: r) h cs ss | _ => False
    | .ior => match st with | .inl z :: .inl x :: r => rec nx ls (.inl (x ||| z) :: r) h cs ss | _ => False
    | .ixor => match st with | .inl z :: .inl x :: r => rec nx ls (.inl (x ^^^ z) :: r) h cs ss | _ => False
    | .ishl => match st with | .inl z :: .inl x :: r => rec nx ls (.inl (x <<< (z &&& 31)) :: r) h cs ss | _ => False
    | .ishr => match st with | .inl z :: .inl x :: r => rec nx ls (.inl (x >>> (z &&& 31)) :: r) h cs ss | _ => False
    | .idiv => match st with | .inl z :: .inl x :: r => (¬ z = 0) ∧ rec nx ls (.inl (x / z) :: r) h cs ss | _ => False
    | .irem => match st with | .inl z :: .inl x :: r => (¬ z = 0) ∧ rec nx ls (.inl (x - x / z * z) :: r) h cs ss | _ => False
    | .ineg => match st with | .inl x :: r => rec nx ls (.inl (-x) :: r) h cs ss | _ => False
    | .ladd => match st with | .inr (.inl z) :: .inr (.inl x) :: r => rec nx ls (.inr (.inl (x + z)) :: r) h cs ss | _ => False
    | .lsub => match st with | .inr (.inl z) :: .inr (.inl x) :: r => rec nx ls (.inr (.inl (x - z)) :: r) h cs ss | _ => False
    | .lmul => match st with | .inr (.inl z) :: .inr (.inl x) :: r => rec nx ls (.inr (.inl (x * z)) :: r) h cs ss | _ => False
    | .land => match st with | .inr (.inl z) :: .inr (.inl x) :: r => rec nx ls (.inr (.inl (x &&& z)) :: r) h cs ss | _ => False
    | .lor => match st with | .inr (.inl z) :: .inr (.inl x) :: r => rec nx ls (.inr (.inl (x ||| z)) :: r) h cs ss | _ => False
    | .lxor => match st with | .inr (.inl z) :: .inr (.inl x) :: r => rec nx ls (.inr (.inl (x ^^^ z)) :: r) h cs ss | _ => False
    | .ldiv => match st with | .inr (.inl z) :: .inr (.inl x) :: r => (¬ z = 0) ∧ rec nx ls (.inr (.inl (x / z)) :: r) h cs ss | _ => False
    | .lrem => match st with | .inr (.inl z) :: .inr (.inl x) :: r => (¬ z = 0) ∧ rec nx ls (.inr (.inl (x - x / z * z)) :: r) h cs ss | _ => False
    | .lshl => match st with | .inl z :: .inr (.inl x) :: r => rec nx ls (.inr (.inl (x <<< (z.toInt64 &&& 63))) :: r) h cs ss | _ => False
    | .lshr => match st with | .inl z :: .inr (.inl x) :: r => rec nx ls (.inr (.inl (x >>> (z.toInt64 &&& 63))) :: r) h cs ss | _ => False
    | .lushr => match st with | .inl z :: .inr (.inl x) :: r => rec nx ls (.inr (.inl ((x.toUInt64 >>> (z.toInt64.toUInt64 &&& Int64.toUInt64 63)).toInt64)) :: r) h cs ss | _ => False
    | .i2l => match st with | .inl x :: r => rec nx ls (.inr (.inl x.toInt64) :: r) h cs ss | _ => False
    | .l2i => match st with | .inr (.inl x) :: r => rec nx ls (.inl x.toInt32 :: r) h cs ss | _ => False
    | .lcmp => match st with | .inr (.inl z) :: .inr (.inl x) :: r => rec nx ls (.inl (lg_cmp x z) :: r) h cs ss | _ => False
    | .dup => match st with | .inl x :: r => rec nx ls (.inl x :: .inl x :: r) h cs ss | .inr (.inr x) :: r => rec nx ls (.inr (.inr x) :: .inr (.inr x) :: r) h cs ss | _ => False
    | .pop => match st with | .inl _ :: r => rec nx ls r h cs ss | .inr (.inr _) :: r => rec nx ls r h cs ss | _ => False
    | .dup2 => match st with | .inl x :: .inr (.inr z) :: r => rec nx ls (.inl x :: .inr (.inr z) :: .inl x :: .inr (.inr z) :: r) h cs ss | _ => False
    | .ifCond .eq _ => match st with | .inl x :: r => (x = 0 → rec a1 ls r h cs ss) ∧ (¬ x = 0 → rec nx ls r h cs ss) | _ => False
    | .ifCond .ne _ => match st with | .inl x :: r => (¬ x = 0 → rec a1 ls r h cs ss) ∧ (x = 0 → rec nx ls r h cs ss) | _ => False
    | .ifCond .lt _ => match st with | .inl x :: r => (x < 0 → rec a1 ls r h cs ss) ∧ (¬ x < 0 → rec nx ls r h cs ss) | _ => False
    | .ifCond .ge _ => match st with | .inl x :: r => (0 ≤ x → rec a1 ls r h cs ss) ∧ (¬ 0 ≤ x → rec nx ls r h cs ss) | _ => False
    | .ifCond .gt _ => match st with | .inl x :: r => (0 < x → rec a1 ls r h cs ss) ∧ (¬ 0 < x → rec nx ls r h cs ss) | _ => False
    | .ifCond .le _ => match st with | .inl x :: r => (x ≤ 0 → rec a1 ls r h cs ss) ∧ (¬ x ≤ 0 → rec nx ls r h cs ss) | _ => False
    | .if_icmp .eq _ => match st with | .inl z :: .inl x :: r => (x = z → rec a1 ls r h cs ss) ∧ (¬ x = z → rec nx ls r h cs ss) | _ => False
    | .if_icmp .ne _ => match st with | .inl z :: .inl x :: r => (¬ x = z → rec a1 ls r h cs ss) ∧ (x = z → rec nx ls r h cs ss) | _ => False
    | .if_icmp .lt _ => match st with | .inl z :: .inl x :: r => (x < z → rec a1 ls r h cs ss) ∧ (¬ x < z → rec nx ls r h cs ss) | _ => False
    | .if_icmp .ge _ => match st with | .inl z :: .inl x :: r => (z ≤ x → rec a1 ls r h cs ss) ∧ (¬ z ≤ x → rec nx ls r h cs ss) | _ => False
    | .if_icmp .gt _ => match st with | .inl z :: .inl x :: r => (z < x → rec a1 ls r h cs ss) ∧ (¬ z < x → rec nx ls r h cs ss) | _ => False
    | .if_icmp .le _ => match st with | .inl z :: .inl x :: r => (x ≤ z → rec a1 ls r h cs ss) ∧ (¬ x ≤ z → rec nx ls r h cs ss) | _ => False
    | .goto _ => rec a1 ls st h cs ss
    | .ifnull _ => match st with | .inr (.inr x) :: r => (x.2 = none → rec a1 ls r h cs ss) ∧ (∀ n, x.2 = some n → rec nx ls r h cs ss) | _ => False
    | .ifnonnull _ => match st with | .inr (.inr x) :: r => (∀ n, x.2 = some n → rec a1 ls r h cs ss) ∧ (x.2 = none → rec nx ls r h cs ss) | _ => False
    | .tableswitch _ _ _ _ => match st with | .inl x :: r => sd_sw (fun t => rec t ls r h cs ss) x a1 c ts | _ => False
    | .getfield _ => match st with
      | .inr (.inr (t, some k)) :: r => cond (Nat.beq t a1) (match a3 with
        | 0 => rec nx ls (.inl (h.1 a1 k a2) :: r) h cs ss
        | 1 => rec nx ls (.inr (.inl (h.2.1 a1 k a2)) :: r) h cs ss
        | 2 => rec nx ls (.inl (h.1 a1 k a2) :: r) h cs ss
        | u + 3 => rec nx ls (.inr (.inr (u, sd_ro rm h a1 k a2 a4)) :: r) h cs ss) False
      | _ => False
    | .putfield _ => match st with
      | .inl x :: .inr (.inr (t, some k)) :: r => cond (Nat.beq t a1) (match a3 with
        | 0 => rec nx ls r (sd_pi h a1 k a2 x) cs ss
        | 2 => (x = 0 ∨ x = 1) ∧ rec nx ls r (sd_pi h a1 k a2 x) cs ss
        | _ => False) False
      | .inr (.inl x) :: .inr (.inr (t, some k)) :: r => cond (Nat.beq t a1 && Nat.beq a3 1) (rec nx ls r (sd_pl h a1 k a2 x) cs ss) False
      | .inr (.inr x) :: .inr (.inr (t, some k)) :: r => cond (Nat.beq t a1 && !rm && Nat.beq a3 (x.1 + 3) && Nat.blt x.1 sd_nT) (rec nx ls r (sd_pr h a1 k a2 x.2) cs ss) False
      | _ => False
    | .iaload => match st with
      | .inl j :: .inr (.inr (t, some k)) :: r => cond (Nat.beq t sd_nT) (match sc with
        | some (L, xs) => k = 0 ∧ ∃ n : Nat, (n < L ∧ L < 2147483648 ∧ j = nI n) ∧ rec nx ls (.inl (xs n) :: r) h cs ss
        | none => False)
        (cond (Nat.ble 8 t && Nat.blt t sd_nT && Nat.beq (sd_fc t 0) 0) (∃ n : Nat, (n < sd_tn t ∧ j = nI n) ∧ rec nx ls (.inl (h.1 t k n) :: r) h cs ss) False)
      | _ => False
    | .laload => match st with
      | .inl j :: .inr (.inr (t, some k)) :: r => cond (Nat.ble 8 t && Nat.blt t sd_nT && Nat.beq (sd_fc t 0) 1) (∃ n : Nat, (n < sd_tn t ∧ j = nI n) ∧ rec nx ls (.inr (.inl (h.2.1 t k n)) :: r) h cs ss) False
      | _ => False
    | .baload => match st with
      | .inl j :: .inr (.inr (t, some k)) :: r => cond (Nat.ble 8 t && Nat.blt t sd_nT && Nat.beq (sd_fc t 0) 2) (∃ n : Nat, (n < sd_tn t ∧ j = nI n) ∧ rec nx ls (.inl (h.1 t k n) :: r) h cs ss) False
      | _ => False
    | .aaload => match st with
      | .inl j :: .inr (.inr (t, some k)) :: r => cond (Nat.ble 8 t && Nat.blt t sd_nT && Nat.ble 3 (sd_fc t 0)) (∃ n : Nat, (n < sd_tn t ∧ j = nI n) ∧ rec nx ls (.inr (.inr (sd_fc t 0 - 3, h.2.2.1 t k n)) :: r) h cs ss) False
      | _ => False
    | .iastore => match st with
      | .inl x :: .inl j :: .inr (.inr (t, some k)) :: r => cond (Nat.ble 8 t && Nat.blt t sd_nT && Nat.beq (sd_fc t 0) 0) (∃ n : Nat, (n < sd_tn t ∧ j = nI n) ∧ rec nx ls r (sd_pi h t k n x) cs ss) False
      | _ => False
    | .bastore => match st with
      | .inl x :: .inl j :: .inr (.inr (t, some k)) :: r => cond (Nat.ble 8 t && Nat.blt t sd_nT && Nat.beq (sd_fc t 0) 2) (∃ n : Nat, (n < sd_tn t ∧ j = nI n ∧ (x = 0 ∨ x = 1)) ∧ rec nx ls r (sd_pi h t k n x) cs ss) False
      | _ => False
    | .lastore => match st with
      | .inr (.inl x) :: .inl j :: .inr (.inr (t, some k)) :: r => cond (Nat.ble 8 t && Nat.blt t sd_nT && Nat.beq (sd_fc t 0) 1) (∃ n : Nat, (n < sd_tn t ∧ j = nI n) ∧ rec nx ls r (sd_pl h t k n x) cs ss) False
      | _ => False
    | .aastore => match st with
      | .inr (.inr (u, some o)) :: .inl j :: .inr (.inr (t, some k)) :: r => cond (Nat.ble 8 t && Nat.blt t sd_nT && Nat.beq (sd_fc t 0) (u + 3) && Nat.blt u 8) (∃ n : Nat, (n < sd_tn t ∧ j = nI n) ∧ rec nx ls r (sd_pr h t k n (some o)) cs ss) False
      | _ => False
    | .arraylength => match st with
      | .inr (.inr (t, some k)) :: r => cond (Nat.beq t sd_nT && Nat.beq k 0) (match sc with
        | some (L, _) => rec nx ls (.inl (nI L) :: r) h cs ss
        | none => False) False
      | _ => False
    | .new _ => cond (!rm && Nat.ble (cs + 1) (sd_mc y) && Nat.ble (ss + a2) (sd_mz y)) (rec nx ls (.inr (.inr (a1, some (h.2.2.2 a1))) :: st) (sd_nw h a1) (cs + 1) (ss + a2)) False
    | .newarray _ => match st with | .inl x :: r => cond (!rm && Nat.ble (cs + 1) (sd_mc y) && Nat.ble (ss + a2) (sd_mz y)) (x = nI a2 ∧ rec nx ls (.inr (.inr (a1, some (h.2.2.2 a1))) :: r) (sd_nw h a1) (cs + 1) (ss + a2)) False | _ => False
    | .anewarray _ => match st with | .inl x :: r => cond (!rm && Nat.ble (cs + 1) (sd_mc y) && Nat.ble (ss + a2) (sd_mz y)) (x = nI a2 ∧ rec nx ls (.inr (.inr (a1, some (h.2.2.2 a1))) :: r) (sd_nw h a1) (cs + 1) (ss + a2)) False | _ => False
    | .invokevirtual _ => match sd_pop a2 st [] with
      | some (.inr (.inr (t, some k)) :: as, r) => cond (Nat.beq t (sd_vt a1) && Nat.ble (sd_cats r) 8) (sd_X1 rec nx ls r h cs ss l rm y a1 (.inr (.inr (t, some k)) :: as) ts) False
      | _ => False
    | .invokestatic _ => match sd_pop a2 st [] with
      | some (as, r) => cond (Nat.ble (sd_cats r) 8) (sd_X1 rec nx ls r h cs ss l rm y a1 as ts) False
      | _ => False
    | .invokespecial _ => cond (Nat.beq a4 3) (match st with | [.inr (.inr (_, some _))] => rec nx ls [] h cs ss | _ => False) (match sd_pop a2 st [] with
      | some (.inr (.inr (t, some k)) :: as, r) => cond (Nat.ble (sd_cats r) 8) (sd_X1 rec nx ls r h cs ss l rm y a1 (.inr (.inr (t, some k)) :: as) ts) False
      | _ => False)
    | .ireturn => match st with | [.inl x] => (match sd_rt y with | some .int => Q (some (.inl x)) h | some .boolean => (x = 0 ∨ x = 1) ∧ Q (some (.inl x)) h | _ => False) | _ => False
    | .lreturn => match st with | [.inr (.inl x)] => (match sd_rt y with | some .long => Q (some (.inr (.inl x))) h | _ => False) | _ => False
    | .areturn => match st with | [.inr (.inr x)] => (match sd_rt y with | some (.object _) => Q (some (.inr (.inr x))) h | _ => False) | _ => False
    | .return_ => match st with | [] => (match sd_rt y with | none => Q none h | _ => False) | _ => False
    | _ => False
theorem sd_beq {a b : Nat} (h : Nat.beq a b = true) : a = b := Nat.eq_of_beq_eq_true h
theorem sd_ble {a b : Nat} (h : Nat.ble a b = true) : a ≤ b := Nat.le_of_ble_eq_true h
theorem sd_blt {a b : Nat} (h : Nat.blt a b = true) : a < b := Nat.le_of_ble_eq_true h
theorem sd_cd_t {b : Bool} {P Q : Prop} (h : cond b P Q) : (b = true ∧ P) ∨ (b = false ∧ Q) := by cases b; exact Or.inr ⟨rfl, h⟩; exact Or.inl ⟨rfl, h⟩
theorem sd_cd_f {b : Bool} {P : Prop} (h : cond b P False) : b = true ∧ P := by cases b; exact h.elim; exact ⟨rfl, h⟩
theorem sd_ob_init2 : Cond.instanceMethod Lib.objectInit ∈ lw_tbl := by decide +kernel
theorem sd_ob_init3 : Cond.code Lib.objectInit ⟨#[0xb1]⟩ 1 none ∈ lw_tbl := by decide +kernel
section SX
variable {l : Launch} {sc : Option (Nat × (Nat → Int32))} {y : Nat} {rm : Bool} {Q : Option sd_V → sd_H → Prop} {rec : sd_Rc} {ls : List (Option sd_V)} {st : List sd_V} {h : sd_H} {cs ss : Nat}
theorem sd_X1s {nx a1 pc : Nat} {as r : List sd_V} {ts : List Nat} (hrec : ∀ pc ls st h cs ss, rec pc ls st h cs ss → sd_Wq l sc y rm Q pc ls st h cs ss) (hy : a1 < 145) (how : sd_how y a1 pc as) (hnx : nx = pc + 3) (hlen : as.length = (sd_mx a1).2.2.2.1) (hdp : sd_dp a1 + 1 ≤ sd_dp y) (hrest : sd_cats r ≤ 8) (hts : ts = [sd_mc a1, sd_mz a1])
    (hx : sd_X1 rec nx ls r h cs ss l rm y a1 as ts) (hcs : cs ≤ sd_mc y ∧ ss ≤ sd_mz y) : sd_Wq l sc y rm Q pc ls (as.reverse ++ r) h cs ss := by
  subst hts; subst hnx
  unfold sd_X1 at hx
  dsimp only at hx
  have fin : ∀ (cs' ss' : Nat), cs' = cs + sd_mc a1 → ss' = ss + sd_mz a1 → (cs + sd_mc a1 ≤ sd_mc y ∧ ss + sd_mz a1 ≤ sd_mz y) → cond rm (sd_E1 l a1 as h (fun v h' => rec (pc + 3) ls (v.toList ++ r) h' cs' ss')) (sd_E l a1 as h (fun v h' => rec (pc + 3) ls (v.toList ++ r) h' cs' ss')) → sd_Wq l sc y rm Q pc ls (as.reverse ++ r) h cs ss := by
    intro cs' ss' e1 e2 hc hE
    subst e1; subst e2
    refine sw_call hy how hlen hdp hrest hc fun hok => ?_
    cases rm with
    | true => exact sd_E_mono (hE (hok rfl)) fun v h' q => ⟨fun _ => q.1, hrec _ _ _ _ _ _ q.2⟩
    | false => exact sd_E_mono hE fun v h' q => ⟨fun z => (by cases z), hrec _ _ _ _ _ _ q⟩
  rcases sd_cd_t hx with ⟨hb, hx⟩ | ⟨-, hc, hx⟩
  · simp only [Bool.and_eq_true] at hb
    have e1 := sd_beq hb.1
    have e2 := sd_beq hb.2
    exact fin cs ss (by omega) (by omega) (by omega) hx
  · exact fin _ _ rfl rfl hc hx
theorem sd_ro_eq {rm : Bool} {h : sd_H} {T k i own : Nat} (hok : rm = true → sd_OK h) (hT : T < 8) (hk : k < h.2.2.2 T) (ho : own = sd_wn T i) : sd_ro rm h T k i own = h.2.2.1 T k i := by
  unfold sd_ro
  cases rm with
  | false => rfl
  | true =>
    obtain ⟨q1, q2⟩ := hok rfl T k i hT hk
    show (match own with | 1 => some k | 2 => some 0 | _ => h.2.2.1 T k i) = _
    split
    · exact (q1 ho.symm).symm
    · exact (q2 ho.symm).symm
    · rfl
/-- more is known at a state than its place: what the judgement itself assumes -/
theorem sd_Wq.with {pc : Nat} (k : (cs ≤ sd_mc y ∧ ss ≤ sd_mz y) → (∀ v ∈ st, sd_ok h v) → (rm = true → sd_OK h) → sd_Wq l sc y rm Q pc ls st h cs ss) : sd_Wq l sc y rm Q pc ls st h cs ss := by
  intro p e s m args below meth c R D base ad H locs lsA Z C hb hS hV hl hst hls hok hsc hrt hcs
  exact k hcs hst hok p e s m args below meth c R D base ad H locs lsA Z C hb hS hV hl hst hls hok hsc hrt hcs
theorem sx_iconst {pc nx a1 a2 a3 a4 w : Nat} {c : Int32} {d : Int64} {ts : List Nat} {k : Int} (hrec : ∀ pc ls st h cs ss, rec pc ls st h cs ss → sd_Wq l sc y rm Q pc ls st h cs ss) (hq : sd_ck (sd_nm y).cls (sd_nm y).name (sd_by y) (sd_ml y) (sd_dp y) (pc, .iconst k, nx, a1, a2, a3, a4, w, c, d, ts) = true) (hx : sd_X l sc y rm Q rec (pc, .iconst k, nx, a1, a2, a3, a4, w, c, d, ts) ls st h cs ss) : sd_Wq l sc y rm Q pc ls st h cs ss := by
  simp only [sd_ck, Bool.and_eq_true, decide_eq_true_eq] at hq
  obtain ⟨⟨hd, rfl⟩, hv⟩ := hq
  exact sw_iconst hd hv (hrec _ _ _ _ _ _ hx)
theorem sx_bipush {pc nx a1 a2 a3 a4 w : Nat} {c : Int32} {d : Int64} {ts : List Nat} {k : Int} (hrec : ∀ pc ls st h cs ss, rec pc ls st h cs ss → sd_Wq l sc y rm Q pc ls st h cs ss) (hq : sd_ck (sd_nm y).cls (sd_nm y).name (sd_by y) (sd_ml y) (sd_dp y) (pc, .bipush k, nx, a1, a2, a3, a4, w, c, d, ts) = true) (hx : sd_X l sc y rm Q rec (pc, .bipush k, nx, a1, a2, a3, a4, w, c, d, ts) ls st h cs ss) : sd_Wq l sc y rm Q pc ls st h cs ss := by
  simp only [sd_ck, Bool.and_eq_true, decide_eq_true_eq] at hq
  obtain ⟨⟨hd, rfl⟩, hv⟩ := hq
  exact sw_bipush hd hv (hrec _ _ _ _ _ _ hx)
theorem sx_sipush {pc nx a1 a2 a3 a4 w : Nat} {c : Int32} {d : Int64} {ts : List Nat} {k : Int} (hrec : ∀ pc ls st h cs ss, rec pc ls st h cs ss → sd_Wq l sc y rm Q pc ls st h cs ss) (hq : sd_ck (sd_nm y).cls (sd_nm y).name (sd_by y) (sd_ml y) (sd_dp y) (pc, .sipush k, nx, a1, a2, a3, a4, w, c, d, ts) = true) (hx : sd_X l sc y rm Q rec (pc, .sipush k, nx, a1, a2, a3, a4, w, c, d, ts) ls st h cs ss) : sd_Wq l sc y rm Q pc ls st h cs ss := by
  simp only [sd_ck, Bool.and_eq_true, decide_eq_true_eq] at hq
  obtain ⟨⟨hd, rfl⟩, hv⟩ := hq
  exact sw_sipush hd hv (hrec _ _ _ _ _ _ hx)
theorem sx_lconst {pc nx a1 a2 a3 a4 w : Nat} {c : Int32} {d : Int64} {ts : List Nat} {k : Fin 2} (hrec : ∀ pc ls st h cs ss, rec pc ls st h cs ss → sd_Wq l sc y rm Q pc ls st h cs ss) (hq : sd_ck (sd_nm y).cls (sd_nm y).name (sd_by y) (sd_ml y) (sd_dp y) (pc, .lconst k, nx, a1, a2, a3, a4, w, c, d, ts) = true) (hx : sd_X l sc y rm Q rec (pc, .lconst k, nx, a1, a2, a3, a4, w, c, d, ts) ls st h cs ss) : sd_Wq l sc y rm Q pc ls st h cs ss := by
  simp only [sd_ck, Bool.and_eq_true, decide_eq_true_eq] at hq
  obtain ⟨⟨hd, rfl⟩, hv⟩ := hq
  exact sw_lconst hd hv (hrec _ _ _ _ _ _ hx)
theorem sx_ldc {pc nx a1 a2 a3 a4 w : Nat} {c : Int32} {d : Int64} {ts : List Nat} {k : Nat} (hrec : ∀ pc ls st h cs ss, rec pc ls st h cs ss → sd_Wq l sc y rm Q pc ls st h cs ss) (hq : sd_ck (sd_nm y).cls (sd_nm y).name (sd_by y) (sd_ml y) (sd_dp y) (pc, .ldc k, nx, a1, a2, a3, a4, w, c, d, ts) = true) (hx : sd_X l sc y rm Q rec (pc, .ldc k, nx, a1, a2, a3, a4, w, c, d, ts) ls st h cs ss) : sd_Wq l sc y rm Q pc ls st h cs ss := by
  simp only [sd_ck, Bool.and_eq_true, decide_eq_true_eq] at hq
  obtain ⟨⟨hd, rfl⟩, hv⟩ := hq
  exact sw_ldc hd (sd_wd_mem hv) (hrec _ _ _ _ _ _ hx)
theorem sx_ldc_w {pc nx a1 a2 a3 a4 w : Nat} {c : Int32} {d : Int64} {ts : List Nat} {k : Nat} (hrec : ∀ pc ls st h cs ss, rec pc ls st h cs ss → sd_Wq l sc y rm Q pc ls st h cs ss) (hq : sd_ck (sd_nm y).cls (sd_nm y).name (sd_by y) (sd_ml y) (sd_dp y) (pc, .ldc_w k, nx, a1, a2, a3, a4, w, c, d, ts) = true) (hx : sd_X l sc y rm Q rec (pc, .ldc_w k, nx, a1, a2, a3, a4, w, c, d, ts) ls st h cs ss) : sd_Wq l sc y rm Q pc ls st h cs ss := by
  simp only [sd_ck, Bool.and_eq_true, decide_eq_true_eq] at hq
  obtain ⟨⟨hd, rfl⟩, hv⟩ := hq
  exact sw_ldcw hd (sd_wd_mem hv) (hrec _ _ _ _ _ _ hx)
theorem sx_ldc2_w {pc nx a1 a2 a3 a4 w : Nat} {c : Int32} {d : Int64} {ts : List Nat} {k : Nat} (hrec : ∀ pc ls st h cs ss, rec pc ls st h cs ss → sd_Wq l sc y rm Q pc ls st h cs ss) (hq : sd_ck (sd_nm y).cls (sd_nm y).name (sd_by y) (sd_ml y) (sd_dp y) (pc, .ldc2_w k, nx, a1, a2, a3, a4, w, c, d, ts) = true) (hx : sd_X l sc y rm Q rec (pc, .ldc2_w k, nx, a1, a2, a3, a4, w, c, d, ts) ls st h cs ss) : sd_Wq l sc y rm Q pc ls st h cs ss := by
  simp only [sd_ck, Bool.and_eq_true, decide_eq_true_eq] at hq
  obtain ⟨⟨hd, rfl⟩, hv⟩ := hq
  exact sw_ldc2 hd (sd_wd_mem hv) (hrec _ _ _ _ _ _ hx)
theorem sx_aconst_null {pc nx a1 a2 a3 a4 w : Nat} {c : Int32} {d : Int64} {ts : List Nat} (hrec : ∀ pc ls st h cs ss, rec pc ls st h cs ss → sd_Wq l sc y rm Q pc ls st h cs ss) (hq : sd_ck (sd_nm y).cls (sd_nm y).name (sd_by y) (sd_ml y) (sd_dp y) (pc, .aconst_null, nx, a1, a2, a3, a4, w, c, d, ts) = true) (hx : sd_X l sc y rm Q rec (pc, .aconst_null, nx, a1, a2, a3, a4, w, c, d, ts) ls st h cs ss) : sd_Wq l sc y rm Q pc ls st h cs ss := by
  simp only [sd_ck, Bool.and_eq_true, decide_eq_true_eq] at hq
  obtain ⟨hd, rfl⟩ := hq
  exact sw_null hd (hrec _ _ _ _ _ _ hx)
theorem sx_iload_n {pc nx a1 a2 a3 a4 w : Nat} {c : Int32} {d : Int64} {ts : List Nat} {k : Fin 4} (hrec : ∀ pc ls st h cs ss, rec pc ls st h cs ss → sd_Wq l sc y rm Q pc ls st h cs ss) (hq : sd_ck (sd_nm y).cls (sd_nm y).name (sd_by y) (sd_ml y) (sd_dp y) (pc, .iload_n k, nx, a1, a2, a3, a4, w, c, d, ts) = true) (hx : sd_X l sc y rm Q rec (pc, .iload_n k, nx, a1, a2, a3, a4, w, c, d, ts) ls st h cs ss) : sd_Wq l sc y rm Q pc ls st h cs ss := by
  simp only [sd_ck, Bool.and_eq_true, decide_eq_true_eq] at hq
  obtain ⟨⟨hd, rfl⟩, hv⟩ := hq
  unfold sd_X at hx
  dsimp only at hx
  split at hx
  · next x hg => exact sw_iload_n hd hv hg (hrec _ _ _ _ _ _ hx)
  · exact hx.elim
theorem sx_iload {pc nx a1 a2 a3 a4 w : Nat} {c : Int32} {d : Int64} {ts : List Nat} {k : Nat} (hrec : ∀ pc ls st h cs ss, rec pc ls st h cs ss → sd_Wq l sc y rm Q pc ls st h cs ss) (hq : sd_ck (sd_nm y).cls (sd_nm y).name (sd_by y) (sd_ml y) (sd_dp y) (pc, .iload k, nx, a1, a2, a3, a4, w, c, d, ts) = true) (hx : sd_X l sc y rm Q rec (pc, .iload k, nx, a1, a2, a3, a4, w, c, d, ts) ls st h cs ss) : sd_Wq l sc y rm Q pc ls st h cs ss := by
  simp only [sd_ck, Bool.and_eq_true, decide_eq_true_eq] at hq
  obtain ⟨⟨hd, rfl⟩, rfl⟩ := hq
  unfold sd_X at hx
  dsimp only at hx
  split at hx
  · next x hg => exact sw_iload hd hg (hrec _ _ _ _ _ _ hx)
  · exact hx.elim
theorem sx_lload_n {pc nx a1 a2 a3 a4 w : Nat} {c : Int32} {d : Int64} {ts : List Nat} {k : Fin 4} (hrec : ∀ pc ls st h cs ss, rec pc ls st h cs ss → sd_Wq l sc y rm Q pc ls st h cs ss) (hq : sd_ck (sd_nm y).cls (sd_nm y).name (sd_by y) (sd_ml y) (sd_dp y) (pc, .lload_n k, nx, a1, a2, a3, a4, w, c, d, ts) = true) (hx : sd_X l sc y rm Q rec (pc, .lload_n k, nx, a1, a2, a3, a4, w, c, d, ts) ls st h cs ss) : sd_Wq l sc y rm Q pc ls st h cs ss := by
  simp only [sd_ck, Bool.and_eq_true, decide_eq_true_eq] at hq
  obtain ⟨⟨hd, rfl⟩, hv⟩ := hq
  unfold sd_X at hx
  dsimp only at hx
  split at hx
  · next x hg => exact sw_lload_n hd hv hg (hrec _ _ _ _ _ _ hx)
  · exact hx.elim
theorem sx_lload {pc nx a1 a2 a3 a4 w : Nat} {c : Int32} {d : Int64} {ts : List Nat} {k : Nat} (hrec : ∀ pc ls st h cs ss, rec pc ls st h cs ss → sd_Wq l sc y rm Q pc ls st h cs ss) (hq : sd_ck (sd_nm y).cls (sd_nm y).name (sd_by y) (sd_ml y) (sd_dp y) (pc, .lload k, nx, a1, a2, a3, a4, w, c, d, ts) = true) (hx : sd_X l sc y rm Q rec (pc, .lload k, nx, a1, a2, a3, a4, w, c, d, ts) ls st h cs ss) : sd_Wq l sc y rm Q pc ls st h cs ss := by
  simp only [sd_ck, Bool.and_eq_true, decide_eq_true_eq] at hq
  obtain ⟨⟨hd, rfl⟩, rfl⟩ := hq
  unfold sd_X at hx
  dsimp only at hx
  split at hx
  · next x hg => exact sw_lload hd hg (hrec _ _ _ _ _ _ hx)
  · exact hx.elim
theorem sx_aload_n {pc nx a1 a2 a3 a4 w : Nat} {c : Int32} {d : Int64} {ts : List Nat} {k : Fin 4} (hrec : ∀ pc ls st h cs ss, rec pc ls st h cs ss → sd_Wq l sc y rm Q pc ls st h cs ss) (hq : sd_ck (sd_nm y).cls (sd_nm y).name (sd_by y) (sd_ml y) (sd_dp y) (pc, .aload_n k, nx, a1, a2, a3, a4, w, c, d, ts) = true) (hx : sd_X l sc y rm Q rec (pc, .aload_n k, nx, a1, a2, a3, a4, w, c, d, ts) ls st h cs ss) : sd_Wq l sc y rm Q pc ls st h cs ss := by
  simp only [sd_ck, Bool.and_eq_true, decide_eq_true_eq] at hq
  obtain ⟨⟨hd, rfl⟩, hv⟩ := hq
  unfold sd_X at hx
  dsimp only at hx
  split at hx
  · next x hg => exact sw_aload_n hd hv hg (hrec _ _ _ _ _ _ hx)
  · exact hx.elim
theorem sx_aload {pc nx a1 a2 a3 a4 w : Nat} {c : Int32} {d : Int64} {ts : List Nat} {k : Nat} (hrec : ∀ pc ls st h cs ss, rec pc ls st h cs ss → sd_Wq l sc y rm Q pc ls st h cs ss) (hq : sd_ck (sd_nm y).cls (sd_nm y).name (sd_by y) (sd_ml y) (sd_dp y) (pc, .aload k, nx, a1, a2, a3, a4, w, c, d, ts) = true) (hx : sd_X l sc y rm Q rec (pc, .aload k, nx, a1, a2, a3, a4, w, c, d, ts) ls st h cs ss) : sd_Wq l sc y rm Q pc ls st h cs ss := by
  simp only [sd_ck, Bool.and_eq_true, decide_eq_true_eq] at hq
  obtain ⟨⟨hd, rfl⟩, rfl⟩ := hq
  unfold sd_X at hx
  dsimp only at hx
  split at hx
  · next x hg => exact sw_aload hd hg (hrec _ _ _ _ _ _ hx)
  · exact hx.elim
theorem sx_istore_n {pc nx a1 a2 a3 a4 w : Nat} {c : Int32} {d : Int64} {ts : List Nat} {k : Fin 4} (hrec : ∀ pc ls st h cs ss, rec pc ls st h cs ss → sd_Wq l sc y rm Q pc ls st h cs ss) (hq : sd_ck (sd_nm y).cls (sd_nm y).name (sd_by y) (sd_ml y) (sd_dp y) (pc, .istore_n k, nx, a1, a2, a3, a4, w, c, d, ts) = true) (hx : sd_X l sc y rm Q rec (pc, .istore_n k, nx, a1, a2, a3, a4, w, c, d, ts) ls st h cs ss) : sd_Wq l sc y rm Q pc ls st h cs ss := by
  simp only [sd_ck, Bool.and_eq_true, decide_eq_true_eq] at hq
  obtain ⟨⟨hd, rfl⟩, hv, hn⟩ := hq
  unfold sd_X at hx
  dsimp only at hx
  split at hx
  · next x r => exact sw_istore_n hd hv hn (hrec _ _ _ _ _ _ hx)
  · exact hx.elim
theorem sx_istore {pc nx a1 a2 a3 a4 w : Nat} {c : Int32} {d : Int64} {ts : List Nat} {k : Nat} (hrec : ∀ pc ls st h cs ss, rec pc ls st h cs ss → sd_Wq l sc y rm Q pc ls st h cs ss) (hq : sd_ck (sd_nm y).cls (sd_nm y).name (sd_by y) (sd_ml y) (sd_dp y) (pc, .istore k, nx, a1, a2, a3, a4, w, c, d, ts) = true) (hx : sd_X l sc y rm Q rec (pc, .istore k, nx, a1, a2, a3, a4, w, c, d, ts) ls st h cs ss) : sd_Wq l sc y rm Q pc ls st h cs ss := by
  simp only [sd_ck, Bool.and_eq_true, decide_eq_true_eq] at hq
  obtain ⟨⟨hd, rfl⟩, rfl, hn⟩ := hq
  unfold sd_X at hx
  dsimp only at hx
  split at hx
  · next x r => exact sw_istore hd hn (hrec _ _ _ _ _ _ hx)
  · exact hx.elim
theorem sx_lstore_n {pc nx a1 a2 a3 a4 w : Nat} {c : Int32} {d : Int64} {ts : List Nat} {k : Fin 4} (hrec : ∀ pc ls st h cs ss, rec pc ls st h cs ss → sd_Wq l sc y rm Q pc ls st h cs ss) (hq : sd_ck (sd_nm y).cls (sd_nm y).name (sd_by y) (sd_ml y) (sd_dp y) (pc, .lstore_n k, nx, a1, a2, a3, a4, w, c, d, ts) = true) (hx : sd_X l sc y rm Q rec (pc, .lstore_n k, nx, a1, a2, a3, a4, w, c, d, ts) ls st h cs ss) : sd_Wq l sc y rm Q pc ls st h cs ss := by
  simp only [sd_ck, Bool.and_eq_true, decide_eq_true_eq] at hq
  obtain ⟨⟨hd, rfl⟩, hv, hn⟩ := hq
  unfold sd_X at hx
  dsimp only at hx
  split at hx
  · next x r => exact sw_lstore_n hd hv hn (hrec _ _ _ _ _ _ hx)
  · exact hx.elim
theorem sx_lstore {pc nx a1 a2 a3 a4 w : Nat} {c : Int32} {d : Int64} {ts : List Nat} {k : Nat} (hrec : ∀ pc ls st h cs ss, rec pc ls st h cs ss → sd_Wq l sc y rm Q pc ls st h cs ss) (hq : sd_ck (sd_nm y).cls (sd_nm y).name (sd_by y) (sd_ml y) (sd_dp y) (pc, .lstore k, nx, a1, a2, a3, a4, w, c, d, ts) = true) (hx : sd_X l sc y rm Q rec (pc, .lstore k, nx, a1, a2, a3, a4, w, c, d, ts) ls st h cs ss) : sd_Wq l sc y rm Q pc ls st h cs ss := by
  simp only [sd_ck, Bool.and_eq_true, decide_eq_true_eq] at hq
  obtain ⟨⟨hd, rfl⟩, rfl, hn⟩ := hq
  unfold sd_X at hx
  dsimp only at hx
  split at hx
  · next x r => exact sw_lstore hd hn (hrec _ _ _ _ _ _ hx)
  · exact hx.elim
theorem sx_astore_n {pc nx a1 a2 a3 a4 w : Nat} {c : Int32} {d : Int64} {ts : List Nat} {k : Fin 4} (hrec : ∀ pc ls st h cs ss, rec pc ls st h cs ss → sd_Wq l sc y rm Q pc ls st h cs ss) (hq : sd_ck (sd_nm y).cls (sd_nm y).name (sd_by y) (sd_ml y) (sd_dp y) (pc, .astore_n k, nx, a1, a2, a3, a4, w, c, d, ts) = true) (hx : sd_X l sc y rm Q rec (pc, .astore_n k, nx, a1, a2, a3, a4, w, c, d, ts) ls st h cs ss) : sd_Wq l sc y rm Q pc ls st h cs ss := by
  simp only [sd_ck, Bool.and_eq_true, decide_eq_true_eq] at hq
  obtain ⟨⟨hd, rfl⟩, hv, hn⟩ := hq
  unfold sd_X at hx
  dsimp only at hx
  split at hx
  · next x r => exact sw_astore_n hd hv hn (hrec _ _ _ _ _ _ hx)
  · exact hx.elim
theorem sx_astore {pc nx a1 a2 a3 a4 w : Nat} {c : Int32} {d : Int64} {ts : List Nat} {k : Nat} (hrec : ∀ pc ls st h cs ss, rec pc ls st h cs ss → sd_Wq l sc y rm Q pc ls st h cs ss) (hq : sd_ck (sd_nm y).cls (sd_nm y).name (sd_by y) (sd_ml y) (sd_dp y) (pc, .astore k, nx, a1, a2, a3, a4, w, c, d, ts) = true) (hx : sd_X l sc y rm Q rec (pc, .astore k, nx, a1, a2, a3, a4, w, c, d, ts) ls st h cs ss) : sd_Wq l sc y rm Q pc ls st h cs ss := by
  simp only [sd_ck, Bool.and_eq_true, decide_eq_true_eq] at hq
  obtain ⟨⟨hd, rfl⟩, rfl, hn⟩ := hq
  unfold sd_X at hx
  dsimp only at hx
  split at hx
  · next x r => exact sw_astore hd hn (hrec _ _ _ _ _ _ hx)
  · exact hx.elim
theorem sx_iinc {pc nx a1 a2 a3 a4 w : Nat} {c : Int32} {d : Int64} {ts : List Nat} {k : Nat} {n : Int} (hrec : ∀ pc ls st h cs ss, rec pc ls st h cs ss → sd_Wq l sc y rm Q pc ls st h cs ss) (hq : sd_ck (sd_nm y).cls (sd_nm y).name (sd_by y) (sd_ml y) (sd_dp y) (pc, .iinc k n, nx, a1, a2, a3, a4, w, c, d, ts) = true) (hx : sd_X l sc y rm Q rec (pc, .iinc k n, nx, a1, a2, a3, a4, w, c, d, ts) ls st h cs ss) : sd_Wq l sc y rm Q pc ls st h cs ss := by
  simp only [sd_ck, Bool.and_eq_true, decide_eq_true_eq] at hq
  obtain ⟨⟨hd, rfl⟩, rfl, hn, hv⟩ := hq
  unfold sd_X at hx
  dsimp only at hx
  split at hx
  · next x hg => exact sw_iinc hd hg hv hn (hrec _ _ _ _ _ _ hx)
  · exact hx.elim
theorem sx_iadd {pc nx a1 a2 a3 a4 w : Nat} {c : Int32} {d : Int64} {ts : List Nat} (hrec : ∀ pc ls st h cs ss, rec pc ls st h cs ss → sd_Wq l sc y rm Q pc ls st h cs ss) (hq : sd_ck (sd_nm y).cls (sd_nm y).name (sd_by y) (sd_ml y) (sd_dp y) (pc, .iadd, nx, a1, a2, a3, a4, w, c, d, ts) = true) (hx : sd_X l sc y rm Q rec (pc, .iadd, nx, a1, a2, a3, a4, w, c, d, ts) ls st h cs ss) : sd_Wq l sc y rm Q pc ls st h cs ss := by
  simp only [sd_ck, Bool.and_eq_true, decide_eq_true_eq] at hq
  obtain ⟨hd, rfl⟩ := hq
  unfold sd_X at hx
  dsimp only at hx
  split at hx
  · exact sw_iadd hd (hrec _ _ _ _ _ _ hx)
  · exact hx.elim
theorem sx_isub {pc nx a1 a2 a3 a4 w : Nat} {c : Int32} {d : Int64} {ts : List Nat} (hrec : ∀ pc ls st h cs ss, rec pc ls st h cs ss → sd_Wq l sc y rm Q pc ls st h cs ss) (hq : sd_ck (sd_nm y).cls (sd_nm y).name (sd_by y) (sd_ml y) (sd_dp y) (pc, .isub, nx, a1, a2, a3, a4, w, c, d, ts) = true) (hx : sd_X l sc y rm Q rec (pc, .isub, nx, a1, a2, a3, a4, w, c, d, ts) ls st h cs ss) : sd_Wq l sc y rm Q pc ls st h cs ss := by
  simp only [sd_ck, Bool.and_eq_true, decide_eq_true_eq] at hq
  obtain ⟨hd, rfl⟩ := hq
  unfold sd_X at hx
  dsimp only at hx
  split at hx
  · exact sw_isub hd (hrec _ _ _ _ _ _ hx)
  · exact hx.elim
theorem sx_imul {pc nx a1 a2 a3 a4 w : Nat} {c : Int32} {d : Int64} {ts : List Nat} (hrec : ∀ pc ls st h cs ss, rec pc ls st h cs ss → sd_Wq l sc y rm Q pc ls st h cs ss) (hq : sd_ck (sd_nm y).cls (sd_nm y).name (sd_by y) (sd_ml y) (sd_dp y) (pc, .imul, nx, a1, a2, a3, a4, w, c, d, ts) = true) (hx : sd_X l sc y rm Q rec (pc, .imul, nx, a1, a2, a3, a4, w, c, d, ts) ls st h cs ss) : sd_Wq l sc y rm Q pc ls st h cs ss := by
  simp only [sd_ck, Bool.and_eq_true, decide_eq_true_eq] at hq
  obtain ⟨hd, rfl⟩ := hq
  unfold sd_X at hx
  dsimp only at hx
  split at hx
  · exact sw_imul hd (hrec _ _ _ _ _ _ hx)
  · exact hx.elim
theorem sx_iand {pc nx a1 a2 a3 a4 w : Nat} {c : Int32} {d : Int64} {ts : List Nat} (hrec : ∀ pc ls st h cs ss, rec pc ls st h cs ss → sd_Wq l sc y rm Q pc ls st h cs ss) (hq : sd_ck (sd_nm y).cls (sd_nm y).name (sd_by y) (sd_ml y) (sd_dp y) (pc, .iand, nx, a1, a2, a3, a4, w, c, d, ts) = true) (hx : sd_X l sc y rm Q rec (pc, .iand, nx, a1, a2, a3, a4, w, c, d, ts) ls st h cs ss) : sd_Wq l sc y rm Q pc ls st h cs ss := by
  simp only [sd_ck, Bool.and_eq_true, decide_eq_true_eq] at hq
  obtain ⟨hd, rfl⟩ := hq
  unfold sd_X at hx
  dsimp only at hx
  split at hx
  · exact sw_iand hd (hrec _ _ _ _ _ _ hx)
  · exact hx.elim
theorem sx_ior {pc nx a1 a2 a3 a4 w : Nat} {c : Int32} {d : Int64} {ts : List Nat} (hrec : ∀ pc ls st h cs ss, rec pc ls st h cs ss → sd_Wq l sc y rm Q pc ls st h cs ss) (hq : sd_ck (sd_nm y).cls (sd_nm y).name (sd_by y) (sd_ml y) (sd_dp y) (pc, .ior, nx, a1, a2, a3, a4, w, c, d, ts) = true) (hx : sd_X l sc y rm Q rec (pc, .ior, nx, a1, a2, a3, a4, w, c, d, ts) ls st h cs ss) : sd_Wq l sc y rm Q pc ls st h cs ss := by
  simp only [sd_ck, Bool.and_eq_true, decide_eq_true_eq] at hq
  obtain ⟨hd, rfl⟩ := hq
  unfold sd_X at hx
  dsimp only at hx
  split at hx
  · exact sw_ior hd (hrec _ _ _ _ _ _ hx)
  · exact hx.elim
theorem sx_ixor {pc nx a1 a2 a3 a4 w : Nat} {c : Int32} {d : Int64} {ts : List Nat} (hrec : ∀ pc ls st h cs ss, rec pc ls st h cs ss → sd_Wq l sc y rm Q pc ls st h cs ss) (hq : sd_ck (sd_nm y).cls (sd_nm y).name (sd_by y) (sd_ml y) (sd_dp y) (pc, .ixor, nx, a1, a2, a3, a4, w, c, d, ts) = true) (hx : sd_X l sc y rm Q rec (pc, .ixor, nx, a1, a2, a3, a4, w, c, d, ts) ls st h cs ss) : sd_Wq l sc y rm Q pc ls st h cs ss := by
  simp only [sd_ck, Bool.and_eq_true, decide_eq_true_eq] at hq
  obtain ⟨hd, rfl⟩ := hq
  unfold sd_X at hx
  dsimp only at hx
  split at hx
  · exact sw_ixor hd (hrec _ _ _ _ _ _ hx)
  · exact hx.elim
theorem sx_ishl {pc nx a1 a2 a3 a4 w : Nat} {c : Int32} {d : Int64} {ts : List Nat} (hrec : ∀ pc ls st h cs ss, rec pc ls st h cs ss → sd_Wq l sc y rm Q pc ls st h cs ss) (hq : sd_ck (sd_nm y).cls (sd_nm y).name (sd_by y) (sd_ml y) (sd_dp y) (pc, .ishl, nx, a1, a2, a3, a4, w, c, d, ts) = true) (hx : sd_X l sc y rm Q rec (pc, .ishl, nx, a1, a2, a3, a4, w, c, d, ts) ls st h cs ss) : sd_Wq l sc y rm Q pc ls st h cs ss := by
  simp only [sd_ck, Bool.and_eq_true, decide_eq_true_eq] at hq
  obtain ⟨hd, rfl⟩ := hq
  unfold sd_X at hx
  dsimp only at hx
  split at hx
  · exact sw_ishl hd (hrec _ _ _ _ _ _ hx)
  · exact hx.elim
theorem sx_ishr {pc nx a1 a2 a3 a4 w : Nat} {c : Int32} {d : Int64} {ts : List Nat} (hrec : ∀ pc ls st h cs ss, rec pc ls st h cs ss → sd_Wq l sc y rm Q pc ls st h cs ss) (hq : sd_ck (sd_nm y).cls (sd_nm y).name (sd_by y) (sd_ml y) (sd_dp y) (pc, .ishr, nx, a1, a2, a3, a4, w, c, d, ts) = true) (hx : sd_X l sc y rm Q rec (pc, .ishr, nx, a1, a2, a3, a4, w, c, d, ts) ls st h cs ss) : sd_Wq l sc y rm Q pc ls st h cs ss := by
  simp only [sd_ck, Bool.and_eq_true, decide_eq_true_eq] at hq
  obtain ⟨hd, rfl⟩ := hq
  unfold sd_X at hx
  dsimp only at hx
  split at hx
  · exact sw_ishr hd (hrec _ _ _ _ _ _ hx)
  · exact hx.elim
theorem sx_idiv {pc nx a1 a2 a3 a4 w : Nat} {c : Int32} {d : Int64} {ts : List Nat} (hrec : ∀ pc ls st h cs ss, rec pc ls st h cs ss → sd_Wq l sc y rm Q pc ls st h cs ss) (hq : sd_ck (sd_nm y).cls (sd_nm y).name (sd_by y) (sd_ml y) (sd_dp y) (pc, .idiv, nx, a1, a2, a3, a4, w, c, d, ts) = true) (hx : sd_X l sc y rm Q rec (pc, .idiv, nx, a1, a2, a3, a4, w, c, d, ts) ls st h cs ss) : sd_Wq l sc y rm Q pc ls st h cs ss := by
  simp only [sd_ck, Bool.and_eq_true, decide_eq_true_eq] at hq
  obtain ⟨hd, rfl⟩ := hq
  unfold sd_X at hx
  dsimp only at hx
  split at hx
  · exact sw_idiv hd hx.1 (hrec _ _ _ _ _ _ hx.2)
  · exact hx.elim
theorem sx_irem {pc nx a1 a2 a3 a4 w : Nat} {c : Int32} {d : Int64} {ts : List Nat} (hrec : ∀ pc ls st h cs ss, rec pc ls st h cs ss → sd_Wq l sc y rm Q pc ls st h cs ss) (hq : sd_ck (sd_nm y).cls (sd_nm y).name (sd_by y) (sd_ml y) (sd_dp y) (pc, .irem, nx, a1, a2, a3, a4, w, c, d, ts) = true) (hx : sd_X l sc y rm Q rec (pc, .irem, nx, a1, a2, a3, a4, w, c, d, ts) ls st h cs ss) : sd_Wq l sc y rm Q pc ls st h cs ss := by
  simp only [sd_ck, Bool.and_eq_true, decide_eq_true_eq] at hq
  obtain ⟨hd, rfl⟩ := hq
  unfold sd_X at hx
  dsimp only at hx
  split at hx
  · exact sw_irem hd hx.1 (hrec _ _ _ _ _ _ hx.2)
  · exact hx.elim
theorem sx_ineg {pc nx a1 a2 a3 a4 w : Nat} {c : Int32} {d : Int64} {ts : List Nat} (hrec : ∀ pc ls st h cs ss, rec pc ls st h cs ss → sd_Wq l sc y rm Q pc ls st h cs ss) (hq : sd_ck (sd_nm y).cls (sd_nm y).name (sd_by y) (sd_ml y) (sd_dp y) (pc, .ineg, nx, a1, a2, a3, a4, w, c, d, ts) = true) (hx : sd_X l sc y rm Q rec (pc, .ineg, nx, a1, a2, a3, a4, w, c, d, ts) ls st h cs ss) : sd_Wq l sc y rm Q pc ls st h cs ss := by
  simp only [sd_ck, Bool.and_eq_true, decide_eq_true_eq] at hq
  obtain ⟨hd, rfl⟩ := hq
  unfold sd_X at hx
  dsimp only at hx
  split at hx
  · exact sw_ineg hd (hrec _ _ _ _ _ _ hx)
  · exact hx.elim
theorem sx_ladd {pc nx a1 a2 a3 a4 w : Nat} {c : Int32} {d : Int64} {ts : List Nat} (hrec : ∀ pc ls st h cs ss, rec pc ls st h cs ss → sd_Wq l sc y rm Q pc ls st h cs ss) (hq : sd_ck (sd_nm y).cls (sd_nm y).name (sd_by y) (sd_ml y) (sd_dp y) (pc, .ladd, nx, a1, a2, a3, a4, w, c, d, ts) = true) (hx : sd_X l sc y rm Q rec (pc, .ladd, nx, a1, a2, a3, a4, w, c, d, ts) ls st h cs ss) : sd_Wq l sc y rm Q pc ls st h cs ss := by
  simp only [sd_ck, Bool.and_eq_true, decide_eq_true_eq] at hq
  obtain ⟨hd, rfl⟩ := hq
  unfold sd_X at hx
  dsimp only at hx
  split at hx
  · exact sw_ladd hd (hrec _ _ _ _ _ _ hx)
  · exact hx.elim
theorem sx_lsub {pc nx a1 a2 a3 a4 w : Nat} {c : Int32} {d : Int64} {ts : List Nat} (hrec : ∀ pc ls st h cs ss, rec pc ls st h cs ss → sd_Wq l sc y rm Q pc ls st h cs ss) (hq : sd_ck (sd_nm y).cls (sd_nm y).name (sd_by y) (sd_ml y) (sd_dp y) (pc, .lsub, nx, a1, a2, a3, a4, w, c, d, ts) = true) (hx : sd_X l sc y rm Q rec (pc, .lsub, nx, a1, a2, a3, a4, w, c, d, ts) ls st h cs ss) : sd_Wq l sc y rm Q pc ls st h cs ss := by
  simp only [sd_ck, Bool.and_eq_true, decide_eq_true_eq] at hq
  obtain ⟨hd, rfl⟩ := hq
  unfold sd_X at hx
  dsimp only at hx
  split at hx
  · exact sw_lsub hd (hrec _ _ _ _ _ _ hx)
  · exact hx.elim
theorem sx_lmul {pc nx a1 a2 a3 a4 w : Nat} {c : Int32} {d : Int64} {ts : List Nat} (hrec : ∀ pc ls st h cs ss, rec pc ls st h cs ss → sd_Wq l sc y rm Q pc ls st h cs ss) (hq : sd_ck (sd_nm y).cls (sd_nm y).name (sd_by y) (sd_ml y) (sd_dp y) (pc, .lmul, nx, a1, a2, a3, a4, w, c, d, ts) = true) (hx : sd_X l sc y rm Q rec (pc, .lmul, nx, a1, a2, a3, a4, w, c, d, ts) ls st h cs ss) : sd_Wq l sc y rm Q pc ls st h cs ss := by
  simp only [sd_ck, Bool.and_eq_true, decide_eq_true_eq] at hq
  obtain ⟨hd, rfl⟩ := hq
  unfold sd_X at hx
  dsimp only at hx
  split at hx
  · exact sw_lmul hd (hrec _ _ _ _ _ _ hx)
  · exact hx.elim
theorem sx_land {pc nx a1 a2 a3 a4 w : Nat} {c : Int32} {d : Int64} {ts : List Nat} (hrec : ∀ pc ls st h cs ss, rec pc ls st h cs ss → sd_Wq l sc y rm Q pc ls st h cs ss) (hq : sd_ck (sd_nm y).cls (sd_nm y).name (sd_by y) (sd_ml y) (sd_dp y) (pc, .land, nx, a1, a2, a3, a4, w, c, d, ts) = true) (hx : sd_X l sc y rm Q rec (pc, .land, nx, a1, a2, a3, a4, w, c, d, ts) ls st h cs ss) : sd_Wq l sc y rm Q pc ls st h cs ss := by
  simp only [sd_ck, Bool.and_eq_true, decide_eq_true_eq] at hq
  obtain ⟨hd, rfl⟩ := hq
  unfold sd_X at hx
  dsimp only at hx
  split at hx
  · exact sw_land hd (hrec _ _ _ _ _ _ hx)
  · exact hx.elim
theorem sx_lor {pc nx a1 a2 a3 a4 w : Nat} {c : Int32} {d : Int64} {ts : List Nat} (hrec : ∀ pc ls st h cs ss, rec pc ls st h cs ss → sd_Wq l sc y rm Q pc ls st h cs ss) (hq : sd_ck (sd_nm y).cls (sd_nm y).name (sd_by y) (sd_ml y) (sd_dp y) (pc, .lor, nx, a1, a2, a3, a4, w, c, d, ts) = true) (hx : sd_X l sc y rm Q rec (pc, .lor, nx, a1, a2, a3, a4, w, c, d, ts) ls st h cs ss) : sd_Wq l sc y rm Q pc ls st h cs ss := by
  simp only [sd_ck, Bool.and_eq_true, decide_eq_true_eq] at hq
  obtain ⟨hd, rfl⟩ := hq
  unfold sd_X at hx
  dsimp only at hx
  split at hx
  · exact sw_lor hd (hrec _ _ _ _ _ _ hx)
  · exact hx.elim
theorem sx_lxor {pc nx a1 a2 a3 a4 w : Nat} {c : Int32} {d : Int64} {ts : List Nat} (hrec : ∀ pc ls st h cs ss, rec pc ls st h cs ss → sd_Wq l sc y rm Q pc ls st h cs ss) (hq : sd_ck (sd_nm y).cls (sd_nm y).name (sd_by y) (sd_ml y) (sd_dp y) (pc, .lxor, nx, a1, a2, a3, a4, w, c, d, ts) = true) (hx : sd_X l sc y rm Q rec (pc, .lxor, nx, a1, a2, a3, a4, w, c, d, ts) ls st h cs ss) : sd_Wq l sc y rm Q pc ls st h cs ss := by
  simp only [sd_ck, Bool.and_eq_true, decide_eq_true_eq] at hq
  obtain ⟨hd, rfl⟩ := hq
  unfold sd_X at hx
  dsimp only at hx
  split at hx
  · exact sw_lxor hd (hrec _ _ _ _ _ _ hx)
  · exact hx.elim
theorem sx_ldiv {pc nx a1 a2 a3 a4 w : Nat} {c : Int32} {d : Int64} {ts : List Nat} (hrec : ∀ pc ls st h cs ss, rec pc ls st h cs ss → sd_Wq l sc y rm Q pc ls st h cs ss) (hq : sd_ck (sd_nm y).cls (sd_nm y).name (sd_by y) (sd_ml y) (sd_dp y) (pc, .ldiv, nx, a1, a2, a3, a4, w, c, d, ts) = true) (hx : sd_X l sc y rm Q rec (pc, .ldiv, nx, a1, a2, a3, a4, w, c, d, ts) ls st h cs ss) : sd_Wq l sc y rm Q pc ls st h cs ss := by
  simp only [sd_ck, Bool.and_eq_true, decide_eq_true_eq] at hq
  obtain ⟨hd, rfl⟩ := hq
  unfold sd_X at hx
  dsimp only at hx
  split at hx
  · exact sw_ldiv hd hx.1 (hrec _ _ _ _ _ _ hx.2)
  · exact hx.elim
theorem sx_lrem {pc nx a1 a2 a3 a4 w : Nat} {c : Int32} {d : Int64} {ts : List Nat} (hrec : ∀ pc ls st h cs ss, rec pc ls st h cs ss → sd_Wq l sc y rm Q pc ls st h cs ss) (hq : sd_ck (sd_nm y).cls (sd_nm y).name (sd_by y) (sd_ml y) (sd_dp y) (pc, .lrem, nx, a1, a2, a3, a4, w, c, d, ts) = true) (hx : sd_X l sc y rm Q rec (pc, .lrem, nx, a1, a2, a3, a4, w, c, d, ts) ls st h cs ss) : sd_Wq l sc y rm Q pc ls st h cs ss := by
  simp only [sd_ck, Bool.and_eq_true, decide_eq_true_eq] at hq
  obtain ⟨hd, rfl⟩ := hq
  unfold sd_X at hx
  dsimp only at hx
  split at hx
  · exact sw_lrem hd hx.1 (hrec _ _ _ _ _ _ hx.2)
  · exact hx.elim
theorem sx_lshl {pc nx a1 a2 a3 a4 w : Nat} {c : Int32} {d : Int64} {ts : List Nat} (hrec : ∀ pc ls st h cs ss, rec pc ls st h cs ss → sd_Wq l sc y rm Q pc ls st h cs ss) (hq : sd_ck (sd_nm y).cls (sd_nm y).name (sd_by y) (sd_ml y) (sd_dp y) (pc, .lshl, nx, a1, a2, a3, a4, w, c, d, ts) = true) (hx : sd_X l sc y rm Q rec (pc, .lshl, nx, a1, a2, a3, a4, w, c, d, ts) ls st h cs ss) : sd_Wq l sc y rm Q pc ls st h cs ss := by
  simp only [sd_ck, Bool.and_eq_true, decide_eq_true_eq] at hq
  obtain ⟨hd, rfl⟩ := hq
  unfold sd_X at hx
  dsimp only at hx
  split at hx
  · exact sw_lshl hd (hrec _ _ _ _ _ _ hx)
  · exact hx.elim
theorem sx_lshr {pc nx a1 a2 a3 a4 w : Nat} {c : Int32} {d : Int64} {ts : List Nat} (hrec : ∀ pc ls st h cs ss, rec pc ls st h cs ss → sd_Wq l sc y rm Q pc ls st h cs ss) (hq : sd_ck (sd_nm y).cls (sd_nm y).name (sd_by y) (sd_ml y) (sd_dp y) (pc, .lshr, nx, a1, a2, a3, a4, w, c, d, ts) = true) (hx : sd_X l sc y rm Q rec (pc, .lshr, nx, a1, a2, a3, a4, w, c, d, ts) ls st h cs ss) : sd_Wq l sc y rm Q pc ls st h cs ss := by
  simp only [sd_ck, Bool.and_eq_true, decide_eq_true_eq] at hq
  obtain ⟨hd, rfl⟩ := hq
  unfold sd_X at hx
  dsimp only at hx
  split at hx
  · exact sw_lshr hd (hrec _ _ _ _ _ _ hx)
  · exact hx.elim
theorem sx_lushr {pc nx a1 a2 a3 a4 w : Nat} {c : Int32} {d : Int64} {ts : List Nat} (hrec : ∀ pc ls st h cs ss, rec pc ls st h cs ss → sd_Wq l sc y rm Q pc ls st h cs ss) (hq : sd_ck (sd_nm y).cls (sd_nm y).name (sd_by y) (sd_ml y) (sd_dp y) (pc, .lushr, nx, a1, a2, a3, a4, w, c, d, ts) = true) (hx : sd_X l sc y rm Q rec (pc, .lushr, nx, a1, a2, a3, a4, w, c, d, ts) ls st h cs ss) : sd_Wq l sc y rm Q pc ls st h cs ss := by
  simp only [sd_ck, Bool.and_eq_true, decide_eq_true_eq] at hq
  obtain ⟨hd, rfl⟩ := hq
  unfold sd_X at hx
  dsimp only at hx
  split at hx
  · exact sw_lushr hd (hrec _ _ _ _ _ _ hx)
  · exact hx.elim
theorem sx_i2l {pc nx a1 a2 a3 a4 w : Nat} {c : Int32} {d : Int64} {ts : List Nat} (hrec : ∀ pc ls st h cs ss, rec pc ls st h cs ss → sd_Wq l sc y rm Q pc ls st h cs ss) (hq : sd_ck (sd_nm y).cls (sd_nm y).name (sd_by y) (sd_ml y) (sd_dp y) (pc, .i2l, nx, a1, a2, a3, a4, w, c, d, ts) = true) (hx : sd_X l sc y rm Q rec (pc, .i2l, nx, a1, a2, a3, a4, w, c, d, ts) ls st h cs ss) : sd_Wq l sc y rm Q pc ls st h cs ss := by
  simp only [sd_ck, Bool.and_eq_true, decide_eq_true_eq] at hq
  obtain ⟨hd, rfl⟩ := hq
  unfold sd_X at hx
  dsimp only at hx
  split at hx
  · exact sw_i2l hd (hrec _ _ _ _ _ _ hx)
  · exact hx.elim
theorem sx_l2i {pc nx a1 a2 a3 a4 w : Nat} {c : Int32} {d : Int64} {ts : List Nat} (hrec : ∀ pc ls st h cs ss, rec pc ls st h cs ss → sd_Wq l sc y rm Q pc ls st h cs ss) (hq : sd_ck (sd_nm y).cls (sd_nm y).name (sd_by y) (sd_ml y) (sd_dp y) (pc, .l2i, nx, a1, a2, a3, a4, w, c, d, ts) = true) (hx : sd_X l sc y rm Q rec (pc, .l2i, nx, a1, a2, a3, a4, w, c, d, ts) ls st h cs ss) : sd_Wq l sc y rm Q pc ls st h cs ss := by
  simp only [sd_ck, Bool.and_eq_true, decide_eq_true_eq] at hq
  obtain ⟨hd, rfl⟩ := hq
  unfold sd_X at hx
  dsimp only at hx
  split at hx
  · exact sw_l2i hd (hrec _ _ _ _ _ _ hx)
  · exact hx.elim
theorem sx_lcmp {pc nx a1 a2 a3 a4 w : Nat} {c : Int32} {d : Int64} {ts : List Nat} (hrec : ∀ pc ls st h cs ss, rec pc ls st h cs ss → sd_Wq l sc y rm Q pc ls st h cs ss) (hq : sd_ck (sd_nm y).cls (sd_nm y).name (sd_by y) (sd_ml y) (sd_dp y) (pc, .lcmp, nx, a1, a2, a3, a4, w, c, d, ts) = true) (hx : sd_X l sc y rm Q rec (pc, .lcmp, nx, a1, a2, a3, a4, w, c, d, ts) ls st h cs ss) : sd_Wq l sc y rm Q pc ls st h cs ss := by
  simp only [sd_ck, Bool.and_eq_true, decide_eq_true_eq] at hq
  obtain ⟨hd, rfl⟩ := hq
  unfold sd_X at hx
  dsimp only at hx
  split at hx
  · exact sw_lcmp hd (hrec _ _ _ _ _ _ hx)
  · exact hx.elim
theorem sx_dup {pc nx a1 a2 a3 a4 w : Nat} {c : Int32} {d : Int64} {ts : List Nat} (hrec : ∀ pc ls st h cs ss, rec pc ls st h cs ss → sd_Wq l sc y rm Q pc ls st h cs ss) (hq : sd_ck (sd_nm y).cls (sd_nm y).name (sd_by y) (sd_ml y) (sd_dp y) (pc, .dup, nx, a1, a2, a3, a4, w, c, d, ts) = true) (hx : sd_X l sc y rm Q rec (pc, .dup, nx, a1, a2, a3, a4, w, c, d, ts) ls st h cs ss) : sd_Wq l sc y rm Q pc ls st h cs ss := by
  simp only [sd_ck, Bool.and_eq_true, decide_eq_true_eq] at hq
  obtain ⟨hd, rfl⟩ := hq
  unfold sd_X at hx
  dsimp only at hx
  split at hx
  · exact sw_dup hd (fun ⟨_, q⟩ => by cases q) (hrec _ _ _ _ _ _ hx)
  · exact sw_dup hd (fun ⟨_, q⟩ => by cases q) (hrec _ _ _ _ _ _ hx)
  · exact hx.elim
theorem sx_pop {pc nx a1 a2 a3 a4 w : Nat} {c : Int32} {d : Int64} {ts : List Nat} (hrec : ∀ pc ls st h cs ss, rec pc ls st h cs ss → sd_Wq l sc y rm Q pc ls st h cs ss) (hq : sd_ck (sd_nm y).cls (sd_nm y).name (sd_by y) (sd_ml y) (sd_dp y) (pc, .pop, nx, a1, a2, a3, a4, w, c, d, ts) = true) (hx : sd_X l sc y rm Q rec (pc, .pop, nx, a1, a2, a3, a4, w, c, d, ts) ls st h cs ss) : sd_Wq l sc y rm Q pc ls st h cs ss := by
  simp only [sd_ck, Bool.and_eq_true, decide_eq_true_eq] at hq
  obtain ⟨hd, rfl⟩ := hq
  unfold sd_X at hx
  dsimp only at hx
  split at hx
  · exact sw_pop hd (fun ⟨_, q⟩ => by cases q) (hrec _ _ _ _ _ _ hx)
  · exact sw_pop hd (fun ⟨_, q⟩ => by cases q) (hrec _ _ _ _ _ _ hx)
  · exact hx.elim
theorem sx_dup2 {pc nx a1 a2 a3 a4 w : Nat} {c : Int32} {d : Int64} {ts : List Nat} (hrec : ∀ pc ls st h cs ss, rec pc ls st h cs ss → sd_Wq l sc y rm Q pc ls st h cs ss) (hq : sd_ck (sd_nm y).cls (sd_nm y).name (sd_by y) (sd_ml y) (sd_dp y) (pc, .dup2, nx, a1, a2, a3, a4, w, c, d, ts) = true) (hx : sd_X l sc y rm Q rec (pc, .dup2, nx, a1, a2, a3, a4, w, c, d, ts) ls st h cs ss) : sd_Wq l sc y rm Q pc ls st h cs ss := by
  simp only [sd_ck, Bool.and_eq_true, decide_eq_true_eq] at hq
  obtain ⟨hd, rfl⟩ := hq
  unfold sd_X at hx
  dsimp only at hx
  split at hx
  · exact sw_dup2 hd (fun ⟨_, q⟩ => by cases q) (fun ⟨_, q⟩ => by cases q) (hrec _ _ _ _ _ _ hx)
  · exact hx.elim
theorem sx_if_eq {pc nx a1 a2 a3 a4 w : Nat} {c : Int32} {d : Int64} {ts : List Nat} {o : Int} (hrec : ∀ pc ls st h cs ss, rec pc ls st h cs ss → sd_Wq l sc y rm Q pc ls st h cs ss) (hq : sd_ck (sd_nm y).cls (sd_nm y).name (sd_by y) (sd_ml y) (sd_dp y) (pc, .ifCond .eq o, nx, a1, a2, a3, a4, w, c, d, ts) = true) (hx : sd_X l sc y rm Q rec (pc, .ifCond .eq o, nx, a1, a2, a3, a4, w, c, d, ts) ls st h cs ss) : sd_Wq l sc y rm Q pc ls st h cs ss := by
  simp only [sd_ck, Bool.and_eq_true, decide_eq_true_eq] at hq
  obtain ⟨⟨hd, rfl⟩, ht⟩ := hq
  unfold sd_X at hx
  dsimp only at hx
  split at hx
  · exact sw_if_eq hd ht (fun q => hrec _ _ _ _ _ _ (hx.1 q)) (fun q => hrec _ _ _ _ _ _ (hx.2 q))
  · exact hx.elim
theorem sx_icmp_eq {pc nx a1 a2 a3 a4 w : Nat} {c : Int32} {d : Int64} {ts : List Nat} {o : Int} (hrec : ∀ pc ls st h cs ss, rec pc ls st h cs ss → sd_Wq l sc y rm Q pc ls st h cs ss) (hq : sd_ck (sd_nm y).cls (sd_nm y).name (sd_by y) (sd_ml y) (sd_dp y) (pc, .if_icmp .eq o, nx, a1, a2, a3, a4, w, c, d, ts) = true) (hx : sd_X l sc y rm Q rec (pc, .if_icmp .eq o, nx, a1, a2, a3, a4, w, c, d, ts) ls st h cs ss) : sd_Wq l sc y rm Q pc ls st h cs ss := by
  simp only [sd_ck, Bool.and_eq_true, decide_eq_true_eq] at hq
  obtain ⟨⟨hd, rfl⟩, ht⟩ := hq
  unfold sd_X at hx
  dsimp only at hx
  split at hx
  · exact sw_icmp_eq hd ht (fun q => hrec _ _ _ _ _ _ (hx.1 q)) (fun q => hrec _ _ _ _ _ _ (hx.2 q))
  · exact hx.elim
theorem sx_if_ne {pc nx a1 a2 a3 a4 w : Nat} {c : Int32} {d : Int64} {ts : List Nat} {o : Int} (hrec : ∀ pc ls st h cs ss, rec pc ls st h cs ss → sd_Wq l sc y rm Q pc ls st h cs ss) (hq : sd_ck (sd_nm y).cls (sd_nm y).name (sd_by y) (sd_ml y) (sd_dp y) (pc, .ifCond .ne o, nx, a1, a2, a3, a4, w, c, d, ts) = true) (hx : sd_X l sc y rm Q rec (pc, .ifCond .ne o, nx, a1, a2, a3, a4, w, c, d, ts) ls st h cs ss) : sd_Wq l sc y rm Q pc ls st h cs ss := by
  simp only [sd_ck, Bool.and_eq_true, decide_eq_true_eq] at hq
  obtain ⟨⟨hd, rfl⟩, ht⟩ := hq
  unfold sd_X at hx
  dsimp only at hx
  split at hx
  · exact sw_if_ne hd ht (fun q => hrec _ _ _ _ _ _ (hx.1 q)) (fun q => hrec _ _ _ _ _ _ (hx.2 q))
  · exact hx.elim
theorem sx_icmp_ne {pc nx a1 a2 a3 a4 w : Nat} {c : Int32} {d : Int64} {ts : List Nat} {o : Int} (hrec : ∀ pc ls st h cs ss, rec pc ls st h cs ss → sd_Wq l sc y rm Q pc ls st h cs ss) (hq : sd_ck (sd_nm y).cls (sd_nm y).name (sd_by y) (sd_ml y) (sd_dp y) (pc, .if_icmp .ne o, nx, a1, a2, a3, a4, w, c, d, ts) = true) (hx : sd_X l sc y rm Q rec (pc, .if_icmp .ne o, nx, a1, a2, a3, a4, w, c, d, ts) ls st h cs ss) : sd_Wq l sc y rm Q pc ls st h cs ss := by
  simp only [sd_ck, Bool.and_eq_true, decide_eq_true_eq] at hq
  obtain ⟨⟨hd, rfl⟩, ht⟩ := hq
  unfold sd_X at hx
  dsimp only at hx
  split at hx
  · exact sw_icmp_ne hd ht (fun q => hrec _ _ _ _ _ _ (hx.1 q)) (fun q => hrec _ _ _ _ _ _ (hx.2 q))
  · exact hx.elim
theorem sx_if_lt {pc nx a1 a2 a3 a4 w : Nat} {c : Int32} {d : Int64} {ts : List Nat} {o : Int} (hrec : ∀ pc ls st h cs ss, rec pc ls st h cs ss → sd_Wq l sc y rm Q pc ls st h cs ss) (hq : sd_ck (sd_nm y).cls (sd_nm y).name (sd_by y) (sd_ml y) (sd_dp y) (pc, .ifCond .lt o, nx, a1, a2, a3, a4, w, c, d, ts) = true) (hx : sd_X l sc y rm Q rec (pc, .ifCond .lt o, nx, a1, a2, a3, a4, w, c, d, ts) ls st h cs ss) : sd_Wq l sc y rm Q pc ls st h cs ss := by
  simp only [sd_ck, Bool.and_eq_true, decide_eq_true_eq] at hq
  obtain ⟨⟨hd, rfl⟩, ht⟩ := hq
  unfold sd_X at hx
  dsimp only at hx
  split at hx
  · exact sw_if_lt hd ht (fun q => hrec _ _ _ _ _ _ (hx.1 q)) (fun q => hrec _ _ _ _ _ _ (hx.2 q))
  · exact hx.elim
theorem sx_icmp_lt {pc nx a1 a2 a3 a4 w : Nat} {c : Int32} {d : Int64} {ts : List Nat} {o : Int} (hrec : ∀ pc ls st h cs ss, rec pc ls st h cs ss → sd_Wq l sc y rm Q pc ls st h cs ss) (hq : sd_ck (sd_nm y).cls (sd_nm y).name (sd_by y) (sd_ml y) (sd_dp y) (pc, .if_icmp .lt o, nx, a1, a2, a3, a4, w, c, d, ts) = true) (hx : sd_X l sc y rm Q rec (pc, .if_icmp .lt o, nx, a1, a2, a3, a4, w, c, d, ts) ls st h cs ss) : sd_Wq l sc y rm Q pc ls st h cs ss := by
  simp only [sd_ck, Bool.and_eq_true, decide_eq_true_eq] at hq
  obtain ⟨⟨hd, rfl⟩, ht⟩ := hq
  unfold sd_X at hx
  dsimp only at hx
  split at hx
  · exact sw_icmp_lt hd ht (fun q => hrec _ _ _ _ _ _ (hx.1 q)) (fun q => hrec _ _ _ _ _ _ (hx.2 q))
  · exact hx.elim
theorem sx_if_ge {pc nx a1 a2 a3 a4 w : Nat} {c : Int32} {d : Int64} {ts : List Nat} {o : Int} (hrec : ∀ pc ls st h cs ss, rec pc ls st h cs ss → sd_Wq l sc y rm Q pc ls st h cs ss) (hq : sd_ck (sd_nm y).cls (sd_nm y).name (sd_by y) (sd_ml y) (sd_dp y) (pc, .ifCond .ge o, nx, a1, a2, a3, a4, w, c, d, ts) = true) (hx : sd_X l sc y rm Q rec (pc, .ifCond .ge o, nx, a1, a2, a3, a4, w, c, d, ts) ls st h cs ss) : sd_Wq l sc y rm Q pc ls st h cs ss := by
  simp only [sd_ck, Bool.and_eq_true, decide_eq_true_eq] at hq
  obtain ⟨⟨hd, rfl⟩, ht⟩ := hq
  unfold sd_X at hx
  dsimp only at hx
  split at hx
  · exact sw_if_ge hd ht (fun q => hrec _ _ _ _ _ _ (hx.1 q)) (fun q => hrec _ _ _ _ _ _ (hx.2 q))
  · exact hx.elim
theorem sx_icmp_ge {pc nx a1 a2 a3 a4 w : Nat} {c : Int32} {d : Int64} {ts : List Nat} {o : Int} (hrec : ∀ pc ls st h cs ss, rec pc ls st h cs ss → sd_Wq l sc y rm Q pc ls st h cs ss) (hq : sd_ck (sd_nm y).cls (sd_nm y).name (sd_by y) (sd_ml y) (sd_dp y) (pc, .if_icmp .ge o, nx, a1, a2, a3, a4, w, c, d, ts) = true) (hx : sd_X l sc y rm Q rec (pc, .if_icmp .ge o, nx, a1, a2, a3, a4, w, c, d, ts) ls st h cs ss) : sd_Wq l sc y rm Q pc ls st h cs ss := by
  simp only [sd_ck, Bool.and_eq_true, decide_eq_true_eq] at hq
  obtain ⟨⟨hd, rfl⟩, ht⟩ := hq
  unfold sd_X at hx
  dsimp only at hx
  split at hx
  · exact sw_icmp_ge hd ht (fun q => hrec _ _ _ _ _ _ (hx.1 q)) (fun q => hrec _ _ _ _ _ _ (hx.2 q))
  · exact hx.elim
theorem sx_if_gt {pc nx a1 a2 a3 a4 w : Nat} {c : Int32} {d : Int64} {ts : List Nat} {o : Int} (hrec : ∀ pc ls st h cs ss, rec pc ls st h cs ss → sd_Wq l sc y rm Q pc ls st h cs ss) (hq : sd_ck (sd_nm y).cls (sd_nm y).name (sd_by y) (sd_ml y) (sd_dp y) (pc, .ifCond .gt o, nx, a1, a2, a3, a4, w, c, d, ts) = true) (hx : sd_X l sc y rm Q rec (pc, .ifCond .gt o, nx, a1, a2, a3, a4, w, c, d, ts) ls st h cs ss) : sd_Wq l sc y rm Q pc ls st h cs ss := by
  simp only [sd_ck, Bool.and_eq_true, decide_eq_true_eq] at hq
  obtain ⟨⟨hd, rfl⟩, ht⟩ := hq
  unfold sd_X at hx
  dsimp only at hx
  split at hx
  · exact sw_if_gt hd ht (fun q => hrec _ _ _ _ _ _ (hx.1 q)) (fun q => hrec _ _ _ _ _ _ (hx.2 q))
  · exact hx.elim
theorem sx_icmp_gt {pc nx a1 a2 a3 a4 w : Nat} {c : Int32} {d : Int64} {ts : List Nat} {o : Int} (hrec : ∀ pc ls st h cs ss, rec pc ls st h cs ss → sd_Wq l sc y rm Q pc ls st h cs ss) (hq : sd_ck (sd_nm y).cls (sd_nm y).name (sd_by y) (sd_ml y) (sd_dp y) (pc, .if_icmp .gt o, nx, a1, a2, a3, a4, w, c, d, ts) = true) (hx : sd_X l sc y rm Q rec (pc, .if_icmp .gt o, nx, a1, a2, a3, a4, w, c, d, ts) ls st h cs ss) : sd_Wq l sc y rm Q pc ls st h cs ss := by
  simp only [sd_ck, Bool.and_eq_true, decide_eq_true_eq] at hq
  obtain ⟨⟨hd, rfl⟩, ht⟩ := hq
  unfold sd_X at hx
  dsimp only at hx
  split at hx
  · exact sw_icmp_gt hd ht (fun q => hrec _ _ _ _ _ _ (hx.1 q)) (fun q => hrec _ _ _ _ _ _ (hx.2 q))
  · exact hx.elim
theorem sx_if_le {pc nx a1 a2 a3 a4 w : Nat} {c : Int32} {d : Int64} {ts : List Nat} {o : Int} (hrec : ∀ pc ls st h cs ss, rec pc ls st h cs ss → sd_Wq l sc y rm Q pc ls st h cs ss) (hq : sd_ck (sd_nm y).cls (sd_nm y).name (sd_by y) (sd_ml y) (sd_dp y) (pc, .ifCond .le o, nx, a1, a2, a3, a4, w, c, d, ts) = true) (hx : sd_X l sc y rm Q rec (pc, .ifCond .le o, nx, a1, a2, a3, a4, w, c, d, ts) ls st h cs ss) : sd_Wq l sc y rm Q pc ls st h cs ss := by
  simp only [sd_ck, Bool.and_eq_true, decide_eq_true_eq] at hq
  obtain ⟨⟨hd, rfl⟩, ht⟩ := hq
  unfold sd_X at hx
  dsimp only at hx
  split at hx
  · exact sw_if_le hd ht (fun q => hrec _ _ _ _ _ _ (hx.1 q)) (fun q => hrec _ _ _ _ _ _ (hx.2 q))
  · exact hx.elim
theorem sx_icmp_le {pc nx a1 a2 a3 a4 w : Nat} {c : Int32} {d : Int64} {ts : List Nat} {o : Int} (hrec : ∀ pc ls st h cs ss, rec pc ls st h cs ss → sd_Wq l sc y rm Q pc ls st h cs ss) (hq : sd_ck (sd_nm y).cls (sd_nm y).name (sd_by y) (sd_ml y) (sd_dp y) (pc, .if_icmp .le o, nx, a1, a2, a3, a4, w, c, d, ts) = true) (hx : sd_X l sc y rm Q rec (pc, .if_icmp .le o, nx, a1, a2, a3, a4, w, c, d, ts) ls st h cs ss) : sd_Wq l sc y rm Q pc ls st h cs ss := by
  simp only [sd_ck, Bool.and_eq_true, decide_eq_true_eq] at hq
  obtain ⟨⟨hd, rfl⟩, ht⟩ := hq
  unfold sd_X at hx
  dsimp only at hx
  split at hx
  · exact sw_icmp_le hd ht (fun q => hrec _ _ _ _ _ _ (hx.1 q)) (fun q => hrec _ _ _ _ _ _ (hx.2 q))
  · exact hx.elim
theorem sx_goto {pc nx a1 a2 a3 a4 w : Nat} {c : Int32} {d : Int64} {ts : List Nat} {o : Int} (hrec : ∀ pc ls st h cs ss, rec pc ls st h cs ss → sd_Wq l sc y rm Q pc ls st h cs ss) (hq : sd_ck (sd_nm y).cls (sd_nm y).name (sd_by y) (sd_ml y) (sd_dp y) (pc, .goto o, nx, a1, a2, a3, a4, w, c, d, ts) = true) (hx : sd_X l sc y rm Q rec (pc, .goto o, nx, a1, a2, a3, a4, w, c, d, ts) ls st h cs ss) : sd_Wq l sc y rm Q pc ls st h cs ss := by
  simp only [sd_ck, Bool.and_eq_true, decide_eq_true_eq] at hq
  obtain ⟨⟨hd, rfl⟩, ht⟩ := hq
  exact sw_goto hd ht (hrec _ _ _ _ _ _ hx)
theorem sx_ifnull {pc nx a1 a2 a3 a4 w : Nat} {c : Int32} {d : Int64} {ts : List Nat} {o : Int} (hrec : ∀ pc ls st h cs ss, rec pc ls st h cs ss → sd_Wq l sc y rm Q pc ls st h cs ss) (hq : sd_ck (sd_nm y).cls (sd_nm y).name (sd_by y) (sd_ml y) (sd_dp y) (pc, .ifnull o, nx, a1, a2, a3, a4, w, c, d, ts) = true) (hx : sd_X l sc y rm Q rec (pc, .ifnull o, nx, a1, a2, a3, a4, w, c, d, ts) ls st h cs ss) : sd_Wq l sc y rm Q pc ls st h cs ss := by
  simp only [sd_ck, Bool.and_eq_true, decide_eq_true_eq] at hq
  obtain ⟨⟨hd, rfl⟩, ht⟩ := hq
  unfold sd_X at hx
  dsimp only at hx
  split at hx
  · exact sw_ifnull hd ht (fun q => hrec _ _ _ _ _ _ (hx.1 q)) (fun n q => hrec _ _ _ _ _ _ (hx.2 n q))
  · exact hx.elim
theorem sx_ifnonnull {pc nx a1 a2 a3 a4 w : Nat} {c : Int32} {d : Int64} {ts : List Nat} {o : Int} (hrec : ∀ pc ls st h cs ss, rec pc ls st h cs ss → sd_Wq l sc y rm Q pc ls st h cs ss) (hq : sd_ck (sd_nm y).cls (sd_nm y).name (sd_by y) (sd_ml y) (sd_dp y) (pc, .ifnonnull o, nx, a1, a2, a3, a4, w, c, d, ts) = true) (hx : sd_X l sc y rm Q rec (pc, .ifnonnull o, nx, a1, a2, a3, a4, w, c, d, ts) ls st h cs ss) : sd_Wq l sc y rm Q pc ls st h cs ss := by
  simp only [sd_ck, Bool.and_eq_true, decide_eq_true_eq] at hq
  obtain ⟨⟨hd, rfl⟩, ht⟩ := hq
  unfold sd_X at hx
  dsimp only at hx
  split at hx
  · exact sw_ifnonnull hd ht (fun n q => hrec _ _ _ _ _ _ (hx.1 n q)) (fun q => hrec _ _ _ _ _ _ (hx.2 q))
  · exact hx.elim
theorem sd_sw_mono {k k' : Nat → Prop} {x : Int32} {d : Nat} (hk : ∀ t, k t → k' t) : ∀ (ts : List Nat) (c : Int32), sd_sw k x d c ts → sd_sw k' x d c ts
  | [], _, h => hk d h
  | t :: ts, c, h => ⟨fun q => hk t (h.1 q), fun q => sd_sw_mono hk ts (c + 1) (h.2 q)⟩
theorem sx_tableswitch {pc nx a1 a2 a3 a4 w : Nat} {c : Int32} {d : Int64} {ts : List Nat} {df lo hi : Int} {of : Array Int} (hrec : ∀ pc ls st h cs ss, rec pc ls st h cs ss → sd_Wq l sc y rm Q pc ls st h cs ss) (hq : sd_ck (sd_nm y).cls (sd_nm y).name (sd_by y) (sd_ml y) (sd_dp y) (pc, .tableswitch df lo hi of, nx, a1, a2, a3, a4, w, c, d, ts) = true) (hx : sd_X l sc y rm Q rec (pc, .tableswitch df lo hi of, nx, a1, a2, a3, a4, w, c, d, ts) ls st h cs ss) : sd_Wq l sc y rm Q pc ls st h cs ss := by
  simp only [sd_ck, Bool.and_eq_true, decide_eq_true_eq] at hq
  obtain ⟨hd, h1, h2, h3, h4, h5, h6⟩ := hq
  unfold sd_X at hx
  dsimp only at hx
  split at hx
  · exact sw_tab hd h1 h2 h3 h4 h5 h6 (sd_sw_mono (fun t q => hrec _ _ _ _ _ _ q) _ _ hx)
  · exact hx.elim
theorem sx_getfield {pc nx a1 a2 a3 a4 w : Nat} {c : Int32} {d : Int64} {ts : List Nat} {k : Nat} (hrec : ∀ pc ls st h cs ss, rec pc ls st h cs ss → sd_Wq l sc y rm Q pc ls st h cs ss) (hq : sd_ck (sd_nm y).cls (sd_nm y).name (sd_by y) (sd_ml y) (sd_dp y) (pc, .getfield k, nx, a1, a2, a3, a4, w, c, d, ts) = true) (hx : sd_X l sc y rm Q rec (pc, .getfield k, nx, a1, a2, a3, a4, w, c, d, ts) ls st h cs ss) : sd_Wq l sc y rm Q pc ls st h cs ss := by
  simp only [sd_ck, sd_fld, Bool.and_eq_true, decide_eq_true_eq] at hq
  obtain ⟨⟨⟨hd, rfl⟩, ⟨⟨h1, h2⟩, h3⟩, h4⟩, h5⟩ := hq
  unfold sd_X at hx
  dsimp only at hx
  split at hx
  · next t kk r =>
    obtain ⟨hb, hx⟩ := sd_cd_f hx
    have e := sd_beq hb
    subst e
    refine sd_Wq.with fun hcs hst hok => sw_getf hd h1 h2 (sd_wd_mem h4) ?_
    have hk := sd_okR (sd_o0 hst) (show t < 46 by omega)
    unfold sd_rd
    rw [h3]
    split at hx
    · exact hrec _ _ _ _ _ _ hx
    · exact hrec _ _ _ _ _ _ hx
    · exact hrec _ _ _ _ _ _ hx
    · rw [sd_ro_eq hok h1 hk h5] at hx
      exact hrec _ _ _ _ _ _ hx
  · exact hx.elim
theorem sx_putfield {pc nx a1 a2 a3 a4 w : Nat} {c : Int32} {d : Int64} {ts : List Nat} {k : Nat} (hrec : ∀ pc ls st h cs ss, rec pc ls st h cs ss → sd_Wq l sc y rm Q pc ls st h cs ss) (hq : sd_ck (sd_nm y).cls (sd_nm y).name (sd_by y) (sd_ml y) (sd_dp y) (pc, .putfield k, nx, a1, a2, a3, a4, w, c, d, ts) = true) (hx : sd_X l sc y rm Q rec (pc, .putfield k, nx, a1, a2, a3, a4, w, c, d, ts) ls st h cs ss) : sd_Wq l sc y rm Q pc ls st h cs ss := by
  simp only [sd_ck, sd_fld, Bool.and_eq_true, decide_eq_true_eq] at hq
  obtain ⟨⟨⟨hd, rfl⟩, ⟨⟨h1, h2⟩, h3⟩, h4⟩, h5⟩ := hq
  have hf : sd_fin y a1 a2 := h5.imp (fun q => q.2) (fun q => q.2)
  unfold sd_X at hx
  dsimp only at hx
  split at hx
  · next x t kk r =>
    obtain ⟨hb, hx⟩ := sd_cd_f hx
    have e := sd_beq hb
    subst e
    split at hx
    · exact sw_putI hd h1 h2 (sd_wd_mem h4) hf (Or.inl h3) (hrec _ _ _ _ _ _ hx)
    · exact sw_putI hd h1 h2 (sd_wd_mem h4) hf (Or.inr ⟨h3, hx.1⟩) (hrec _ _ _ _ _ _ hx.2)
    · exact hx.elim
  · next x t kk r =>
    obtain ⟨hb, hx⟩ := sd_cd_f hx
    simp only [Bool.and_eq_true] at hb
    have e := sd_beq hb.1
    subst e
    exact sw_putL hd h1 h2 (sd_wd_mem h4) hf (h3.trans (sd_beq hb.2)) (hrec _ _ _ _ _ _ hx)
  · next x t kk r =>
    obtain ⟨hb, hx⟩ := sd_cd_f hx
    simp only [Bool.and_eq_true, Bool.not_eq_true'] at hb
    obtain ⟨⟨⟨b1, b2⟩, b3⟩, b4⟩ := hb
    have e := sd_beq b1
    subst e
    exact sw_putR hd h1 h2 (sd_wd_mem h4) hf (h3.trans (sd_beq b3)) rfl (sd_blt b4) b2 (hrec _ _ _ _ _ _ hx)
  · exact hx.elim
theorem sx_iaload {pc nx a1 a2 a3 a4 w : Nat} {c : Int32} {d : Int64} {ts : List Nat} (hrec : ∀ pc ls st h cs ss, rec pc ls st h cs ss → sd_Wq l sc y rm Q pc ls st h cs ss) (hq : sd_ck (sd_nm y).cls (sd_nm y).name (sd_by y) (sd_ml y) (sd_dp y) (pc, .iaload, nx, a1, a2, a3, a4, w, c, d, ts) = true) (hx : sd_X l sc y rm Q rec (pc, .iaload, nx, a1, a2, a3, a4, w, c, d, ts) ls st h cs ss) : sd_Wq l sc y rm Q pc ls st h cs ss := by
  simp only [sd_ck, Bool.and_eq_true, decide_eq_true_eq] at hq
  obtain ⟨hd, rfl⟩ := hq
  unfold sd_X at hx
  dsimp only at hx
  split at hx
  · next j t k r =>
    rcases sd_cd_t hx with ⟨hb, hx⟩ | ⟨-, hx⟩
    · have e := sd_beq hb
      subst e
      split at hx
      · next L xs =>
        obtain ⟨rfl, n, hn, hx⟩ := hx
        exact sw_sld rfl hn.1 hn.2.1 hn.2.2 hd (hrec _ _ _ _ _ _ hx)
      · exact hx.elim
    · obtain ⟨hb, n, hn, hx⟩ := sd_cd_f hx
      simp only [Bool.and_eq_true] at hb
      obtain ⟨⟨b1, b2⟩, b3⟩ := hb
      have b1 := sd_ble b1
      have b2 := sd_blt b2
      have b3 := sd_beq b3
      refine sw_ald (Or.inl ⟨rfl, b3⟩) hd b1 b2 hn.1 hn.2 ?_
      unfold sd_rd
      rw [sd_fcA t b2 b1 n, b3]
      exact hrec _ _ _ _ _ _ hx
  · exact hx.elim
theorem sx_laload {pc nx a1 a2 a3 a4 w : Nat} {c : Int32} {d : Int64} {ts : List Nat} (hrec : ∀ pc ls st h cs ss, rec pc ls st h cs ss → sd_Wq l sc y rm Q pc ls st h cs ss) (hq : sd_ck (sd_nm y).cls (sd_nm y).name (sd_by y) (sd_ml y) (sd_dp y) (pc, .laload, nx, a1, a2, a3, a4, w, c, d, ts) = true) (hx : sd_X l sc y rm Q rec (pc, .laload, nx, a1, a2, a3, a4, w, c, d, ts) ls st h cs ss) : sd_Wq l sc y rm Q pc ls st h cs ss := by
  simp only [sd_ck, Bool.and_eq_true, decide_eq_true_eq] at hq
  obtain ⟨hd, rfl⟩ := hq
  unfold sd_X at hx
  dsimp only at hx
  split at hx
  · next j t k r =>
    obtain ⟨hb, n, hn, hx⟩ := sd_cd_f hx
    simp only [Bool.and_eq_true] at hb
    obtain ⟨⟨b1, b2⟩, b3⟩ := hb
    have b1 := sd_ble b1
    have b2 := sd_blt b2
    have b3 := sd_beq b3
    refine sw_ald (Or.inr (Or.inl ⟨rfl, b3⟩)) hd b1 b2 hn.1 hn.2 ?_
    unfold sd_rd
    rw [sd_fcA t b2 b1 n, b3]
    exact hrec _ _ _ _ _ _ hx
  · exact hx.elim
theorem sx_baload {pc nx a1 a2 a3 a4 w : Nat} {c : Int32} {d : Int64} {ts : List Nat} (hrec : ∀ pc ls st h cs ss, rec pc ls st h cs ss → sd_Wq l sc y rm Q pc ls st h cs ss) (hq : sd_ck (sd_nm y).cls (sd_nm y).name (sd_by y) (sd_ml y) (sd_dp y) (pc, .baload, nx, a1, a2, a3, a4, w, c, d, ts) = true) (hx : sd_X l sc y rm Q rec (pc, .baload, nx, a1, a2, a3, a4, w, c, d, ts) ls st h cs ss) : sd_Wq l sc y rm Q pc ls st h cs ss := by
  simp only [sd_ck, Bool.and_eq_true, decide_eq_true_eq] at hq
  obtain ⟨hd, rfl⟩ := hq
  unfold sd_X at hx
  dsimp only at hx
  split at hx
  · next j t k r =>
    obtain ⟨hb, n, hn, hx⟩ := sd_cd_f hx
    simp only [Bool.and_eq_true] at hb
    obtain ⟨⟨b1, b2⟩, b3⟩ := hb
    have b1 := sd_ble b1
    have b2 := sd_blt b2
    have b3 := sd_beq b3
    refine sw_ald (Or.inr (Or.inr (Or.inl ⟨rfl, b3⟩))) hd b1 b2 hn.1 hn.2 ?_
    unfold sd_rd
    rw [sd_fcA t b2 b1 n, b3]
    exact hrec _ _ _ _ _ _ hx
  · exact hx.elim
theorem sx_aaload {pc nx a1 a2 a3 a4 w : Nat} {c : Int32} {d : Int64} {ts : List Nat} (hrec : ∀ pc ls st h cs ss, rec pc ls st h cs ss → sd_Wq l sc y rm Q pc ls st h cs ss) (hq : sd_ck (sd_nm y).cls (sd_nm y).name (sd_by y) (sd_ml y) (sd_dp y) (pc, .aaload, nx, a1, a2, a3, a4, w, c, d, ts) = true) (hx : sd_X l sc y rm Q rec (pc, .aaload, nx, a1, a2, a3, a4, w, c, d, ts) ls st h cs ss) : sd_Wq l sc y rm Q pc ls st h cs ss := by
  simp only [sd_ck, Bool.and_eq_true, decide_eq_true_eq] at hq
  obtain ⟨hd, rfl⟩ := hq
  unfold sd_X at hx
  dsimp only at hx
  split at hx
  · next j t k r =>
    obtain ⟨hb, n, hn, hx⟩ := sd_cd_f hx
    simp only [Bool.and_eq_true] at hb
    obtain ⟨⟨b1, b2⟩, b3⟩ := hb
    have b1 := sd_ble b1
    have b2 := sd_blt b2
    have b3 := sd_ble b3
    refine sw_ald (Or.inr (Or.inr (Or.inr ⟨rfl, b3⟩))) hd b1 b2 hn.1 hn.2 ?_
    obtain ⟨u, hu⟩ : ∃ u, sd_fc t 0 = u + 3 := ⟨sd_fc t 0 - 3, by omega⟩
    unfold sd_rd
    rw [sd_fcA t b2 b1 n, hu]
    rw [hu] at hx
    exact hrec _ _ _ _ _ _ hx
  · exact hx.elim
theorem sx_iastore {pc nx a1 a2 a3 a4 w : Nat} {c : Int32} {d : Int64} {ts : List Nat} (hrec : ∀ pc ls st h cs ss, rec pc ls st h cs ss → sd_Wq l sc y rm Q pc ls st h cs ss) (hq : sd_ck (sd_nm y).cls (sd_nm y).name (sd_by y) (sd_ml y) (sd_dp y) (pc, .iastore, nx, a1, a2, a3, a4, w, c, d, ts) = true) (hx : sd_X l sc y rm Q rec (pc, .iastore, nx, a1, a2, a3, a4, w, c, d, ts) ls st h cs ss) : sd_Wq l sc y rm Q pc ls st h cs ss := by
  simp only [sd_ck, Bool.and_eq_true, decide_eq_true_eq] at hq
  obtain ⟨hd, rfl⟩ := hq
  unfold sd_X at hx
  dsimp only at hx
  split at hx
  · next x j t k r =>
    obtain ⟨hb, n, hn, hx⟩ := sd_cd_f hx
    simp only [Bool.and_eq_true] at hb
    obtain ⟨⟨b1, b2⟩, b3⟩ := hb
    have b1 := sd_ble b1
    have b2 := sd_blt b2
    have b3 := sd_beq b3
    exact sw_astI (Or.inl ⟨rfl, b3⟩) hd b1 b2 hn.1 hn.2 (hrec _ _ _ _ _ _ hx)
  · exact hx.elim
theorem sx_bastore {pc nx a1 a2 a3 a4 w : Nat} {c : Int32} {d : Int64} {ts : List Nat} (hrec : ∀ pc ls st h cs ss, rec pc ls st h cs ss → sd_Wq l sc y rm Q pc ls st h cs ss) (hq : sd_ck (sd_nm y).cls (sd_nm y).name (sd_by y) (sd_ml y) (sd_dp y) (pc, .bastore, nx, a1, a2, a3, a4, w, c, d, ts) = true) (hx : sd_X l sc y rm Q rec (pc, .bastore, nx, a1, a2, a3, a4, w, c, d, ts) ls st h cs ss) : sd_Wq l sc y rm Q pc ls st h cs ss := by
  simp only [sd_ck, Bool.and_eq_true, decide_eq_true_eq] at hq
  obtain ⟨hd, rfl⟩ := hq
  unfold sd_X at hx
  dsimp only at hx
  split at hx
  · next x j t k r =>
    obtain ⟨hb, n, hn, hx⟩ := sd_cd_f hx
    simp only [Bool.and_eq_true] at hb
    obtain ⟨⟨b1, b2⟩, b3⟩ := hb
    have b1 := sd_ble b1
    have b2 := sd_blt b2
    have b3 := sd_beq b3
    exact sw_astI (Or.inr ⟨rfl, b3, hn.2.2⟩) hd b1 b2 hn.1 hn.2.1 (hrec _ _ _ _ _ _ hx)
  · exact hx.elim
theorem sx_lastore {pc nx a1 a2 a3 a4 w : Nat} {c : Int32} {d : Int64} {ts : List Nat} (hrec : ∀ pc ls st h cs ss, rec pc ls st h cs ss → sd_Wq l sc y rm Q pc ls st h cs ss) (hq : sd_ck (sd_nm y).cls (sd_nm y).name (sd_by y) (sd_ml y) (sd_dp y) (pc, .lastore, nx, a1, a2, a3, a4, w, c, d, ts) = true) (hx : sd_X l sc y rm Q rec (pc, .lastore, nx, a1, a2, a3, a4, w, c, d, ts) ls st h cs ss) : sd_Wq l sc y rm Q pc ls st h cs ss := by
  simp only [sd_ck, Bool.and_eq_true, decide_eq_true_eq] at hq
  obtain ⟨hd, rfl⟩ := hq
  unfold sd_X at hx
  dsimp only at hx
  split at hx
  · next x j t k r =>
    obtain ⟨hb, n, hn, hx⟩ := sd_cd_f hx
    simp only [Bool.and_eq_true] at hb
    obtain ⟨⟨b1, b2⟩, b3⟩ := hb
    have b1 := sd_ble b1
    have b2 := sd_blt b2
    have b3 := sd_beq b3
    exact sw_astL b3 hd b1 b2 hn.1 hn.2 (hrec _ _ _ _ _ _ hx)
  · exact hx.elim
theorem sx_aastore {pc nx a1 a2 a3 a4 w : Nat} {c : Int32} {d : Int64} {ts : List Nat} (hrec : ∀ pc ls st h cs ss, rec pc ls st h cs ss → sd_Wq l sc y rm Q pc ls st h cs ss) (hq : sd_ck (sd_nm y).cls (sd_nm y).name (sd_by y) (sd_ml y) (sd_dp y) (pc, .aastore, nx, a1, a2, a3, a4, w, c, d, ts) = true) (hx : sd_X l sc y rm Q rec (pc, .aastore, nx, a1, a2, a3, a4, w, c, d, ts) ls st h cs ss) : sd_Wq l sc y rm Q pc ls st h cs ss := by
  simp only [sd_ck, Bool.and_eq_true, decide_eq_true_eq] at hq
  obtain ⟨hd, rfl⟩ := hq
  unfold sd_X at hx
  dsimp only at hx
  split at hx
  · next u o j t k r =>
    obtain ⟨hb, n, hn, hx⟩ := sd_cd_f hx
    simp only [Bool.and_eq_true] at hb
    obtain ⟨⟨⟨b1, b2⟩, b3⟩, b4⟩ := hb
    exact sw_astR (sd_beq b3) (sd_blt b4) hd (sd_ble b1) (sd_blt b2) hn.1 hn.2 (hrec _ _ _ _ _ _ hx)
  · exact hx.elim
theorem sx_arraylength {pc nx a1 a2 a3 a4 w : Nat} {c : Int32} {d : Int64} {ts : List Nat} (hrec : ∀ pc ls st h cs ss, rec pc ls st h cs ss → sd_Wq l sc y rm Q pc ls st h cs ss) (hq : sd_ck (sd_nm y).cls (sd_nm y).name (sd_by y) (sd_ml y) (sd_dp y) (pc, .arraylength, nx, a1, a2, a3, a4, w, c, d, ts) = true) (hx : sd_X l sc y rm Q rec (pc, .arraylength, nx, a1, a2, a3, a4, w, c, d, ts) ls st h cs ss) : sd_Wq l sc y rm Q pc ls st h cs ss := by
  simp only [sd_ck, Bool.and_eq_true, decide_eq_true_eq] at hq
  obtain ⟨hd, rfl⟩ := hq
  unfold sd_X at hx
  dsimp only at hx
  split at hx
  · next t k r =>
    obtain ⟨hb, hx⟩ := sd_cd_f hx
    simp only [Bool.and_eq_true] at hb
    have e1 := sd_beq hb.1
    have e2 := sd_beq hb.2
    subst e1; subst e2
    split at hx
    · next L xs => exact sw_slen rfl hd (hrec _ _ _ _ _ _ hx)
    · exact hx.elim
  · exact hx.elim
theorem sx_new {pc nx a1 a2 a3 a4 w : Nat} {c : Int32} {d : Int64} {ts : List Nat} {k : Nat} (hrec : ∀ pc ls st h cs ss, rec pc ls st h cs ss → sd_Wq l sc y rm Q pc ls st h cs ss) (hq : sd_ck (sd_nm y).cls (sd_nm y).name (sd_by y) (sd_ml y) (sd_dp y) (pc, .new k, nx, a1, a2, a3, a4, w, c, d, ts) = true) (hx : sd_X l sc y rm Q rec (pc, .new k, nx, a1, a2, a3, a4, w, c, d, ts) ls st h cs ss) : sd_Wq l sc y rm Q pc ls st h cs ss := by
  simp only [sd_ck, Bool.and_eq_true, decide_eq_true_eq] at hq
  obtain ⟨⟨⟨hd, rfl⟩, h1, rfl⟩, h2, h3, h4⟩ := hq
  unfold sd_X at hx
  dsimp only at hx
  obtain ⟨hb, hx⟩ := sd_cd_f hx
  simp only [Bool.and_eq_true, Bool.not_eq_true'] at hb
  exact sw_new hd h1 (sd_wd_mem h2) (sd_wd_mem h3) (sd_wd_mem h4) hb.1.1 ⟨sd_ble hb.1.2, sd_ble hb.2⟩ (hrec _ _ _ _ _ _ hx)
theorem sx_newarray {pc nx a1 a2 a3 a4 w : Nat} {c : Int32} {d : Int64} {ts : List Nat} {k : ArrayType} (hrec : ∀ pc ls st h cs ss, rec pc ls st h cs ss → sd_Wq l sc y rm Q pc ls st h cs ss) (hq : sd_ck (sd_nm y).cls (sd_nm y).name (sd_by y) (sd_ml y) (sd_dp y) (pc, .newarray k, nx, a1, a2, a3, a4, w, c, d, ts) = true) (hx : sd_X l sc y rm Q rec (pc, .newarray k, nx, a1, a2, a3, a4, w, c, d, ts) ls st h cs ss) : sd_Wq l sc y rm Q pc ls st h cs ss := by
  simp only [sd_ck, Bool.and_eq_true, decide_eq_true_eq] at hq
  obtain ⟨⟨⟨hd, rfl⟩, h1, h2, rfl, h3, h4⟩, h5, h6⟩ := hq
  unfold sd_X at hx
  dsimp only at hx
  split at hx
  · obtain ⟨hb, hx⟩ := sd_cd_f hx
    simp only [Bool.and_eq_true, Bool.not_eq_true'] at hb
    exact sw_newa hd h1 h2 h4 h5 (sd_wd_mem h6) hb.1.1 ⟨sd_ble hb.1.2, sd_ble hb.2⟩ hx.1 (hrec _ _ _ _ _ _ hx.2)
  · exact hx.elim
theorem sx_anewarray {pc nx a1 a2 a3 a4 w : Nat} {c : Int32} {d : Int64} {ts : List Nat} {k : Nat} (hrec : ∀ pc ls st h cs ss, rec pc ls st h cs ss → sd_Wq l sc y rm Q pc ls st h cs ss) (hq : sd_ck (sd_nm y).cls (sd_nm y).name (sd_by y) (sd_ml y) (sd_dp y) (pc, .anewarray k, nx, a1, a2, a3, a4, w, c, d, ts) = true) (hx : sd_X l sc y rm Q rec (pc, .anewarray k, nx, a1, a2, a3, a4, w, c, d, ts) ls st h cs ss) : sd_Wq l sc y rm Q pc ls st h cs ss := by
  simp only [sd_ck, Bool.and_eq_true, decide_eq_true_eq] at hq
  obtain ⟨⟨⟨hd, rfl⟩, h1, h2, rfl, h3, h4⟩, h5, h6⟩ := hq
  unfold sd_X at hx
  dsimp only at hx
  split at hx
  · obtain ⟨hb, hx⟩ := sd_cd_f hx
    simp only [Bool.and_eq_true, Bool.not_eq_true'] at hb
    exact sw_anew hd h1 h2 (t := sd_fc a1 0 - 3) (by omega) (sd_wd_mem h5) (sd_wd_mem h6) hb.1.1 ⟨sd_ble hb.1.2, sd_ble hb.2⟩ hx.1 (hrec _ _ _ _ _ _ hx.2)
  · exact hx.elim
theorem sx_invokevirtual {pc nx a1 a2 a3 a4 w : Nat} {c : Int32} {d : Int64} {ts : List Nat} {k : Nat} (hrec : ∀ pc ls st h cs ss, rec pc ls st h cs ss → sd_Wq l sc y rm Q pc ls st h cs ss) (hq : sd_ck (sd_nm y).cls (sd_nm y).name (sd_by y) (sd_ml y) (sd_dp y) (pc, .invokevirtual k, nx, a1, a2, a3, a4, w, c, d, ts) = true) (hx : sd_X l sc y rm Q rec (pc, .invokevirtual k, nx, a1, a2, a3, a4, w, c, d, ts) ls st h cs ss) : sd_Wq l sc y rm Q pc ls st h cs ss := by
  simp only [sd_ck, Bool.and_eq_true, decide_eq_true_eq] at hq
  obtain ⟨⟨⟨hd, hn⟩, h1, h2, h3⟩, h4, h5, h6, h7, h8⟩ := hq
  unfold sd_X at hx
  dsimp only at hx
  split at hx
  · next t kk as r hp =>
    obtain ⟨hb, hx⟩ := sd_cd_f hx
    simp only [Bool.and_eq_true] at hb
    obtain ⟨a', e1, e2, e3⟩ := sd_pop_eq _ _ _ _ _ hp
    rw [List.append_nil] at e1
    subst e1
    rw [e2]
    exact sd_Wq.with fun hcs _ _ => sd_X1s hrec h2 ⟨k, Or.inl ⟨hd, sd_wd_mem h3, h7, h8, t, kk, as, rfl, sd_beq hb.1⟩⟩ hn (e3.trans h6) h4 (sd_ble hb.2) h5 hx hcs
  · exact hx.elim
theorem sx_invokestatic {pc nx a1 a2 a3 a4 w : Nat} {c : Int32} {d : Int64} {ts : List Nat} {k : Nat} (hrec : ∀ pc ls st h cs ss, rec pc ls st h cs ss → sd_Wq l sc y rm Q pc ls st h cs ss) (hq : sd_ck (sd_nm y).cls (sd_nm y).name (sd_by y) (sd_ml y) (sd_dp y) (pc, .invokestatic k, nx, a1, a2, a3, a4, w, c, d, ts) = true) (hx : sd_X l sc y rm Q rec (pc, .invokestatic k, nx, a1, a2, a3, a4, w, c, d, ts) ls st h cs ss) : sd_Wq l sc y rm Q pc ls st h cs ss := by
  simp only [sd_ck, Bool.and_eq_true, decide_eq_true_eq] at hq
  obtain ⟨⟨⟨hd, hn⟩, h1, h2, h3⟩, h4, h5, h6, h7⟩ := hq
  unfold sd_X at hx
  dsimp only at hx
  split at hx
  · next as r hp =>
    obtain ⟨hb, hx⟩ := sd_cd_f hx
    obtain ⟨a', e1, e2, e3⟩ := sd_pop_eq _ _ _ _ _ hp
    rw [List.append_nil] at e1
    subst e1
    rw [e2]
    exact sd_Wq.with fun hcs _ _ => sd_X1s hrec h2 ⟨k, Or.inr (Or.inl ⟨hd, sd_wd_mem h3, h7⟩)⟩ hn (e3.trans h6) h4 (sd_ble hb) h5 hx hcs
  · exact hx.elim
theorem sx_invokespecial {pc nx a1 a2 a3 a4 w : Nat} {c : Int32} {d : Int64} {ts : List Nat} {k : Nat} (hrec : ∀ pc ls st h cs ss, rec pc ls st h cs ss → sd_Wq l sc y rm Q pc ls st h cs ss) (hq : sd_ck (sd_nm y).cls (sd_nm y).name (sd_by y) (sd_ml y) (sd_dp y) (pc, .invokespecial k, nx, a1, a2, a3, a4, w, c, d, ts) = true) (hx : sd_X l sc y rm Q rec (pc, .invokespecial k, nx, a1, a2, a3, a4, w, c, d, ts) ls st h cs ss) : sd_Wq l sc y rm Q pc ls st h cs ss := by
  simp only [sd_ck, Bool.and_eq_true, decide_eq_true_eq] at hq
  obtain ⟨⟨hd, hn⟩, hq⟩ := hq
  unfold sd_X at hx
  dsimp only at hx
  rcases sd_cd_t hx with ⟨hb, hx⟩ | ⟨hb, hx⟩
  · have e := sd_beq hb
    split at hx
    · next t kk _ =>
      rcases hq with ⟨-, q2, q3⟩ | ⟨q1, -⟩
      · subst hn
        exact sw_objInit (q := (t, kk)) hd (sd_wd_mem q2) sd_ob_init2 sd_ob_init3 q3 rfl (hrec _ _ _ _ _ _ hx)
      · rcases q1 with q | q <;> omega
    · exact hx.elim
  · rcases hq with ⟨q1, -⟩ | ⟨q1, h2, h4, h5, h6, h7, h8, h9⟩
    · rw [q1] at hb; cases hb
    · split at hx
      · next t kk as r hp =>
        obtain ⟨hb, hx⟩ := sd_cd_f hx
        obtain ⟨a', e1, e2, e3⟩ := sd_pop_eq _ _ _ _ _ hp
        rw [List.append_nil] at e1
        subst e1
        rw [e2]
        exact sd_Wq.with fun hcs _ _ => sd_X1s hrec h2 ⟨k, Or.inr (Or.inr ⟨hd, q1.imp (fun q => sd_wd_mem q.2) (fun q => sd_wd_mem q.2), h7, h8, h9, t, kk, as, rfl⟩)⟩ hn (e3.trans h6) h4 (sd_ble hb) h5 hx hcs
      · exact hx.elim
theorem sx_ireturn {pc nx a1 a2 a3 a4 w : Nat} {c : Int32} {d : Int64} {ts : List Nat} (hrec : ∀ pc ls st h cs ss, rec pc ls st h cs ss → sd_Wq l sc y rm Q pc ls st h cs ss) (hq : sd_ck (sd_nm y).cls (sd_nm y).name (sd_by y) (sd_ml y) (sd_dp y) (pc, .ireturn, nx, a1, a2, a3, a4, w, c, d, ts) = true) (hx : sd_X l sc y rm Q rec (pc, .ireturn, nx, a1, a2, a3, a4, w, c, d, ts) ls st h cs ss) : sd_Wq l sc y rm Q pc ls st h cs ss := by
  simp only [sd_ck, Bool.and_eq_true, decide_eq_true_eq] at hq
  obtain ⟨hd, rfl⟩ := hq
  unfold sd_X at hx
  dsimp only at hx
  split at hx
  · next x =>
    split at hx
    · next e => exact sw_ret (v := some (.inl x)) ⟨hd, Or.inl e⟩ hx
    · next e => exact sw_ret (v := some (.inl x)) ⟨hd, Or.inr ⟨e, hx.1⟩⟩ hx.2
    · exact hx.elim
  · exact hx.elim
theorem sx_lreturn {pc nx a1 a2 a3 a4 w : Nat} {c : Int32} {d : Int64} {ts : List Nat} (hrec : ∀ pc ls st h cs ss, rec pc ls st h cs ss → sd_Wq l sc y rm Q pc ls st h cs ss) (hq : sd_ck (sd_nm y).cls (sd_nm y).name (sd_by y) (sd_ml y) (sd_dp y) (pc, .lreturn, nx, a1, a2, a3, a4, w, c, d, ts) = true) (hx : sd_X l sc y rm Q rec (pc, .lreturn, nx, a1, a2, a3, a4, w, c, d, ts) ls st h cs ss) : sd_Wq l sc y rm Q pc ls st h cs ss := by
  simp only [sd_ck, Bool.and_eq_true, decide_eq_true_eq] at hq
  obtain ⟨hd, rfl⟩ := hq
  unfold sd_X at hx
  dsimp only at hx
  split at hx
  · next x =>
    split at hx
    · next e => exact sw_ret (v := some (.inr (.inl x))) ⟨hd, e⟩ hx
    · exact hx.elim
  · exact hx.elim
theorem sx_areturn {pc nx a1 a2 a3 a4 w : Nat} {c : Int32} {d : Int64} {ts : List Nat} (hrec : ∀ pc ls st h cs ss, rec pc ls st h cs ss → sd_Wq l sc y rm Q pc ls st h cs ss) (hq : sd_ck (sd_nm y).cls (sd_nm y).name (sd_by y) (sd_ml y) (sd_dp y) (pc, .areturn, nx, a1, a2, a3, a4, w, c, d, ts) = true) (hx : sd_X l sc y rm Q rec (pc, .areturn, nx, a1, a2, a3, a4, w, c, d, ts) ls st h cs ss) : sd_Wq l sc y rm Q pc ls st h cs ss := by
  simp only [sd_ck, Bool.and_eq_true, decide_eq_true_eq] at hq
  obtain ⟨hd, rfl⟩ := hq
  unfold sd_X at hx
  dsimp only at hx
  split at hx
  · next x =>
    split at hx
    · next n e => exact sw_ret (v := some (.inr (.inr x))) ⟨hd, n, e⟩ hx
    · exact hx.elim
  · exact hx.elim
theorem sx_return_ {pc nx a1 a2 a3 a4 w : Nat} {c : Int32} {d : Int64} {ts : List Nat} (hrec : ∀ pc ls st h cs ss, rec pc ls st h cs ss → sd_Wq l sc y rm Q pc ls st h cs ss) (hq : sd_ck (sd_nm y).cls (sd_nm y).name (sd_by y) (sd_ml y) (sd_dp y) (pc, .return_, nx, a1, a2, a3, a4, w, c, d, ts) = true) (hx : sd_X l sc y rm Q rec (pc, .return_, nx, a1, a2, a3, a4, w, c, d, ts) ls st h cs ss) : sd_Wq l sc y rm Q pc ls st h cs ss := by
  simp only [sd_ck, Bool.and_eq_true, decide_eq_true_eq] at hq
  obtain ⟨hd, rfl⟩ := hq
  unfold sd_X at hx
  dsimp only at hx
  split at hx
  · split at hx
    · next e => exact sw_ret (v := none) ⟨hd, e⟩ hx
    · exact hx.elim
  · exact hx.elim
theorem sd_Xs {q : sd_I} (hrec : ∀ pc ls st h cs ss, rec pc ls st h cs ss → sd_Wq l sc y rm Q pc ls st h cs ss) (hq : sd_ck (sd_nm y).cls (sd_nm y).name (sd_by y) (sd_ml y) (sd_dp y) q = true) (hx : sd_X l sc y rm Q rec q ls st h cs ss) : sd_Wq l sc y rm Q q.1 ls st h cs ss := by
  obtain ⟨pc, i, nx, a1, a2, a3, a4, w, c, d, ts⟩ := q
  cases i
  case iconst => exact sx_iconst hrec hq hx
  case bipush => exact sx_bipush hrec hq hx
  case sipush => exact sx_sipush hrec hq hx
  case lconst => exact sx_lconst hrec hq hx
  case ldc => exact sx_ldc hrec hq hx
  case ldc_w => exact sx_ldc_w hrec hq hx
  case ldc2_w => exact sx_ldc2_w hrec hq hx
  case aconst_null => exact sx_aconst_null hrec hq hx
  case iload_n => exact sx_iload_n hrec hq hx
  case iload => exact sx_iload hrec hq hx
  case lload_n => exact sx_lload_n hrec hq hx
  case lload => exact sx_lload hrec hq hx
  case aload_n => exact sx_aload_n hrec hq hx
  case aload => exact sx_aload hrec hq hx
  case istore_n => exact sx_istore_n hrec hq hx
  case istore => exact sx_istore hrec hq hx
  case lstore_n => exact sx_lstore_n hrec hq hx
  case lstore => exact sx_lstore hrec hq hx
  case astore_n => exact sx_astore_n hrec hq hx
  case astore => exact sx_astore hrec hq hx
  case iinc => exact sx_iinc hrec hq hx
  case iadd => exact sx_iadd hrec hq hx
  case isub => exact sx_isub hrec hq hx
  case imul => exact sx_imul hrec hq hx
  case iand => exact sx_iand hrec hq hx
  case ior => exact sx_ior hrec hq hx
  case ixor => exact sx_ixor hrec hq hx
  case ishl => exact sx_ishl hrec hq hx
  case ishr => exact sx_ishr hrec hq hx
  case idiv => exact sx_idiv hrec hq hx
  case irem => exact sx_irem hrec hq hx
  case ineg => exact sx_ineg hrec hq hx
  case ladd => exact sx_ladd hrec hq hx
  case lsub => exact sx_lsub hrec hq hx
  case lmul => exact sx_lmul hrec hq hx
  case land => exact sx_land hrec hq hx
  case lor => exact sx_lor hrec hq hx
  case lxor => exact sx_lxor hrec hq hx
  case ldiv => exact sx_ldiv hrec hq hx
  case lrem => exact sx_lrem hrec hq hx
  case lshl => exact sx_lshl hrec hq hx
  case lshr => exact sx_lshr hrec hq hx
  case lushr => exact sx_lushr hrec hq hx
  case i2l => exact sx_i2l hrec hq hx
  case l2i => exact sx_l2i hrec hq hx
  case lcmp => exact sx_lcmp hrec hq hx
  case dup => exact sx_dup hrec hq hx
  case pop => exact sx_pop hrec hq hx
  case dup2 => exact sx_dup2 hrec hq hx
  case ifCond cn off =>
    cases cn
    case eq => exact sx_if_eq hrec hq hx
    case ne => exact sx_if_ne hrec hq hx
    case lt => exact sx_if_lt hrec hq hx
    case ge => exact sx_if_ge hrec hq hx
    case gt => exact sx_if_gt hrec hq hx
    case le => exact sx_if_le hrec hq hx
  case if_icmp cn off =>
    cases cn
    case eq => exact sx_icmp_eq hrec hq hx
    case ne => exact sx_icmp_ne hrec hq hx
    case lt => exact sx_icmp_lt hrec hq hx
    case ge => exact sx_icmp_ge hrec hq hx
    case gt => exact sx_icmp_gt hrec hq hx
    case le => exact sx_icmp_le hrec hq hx
  case goto => exact sx_goto hrec hq hx
  case ifnull => exact sx_ifnull hrec hq hx
  case ifnonnull => exact sx_ifnonnull hrec hq hx
  case tableswitch => exact sx_tableswitch hrec hq hx
  case getfield => exact sx_getfield hrec hq hx
  case putfield => exact sx_putfield hrec hq hx
  case iaload => exact sx_iaload hrec hq hx
  case laload => exact sx_laload hrec hq hx
  case baload => exact sx_baload hrec hq hx
  case aaload => exact sx_aaload hrec hq hx
  case iastore => exact sx_iastore hrec hq hx
  case bastore => exact sx_bastore hrec hq hx
  case lastore => exact sx_lastore hrec hq hx
  case aastore => exact sx_aastore hrec hq hx
  case arraylength => exact sx_arraylength hrec hq hx
  case new => exact sx_new hrec hq hx
  case newarray => exact sx_newarray hrec hq hx
  case anewarray => exact sx_anewarray hrec hq hx
  case invokevirtual => exact sx_invokevirtual hrec hq hx
  case invokestatic => exact sx_invokestatic hrec hq hx
  case invokespecial => exact sx_invokespecial hrec hq hx
  case ireturn => exact sx_ireturn hrec hq hx
  case lreturn => exact sx_lreturn hrec hq hx
  case areturn => exact sx_areturn hrec hq hx
  case return_ => exact sx_return_ hrec hq hx
  all_goals exact hx.elim
def sd_wp (l : Launch) (sc : Option (Nat × (Nat → Int32))) (y : Nat) (rm : Bool) (Q : Option sd_V → sd_H → Prop) (cd : List (List sd_I)) (cuts : List Nat) (n : Nat) : sd_Rc := Nat.rec (motive := fun _ => sd_Rc) (fun pc ls st h cs ss => sd_Wq l sc y rm Q pc ls st h cs ss)
  (fun _ ih pc ls st h cs ss => cond (cuts.any (Nat.beq pc)) (sd_Wq l sc y rm Q pc ls st h cs ss) (match sd_fe cd pc with
    | some q => sd_X l sc y rm Q ih q ls st h cs ss
    | none => False)) n
theorem sd_fd_mem : ∀ (t : List sd_I) (pc : Nat) (q : sd_I), sd_fd t pc = some q → q ∈ t ∧ q.1 = pc
  | [], _, _, h => by cases h
  | e :: t, pc, q, h => by
    unfold sd_fd at h
    cases hb : Nat.beq e.1 pc with
    | true => rw [hb] at h; cases h; exact ⟨List.mem_cons_self, sd_beq hb⟩
    | false => rw [hb] at h; obtain ⟨h1, h2⟩ := sd_fd_mem t pc q h; exact ⟨List.mem_cons_of_mem _ h1, h2⟩
theorem sd_fe_ck {pc : Nat} {q : sd_I} (hy : y < 146) (h : sd_fe (sd_cd y) pc = some q) : q.1 = pc ∧ sd_ck (sd_nm y).cls (sd_nm y).name (sd_by y) (sd_ml y) (sd_dp y) q = true := by
  unfold sd_fe at h
  split at h
  · next t ht =>
    obtain ⟨h1, h2⟩ := sd_fd_mem t pc q h
    refine ⟨h2, ?_⟩
    have hc := sd_caA y hy
    unfold sd_ca sd_cb at hc
    have hm := sd_nth_mem _ _ _ ht
    unfold sd_cd at hm
    unfold sd_nm sd_by sd_ml
    generalize sd_mr y = mr at hc hm ⊢
    obtain ⟨nm, bytes, ml, rt, cd⟩ := mr
    exact List.all_eq_true.mp (List.all_eq_true.mp hc t hm) q h1
  · cases h
theorem sd_Fs {cd : List (List sd_I)} {pc : Nat} (hy : y < 146) (hcd : sd_cd y = cd) (hrec : ∀ pc ls st h cs ss, rec pc ls st h cs ss → sd_Wq l sc y rm Q pc ls st h cs ss) (hx : match sd_fe cd pc with | some q => sd_X l sc y rm Q rec q ls st h cs ss | none => False) : sd_Wq l sc y rm Q pc ls st h cs ss := by
  subst hcd
  cases hf : sd_fe (sd_cd y) pc with
  | none => rw [hf] at hx; exact hx.elim
  | some q =>
    rw [hf] at hx
    obtain ⟨h1, h2⟩ := sd_fe_ck hy hf
    rw [← h1]
    exact sd_Xs hrec h2 hx
theorem sd_wps {cd : List (List sd_I)} {cuts : List Nat} (hy : y < 146) (hcd : sd_cd y = cd) : ∀ (n pc : Nat) (ls : List (Option sd_V)) (st : List sd_V) (h : sd_H) (cs ss : Nat), sd_wp l sc y rm Q cd cuts n pc ls st h cs ss → sd_Wq l sc y rm Q pc ls st h cs ss
  | 0, _, _, _, _, _, _, hw => hw
  | n + 1, pc, ls, st, h, cs, ss, hw => by
    have hw : cond (cuts.any (Nat.beq pc)) (sd_Wq l sc y rm Q pc ls st h cs ss) (match sd_fe cd pc with | some q => sd_X l sc y rm Q (sd_wp l sc y rm Q cd cuts n) q ls st h cs ss | none => False) := hw
    rcases sd_cd_t hw with ⟨-, hw⟩ | ⟨-, hw⟩
    · exact hw
    · exact sd_Fs hy hcd (sd_wps hy hcd n) hw
/-- from a place: one step whatever the cuts, then as the cuts say -/
theorem sd_go {cd : List (List sd_I)} (cuts : List Nat) (n : Nat) {pc : Nat} (hy : y < 146) (hcd : sd_cd y = cd) (hx : match sd_fe cd pc with | some q => sd_X l sc y rm Q (sd_wp l sc y rm Q cd cuts n) q ls st h cs ss | none => False) : sd_Wq l sc y rm Q pc ls st h cs ss := sd_Fs hy hcd (sd_wps hy hcd n) hx
/-- a contract, in the mode of references set once for all -/
theorem sd_e1 {cd : List (List sd_I)} (cuts : List Nat) (n : Nat) {as : List sd_V} {Q : Option sd_V → sd_H → Prop} (hy : y < 145) (hcd : sd_cd y = cd) (hlen : (sd_en as).length ≤ sd_ml y) (hx : match sd_fe cd 0 with | some q => sd_X l none y true Q (sd_wp l none y true Q cd cuts n) q (sd_in y as) [] h 0 0 | none => False) : sd_E1 l y as h Q := fun hok =>
  sd_intro (rm := true) (Q := Q) hy (fun _ => hok) (fun _ _ q1 q2 => ⟨q2 rfl, q1⟩) hlen (sd_go cuts n (by omega) hcd hx)
/-- a contract, in the other mode -/
theorem sd_e0 {cd : List (List sd_I)} (cuts : List Nat) (n : Nat) {as : List sd_V} {Q : Option sd_V → sd_H → Prop} (hy : y < 145) (hcd : sd_cd y = cd) (hlen : (sd_en as).length ≤ sd_ml y) (hx : match sd_fe cd 0 with | some q => sd_X l none y false Q (sd_wp l none y false Q cd cuts n) q (sd_in y as) [] h 0 0 | none => False) : sd_E l y as h Q :=
  sd_intro (rm := false) (Q := Q) hy (fun q => by cases q) (fun _ _ q1 _ => q1) hlen (sd_go cuts n (by omega) hcd hx)
end SX
end
section
/-! the class's packet: has, byteAt, halfAt, wordAt, replace -/
theorem i_nlt {a b : Int32} (h : ¬ a < b) : b ≤ a := Int32.not_lt.mp h
theorem i_nle {a b : Int32} (h : ¬ a ≤ b) : b < a := Int32.not_le.mp h
/-- an index that is not below 0 and below a small bound is a number -/
theorem i_ix {i : Int32} {N : Nat} (h0 : ¬ i < 0) (h1 : i < nI N) (hN : N < 2 ^ 31) : i.toNatClampNeg < N ∧ i = nI i.toNatClampNeg := by
  obtain ⟨j, hj, rfl⟩ := nI_of h0
  rw [nI_clamp hj]
  exact ⟨(nI_ltI hj hN).mp h1, rfl⟩
def pk_b (h : sd_H) (i : Int32) : Int32 := if 0 ≤ i ∧ i < h.1 1 0 1 ∧ i < 300 then h.1 11 0 i.toNatClampNeg else 0
abbrev v_i (x : Int32) : sd_V := .inl x
abbrev v_l (x : Int64) : sd_V := .inr (.inl x)
abbrev v_r (t k : Nat) : sd_V := .inr (.inr (t, some k))
section PK
variable {l : Launch} {h : sd_H} {Q : Option sd_V → sd_H → Prop}
theorem sp_byteAt {i : Int32} (k : Q (some (v_i (pk_b h i))) h) : sd_E1 l y_X4_byteAt [v_r 1 0, v_i i] h Q := by
  refine sd_e1 [] 40 (cd := cd_X4_byteAt) (by decide) rfl (Nat.le_of_ble_eq_true rfl) ?_
  have z : ¬ (0 ≤ i ∧ i < h.1 1 0 1 ∧ i < 300) → Q (some (v_i 0)) h := fun q => by
    unfold pk_b at k; rw [if_neg q] at k; exact k
  refine ⟨fun c1 => ?_, fun c1 => ?_⟩
  · exact z fun q => absurd c1 (Int32.not_lt.mpr q.1)
  · refine ⟨fun c2 => ?_, fun c2 => ?_⟩
    · exact z fun q => absurd c2 (Int32.not_le.mpr q.2.1)
    · refine ⟨fun c3 => ?_, fun c3 => ?_⟩
      · exact z fun q => absurd c3 (Int32.not_le.mpr q.2.2)
      · obtain ⟨i1, i2⟩ := i_ix (N := 300) c1 (i_nle c3) (by decide)
        refine ⟨i.toNatClampNeg, ⟨i1, i2⟩, ?_⟩
        unfold pk_b at k
        rw [if_pos ⟨i_nlt c1, i_nle c2, i_nle c3⟩] at k
        exact k
def pk_2 (h : sd_H) (i : Int32) : Int32 := pk_b h i <<< 8 ||| pk_b h (i + 1)
def pk_4 (h : sd_H) (i : Int32) : Int32 := pk_2 h i <<< 16 ||| pk_2 h (i + 2)
theorem sp_halfAt {i : Int32} (k : Q (some (v_i (pk_2 h i))) h) : sd_E1 l y_X4_halfAt [v_r 1 0, v_i i] h Q := by
  refine sd_e1 [] 40 (cd := cd_X4_halfAt) (by decide) rfl (Nat.le_of_ble_eq_true rfl) ?_
  refine sp_byteAt ?_
  refine sp_byteAt ?_
  exact k
theorem sp_wordAt {i : Int32} (k : Q (some (v_i (pk_4 h i))) h) : sd_E1 l y_X4_wordAt [v_r 1 0, v_i i] h Q := by
  refine sd_e1 [] 40 (cd := cd_X4_wordAt) (by decide) rfl (Nat.le_of_ble_eq_true rfl) ?_
  refine sp_halfAt ?_
  refine sp_halfAt ?_
  exact k
def pk_has (h : sd_H) (i : Int32) : Int32 := if 0 ≤ i ∧ i < h.1 1 0 1 ∧ i < 300 then 1 else 0
theorem sp_has {i : Int32} (k : Q (some (v_i (pk_has h i))) h) : sd_E1 l y_X4_has [v_r 1 0, v_i i] h Q := by
  refine sd_e1 [] 40 (cd := cd_X4_has) (by decide) rfl (Nat.le_of_ble_eq_true rfl) ?_
  have z : ¬ (0 ≤ i ∧ i < h.1 1 0 1 ∧ i < 300) → Q (some (v_i 0)) h := fun q => by
    unfold pk_has at k; rw [if_neg q] at k; exact k
  refine ⟨fun c1 => ?_, fun c1 => ?_⟩
  · exact ⟨Or.inl rfl, z fun q => absurd c1 (Int32.not_lt.mpr q.1)⟩
  · refine ⟨fun c2 => ?_, fun c2 => ?_⟩
    · exact ⟨Or.inl rfl, z fun q => absurd c2 (Int32.not_le.mpr q.2.1)⟩
    · refine ⟨fun c3 => ?_, fun c3 => ?_⟩
      · exact ⟨Or.inl rfl, z fun q => absurd c3 (Int32.not_le.mpr q.2.2)⟩
      · refine ⟨Or.inr rfl, ?_⟩
        unfold pk_has at k
        rw [if_pos ⟨i_nlt c1, i_nle c2, i_nle c3⟩] at k
        exact k
end PK
end
section
/-! the class's forms: DATA and REPORT -/
abbrev pk_s (h : sd_H) : Int32 := h.1 1 0 1
def df_wd (h : sd_H) : Int32 := pk_b h 0 &&& 15
def df_has (h : sd_H) (bit : Int32) : Int32 := if pk_b h 0 &&& bit = 0 then 0 else 1
def df_we (h : sd_H) : Int32 := 12 + 4 * df_wd h
def df_pay (h : sd_H) : Int32 := if df_has h 16 = 0 then df_we h else df_we h + 4 + 4 * pk_2 h (df_we h + 2)
def df_fill (h : sd_H) : Int32 := if df_has h 32 = 0 then 0 else pk_b h (pk_s h - 1)
def df_sort (h : sd_H) : Int32 := pk_b h 1 &&& 127
def df_shape (h : sd_H) : Int32 := if 12 ≤ pk_s h then (if pk_b h 0 >>> 6 = 2 then (if df_we h ≤ pk_s h then (if df_pay h ≤ pk_s h then (if df_has h 32 = 0 then 0 else if df_fill h ≤ 0 then 5 else if pk_s h - df_pay h < df_fill h then 5 else 0) else 4) else 3) else 2) else 1
def df_field (h : sd_H) (w : Int32) : Int32 := if w = 1 then pk_b h 1 >>> 7 else if w = 2 then df_sort h else if w = 3 then pk_2 h 2 else if w = 4 then pk_4 h 4 else if w = 5 then pk_4 h 8 else if w = 6 then df_wd h else if w = 7 then df_pay h else if w = 8 then pk_s h - df_pay h - df_fill h else if w = 9 then (if df_has h 16 = 0 then 0 else pk_2 h (df_we h)) else 0
section DF
variable {l : Launch} {h : sd_H} {Q : Option sd_V → sd_H → Prop}
theorem sp_words (k : Q (some (v_i (df_wd h))) h) : sd_E1 l y_X0_words [v_r 1 0] h Q := by
  refine sd_e1 [] 40 (cd := cd_X0_words) (by decide) rfl (Nat.le_of_ble_eq_true rfl) ?_
  exact sp_byteAt k
theorem sp_dsort (k : Q (some (v_i (df_sort h))) h) : sd_E1 l y_X0_sort [v_r 1 0] h Q := by
  refine sd_e1 [] 40 (cd := cd_X0_sort) (by decide) rfl (Nat.le_of_ble_eq_true rfl) ?_
  exact sp_byteAt k
theorem sp_number (k : Q (some (v_i (pk_2 h 2))) h) : sd_E1 l y_X0_number [v_r 1 0] h Q := by
  refine sd_e1 [] 40 (cd := cd_X0_number) (by decide) rfl (Nat.le_of_ble_eq_true rfl) ?_
  exact sp_halfAt k
theorem sp_stamp (k : Q (some (v_i (pk_4 h 4))) h) : sd_E1 l y_X0_stamp [v_r 1 0] h Q := by
  refine sd_e1 [] 40 (cd := cd_X0_stamp) (by decide) rfl (Nat.le_of_ble_eq_true rfl) ?_
  exact sp_wordAt k
theorem sp_source (k : Q (some (v_i (pk_4 h 8))) h) : sd_E1 l y_X0_source [v_r 1 0] h Q := by
  refine sd_e1 [] 40 (cd := cd_X0_source) (by decide) rfl (Nat.le_of_ble_eq_true rfl) ?_
  exact sp_wordAt k
theorem sp_firstHas {bit : Int32} (k : Q (some (v_i (df_has h bit))) h) : sd_E1 l y_X0_firstHas [v_r 1 0, v_i bit] h Q := by
  refine sd_e1 [] 40 (cd := cd_X0_firstHas) (by decide) rfl (Nat.le_of_ble_eq_true rfl) ?_
  refine sp_byteAt ?_
  refine ⟨fun c1 => ?_, fun c1 => ?_⟩
  · refine ⟨Or.inl rfl, ?_⟩
    unfold df_has at k; rw [if_pos c1] at k; exact k
  · refine ⟨Or.inr rfl, ?_⟩
    unfold df_has at k; rw [if_neg c1] at k; exact k
theorem sp_wordsEnd (k : Q (some (v_i (df_we h))) h) : sd_E1 l y_X0_wordsEnd [v_r 1 0] h Q := by
  refine sd_e1 [] 40 (cd := cd_X0_wordsEnd) (by decide) rfl (Nat.le_of_ble_eq_true rfl) ?_
  exact sp_words k
theorem sp_payloadPlace (k : Q (some (v_i (df_pay h))) h) : sd_E1 l y_X0_payloadPlace [v_r 1 0] h Q := by
  refine sd_e1 [] 40 (cd := cd_X0_payloadPlace) (by decide) rfl (Nat.le_of_ble_eq_true rfl) ?_
  refine sp_wordsEnd ?_
  refine sp_firstHas ?_
  refine ⟨fun c1 => ?_, fun c1 => ?_⟩
  · unfold df_pay at k; rw [if_pos c1] at k; exact k
  · refine sp_halfAt ?_
    unfold df_pay at k; rw [if_neg c1] at k; exact k
theorem sp_filling (k : Q (some (v_i (df_fill h))) h) : sd_E1 l y_X0_filling [v_r 1 0] h Q := by
  refine sd_e1 [] 40 (cd := cd_X0_filling) (by decide) rfl (Nat.le_of_ble_eq_true rfl) ?_
  refine sp_firstHas ?_
  refine ⟨fun c1 => ?_, fun c1 => ?_⟩
  · unfold df_fill at k; rw [if_pos c1] at k; exact k
  · refine sp_byteAt ?_
    unfold df_fill at k; rw [if_neg c1] at k; exact k
theorem sp_shapeFault (k : Q (some (v_i (df_shape h))) h) : sd_E1 l y_X0_shapeFault [v_r 1 0] h Q := by
  refine sd_e1 [] 80 (cd := cd_X0_shapeFault) (by decide) rfl (Nat.le_of_ble_eq_true rfl) ?_
  unfold df_shape at k
  refine ⟨fun c1 => ?_, fun c1 => ?_⟩
  rotate_left
  · rw [if_neg c1] at k; exact k
  rw [if_pos c1] at k
  refine sp_byteAt ?_
  refine ⟨fun (c2 : pk_b h 0 >>> 6 = 2) => ?_, fun (c2 : ¬ pk_b h 0 >>> 6 = 2) => ?_⟩
  rotate_left
  · rw [if_neg c2] at k; exact k
  rw [if_pos c2] at k
  refine sp_wordsEnd ?_
  refine ⟨fun c3 => ?_, fun c3 => ?_⟩
  rotate_left
  · rw [if_neg c3] at k; exact k
  rw [if_pos c3] at k
  refine sp_payloadPlace ?_
  refine ⟨fun c4 => ?_, fun c4 => ?_⟩
  rotate_left
  · rw [if_neg c4] at k; exact k
  rw [if_pos c4] at k
  refine sp_payloadPlace ?_
  refine sp_filling ?_
  refine ⟨fun c5 => ?_, fun c5 => ?_⟩
  · refine sp_firstHas ?_
    refine ⟨fun c7 => ?_, fun c7 => ?_⟩
    · rw [if_pos c7] at k; exact k
    · rw [if_neg c7, if_pos c5] at k
      exact ⟨fun c8 => absurd rfl c8, fun _ => k⟩
  · refine sp_filling ?_
    refine ⟨fun c6 => ?_, fun c6 => ?_⟩
    · refine sp_firstHas ?_
      refine ⟨fun c7 => ?_, fun c7 => ?_⟩
      · rw [if_pos c7] at k; exact k
      · rw [if_neg c7, if_neg c5, if_pos c6] at k
        exact ⟨fun c8 => absurd rfl c8, fun _ => k⟩
    · refine sp_firstHas ?_
      refine ⟨fun c7 => ?_, fun c7 => ?_⟩
      · rw [if_pos c7] at k; exact k
      · rw [if_neg c7, if_neg c5, if_neg c6] at k
        exact ⟨fun _ => k, fun c8 => absurd c8 (by decide)⟩
theorem sp_dfield {w : Int32} (k : Q (some (v_i (df_field h w))) h) : sd_E1 l y_X0_field [v_r 1 0, v_i w] h Q := by
  refine sd_e1 [] 80 (cd := cd_X0_field) (by decide) rfl (Nat.le_of_ble_eq_true rfl) ?_
  unfold df_field at k
  refine ⟨fun (c : w = 1) => ?_, fun (c : ¬ w = 1) => ?_⟩
  · rw [if_pos c] at k; exact sp_byteAt k
  rw [if_neg c] at k
  refine ⟨fun (c : w = 2) => ?_, fun (c : ¬ w = 2) => ?_⟩
  · rw [if_pos c] at k; exact sp_dsort k
  rw [if_neg c] at k
  refine ⟨fun (c : w = 3) => ?_, fun (c : ¬ w = 3) => ?_⟩
  · rw [if_pos c] at k; exact sp_number k
  rw [if_neg c] at k
  refine ⟨fun (c : w = 4) => ?_, fun (c : ¬ w = 4) => ?_⟩
  · rw [if_pos c] at k; exact sp_stamp k
  rw [if_neg c] at k
  refine ⟨fun (c : w = 5) => ?_, fun (c : ¬ w = 5) => ?_⟩
  · rw [if_pos c] at k; exact sp_source k
  rw [if_neg c] at k
  refine ⟨fun (c : w = 6) => ?_, fun (c : ¬ w = 6) => ?_⟩
  · rw [if_pos c] at k; exact sp_words k
  rw [if_neg c] at k
  refine ⟨fun (c : w = 7) => ?_, fun (c : ¬ w = 7) => ?_⟩
  · rw [if_pos c] at k; exact sp_payloadPlace k
  rw [if_neg c] at k
  refine ⟨fun (c : w = 8) => ?_, fun (c : ¬ w = 8) => ?_⟩
  · rw [if_pos c] at k
    refine sp_payloadPlace ?_
    exact sp_filling k
  rw [if_neg c] at k
  refine ⟨fun (c : w = 9) => ?_, fun (c : ¬ w = 9) => ?_⟩
  · rw [if_pos c] at k
    refine sp_firstHas ?_
    refine ⟨fun c7 => ?_, fun c7 => ?_⟩
    · rw [if_pos c7] at k; exact k
    · rw [if_neg c7] at k
      refine sp_wordsEnd ?_
      exact sp_halfAt k
  rw [if_neg c] at k
  exact k
/-! REPORT -/
def rf_so (h : sd_H) (p : Int32) : Int32 := pk_b h (p + 1)
def rf_ct (h : sd_H) (p : Int32) : Int32 := pk_b h p &&& 31
def rf_en (h : sd_H) (p : Int32) : Int32 := p + 4 + 4 * pk_2 h (p + 2)
def rf_fi (h : sd_H) (p : Int32) : Int32 := if pk_b h p &&& 32 = 0 then 0 else 1
def rf_ll (so n : Int32) : Int32 := if so = 200 then 28 + 24 * n else if so = 201 then 8 + 24 * n else if so = 202 then 4 else if so = 203 then 4 + 4 * n else 4
def rf_pf (h : sd_H) (p : Int32) : Int32 := if pk_b h p >>> 6 = 2 then (if rf_en h p ≤ pk_s h then (if rf_ll (rf_so h p) (rf_ct h p) ≤ rf_en h p - p then (if rf_so h p < 200 then 16 else if rf_so h p ≤ 203 then (if rf_fi h p = 0 then 0 else if pk_s h ≤ rf_en h p then 0 else 16) else 16) else 15) else 14) else 13
def rf_lp (h : sd_H) : Nat → Int32 → Int32
  | 0, _ => 0
  | n + 1, p => if pk_s h ≤ p then 0 else if rf_pf h p = 0 then rf_lp h n (rf_en h p) else rf_pf h p
def rf_fault (h : sd_H) : Int32 := if pk_s h < 8 then 11 else if pk_s h - pk_s h / 4 * 4 = 0 then (if rf_so h 0 = 200 then (if rf_fi h 0 = 0 then rf_lp h 75 0 else 12) else if ¬ rf_so h 0 = 201 then 12 else (if rf_fi h 0 = 0 then rf_lp h 75 0 else 12)) else 11
theorem sp_rsort {p : Int32} (k : Q (some (v_i (rf_so h p))) h) : sd_E1 l y_X6_sort [v_r 1 0, v_i p] h Q := by
  refine sd_e1 [] 40 (cd := cd_X6_sort) (by decide) rfl (Nat.le_of_ble_eq_true rfl) ?_
  exact sp_byteAt k
theorem sp_counted {p : Int32} (k : Q (some (v_i (rf_ct h p))) h) : sd_E1 l y_X6_counted [v_r 1 0, v_i p] h Q := by
  refine sd_e1 [] 40 (cd := cd_X6_counted) (by decide) rfl (Nat.le_of_ble_eq_true rfl) ?_
  exact sp_byteAt k
theorem sp_end {p : Int32} (k : Q (some (v_i (rf_en h p))) h) : sd_E1 l y_X6_end [v_r 1 0, v_i p] h Q := by
  refine sd_e1 [] 40 (cd := cd_X6_end) (by decide) rfl (Nat.le_of_ble_eq_true rfl) ?_
  exact sp_halfAt k
theorem sp_isFilled {p : Int32} (k : Q (some (v_i (rf_fi h p))) h) : sd_E1 l y_X6_isFilled [v_r 1 0, v_i p] h Q := by
  refine sd_e1 [] 40 (cd := cd_X6_isFilled) (by decide) rfl (Nat.le_of_ble_eq_true rfl) ?_
  refine sp_byteAt ?_
  refine ⟨fun c1 => ?_, fun c1 => ?_⟩
  · refine ⟨Or.inl rfl, ?_⟩
    unfold rf_fi at k; rw [if_pos c1] at k; exact k
  · refine ⟨Or.inr rfl, ?_⟩
    unfold rf_fi at k; rw [if_neg c1] at k; exact k
theorem sp_leastLength {a n : Int32} (k : Q (some (v_i (rf_ll a n))) h) : sd_E1 l y_X6_leastLength [v_i a, v_i n] h Q := by
  refine sd_e1 [] 40 (cd := cd_X6_leastLength) (by decide) rfl (Nat.le_of_ble_eq_true rfl) ?_
  unfold rf_ll at k
  refine ⟨fun (c : a = 200) => ?_, fun (c : ¬ a = 200) => ?_⟩
  · rw [if_pos c] at k; exact k
  rw [if_neg c] at k
  refine ⟨fun (c : a = 201) => ?_, fun (c : ¬ a = 201) => ?_⟩
  · rw [if_pos c] at k; exact k
  rw [if_neg c] at k
  refine ⟨fun (c : a = 202) => ?_, fun (c : ¬ a = 202) => ?_⟩
  · rw [if_pos c] at k; exact k
  rw [if_neg c] at k
  refine ⟨fun (c : a = 203) => ?_, fun (c : ¬ a = 203) => ?_⟩
  · rw [if_pos c] at k; exact k
  rw [if_neg c] at k
  exact k
theorem sp_rpartFault {p : Int32} (k : Q (some (v_i (rf_pf h p))) h) : sd_E1 l y_X6_partFault [v_r 1 0, v_i p] h Q := by
  refine sd_e1 [] 80 (cd := cd_X6_partFault) (by decide) rfl (Nat.le_of_ble_eq_true rfl) ?_
  unfold rf_pf at k
  refine sp_byteAt ?_
  refine ⟨fun (c1 : pk_b h p >>> 6 = 2) => ?_, fun (c1 : ¬ pk_b h p >>> 6 = 2) => ?_⟩
  rotate_left
  · rw [if_neg c1] at k; exact k
  rw [if_pos c1] at k
  refine sp_end ?_
  refine ⟨fun c2 => ?_, fun c2 => ?_⟩
  rotate_left
  · rw [if_neg c2] at k; exact k
  rw [if_pos c2] at k
  refine sp_rsort ?_
  refine sp_end ?_
  refine sp_counted ?_
  refine sp_leastLength ?_
  refine ⟨fun c3 => ?_, fun c3 => ?_⟩
  rotate_left
  · rw [if_neg c3] at k; exact k
  rw [if_pos c3] at k
  refine ⟨fun c4 => ?_, fun c4 => ?_⟩
  · rw [if_pos c4] at k
    exact ⟨fun _ => k, fun c => absurd c (by decide)⟩
  · rw [if_neg c4] at k
    refine ⟨fun c5 => ?_, fun c5 => ?_⟩
    · rw [if_pos c5] at k
      refine ⟨fun c => absurd rfl c, fun _ => ?_⟩
      refine sp_isFilled ?_
      refine ⟨fun c6 => ?_, fun c6 => ?_⟩
      · rw [if_pos c6] at k; exact k
      · rw [if_neg c6] at k
        refine sp_end ?_
        refine ⟨fun c7 => ?_, fun c7 => ?_⟩
        · rw [if_pos c7] at k; exact k
        · rw [if_neg c7] at k; exact k
    · rw [if_neg c5] at k
      exact ⟨fun _ => k, fun c => absurd c (by decide)⟩
theorem sq_fault : ∀ (n : Nat), n ≤ 75 → ∀ (p : Int32) (j3 : Option sd_V), Q (some (v_i (rf_lp h n p))) h → sd_Wq l none y_X6_fault true Q 58 [some (v_r 1 0), some (v_i p), some (v_i (nI (75 - n))), j3] [] h 0 0
  | 0, _, p, j3, k => by
    refine sd_go [58] 30 (cd := cd_X6_fault) (by decide) rfl ?_
    exact ⟨fun _ => k, fun c => absurd (show (75 : Int32) ≤ nI 75 by decide) c⟩
  | n + 1, hn, p, j3, k => by
    refine sd_go [58] 30 (cd := cd_X6_fault) (by decide) rfl ?_
    refine ⟨fun c => absurd c ?_, fun _ => ?_⟩
    · exact Int32.not_le.mpr (nI_lt (a := 75 - (n + 1)) (b := 75) (by omega) (by decide))
    unfold rf_lp at k
    refine ⟨fun c2 => ?_, fun c2 => ?_⟩
    · rw [if_pos c2] at k; exact k
    rw [if_neg c2] at k
    refine sp_rpartFault ?_
    refine ⟨fun c3 => ?_, fun c3 => ?_⟩
    · rw [if_pos c3] at k
      refine sp_end ?_
      have e : nI (75 - (n + 1)) + 1 = nI (75 - n) := by rw [nI_1, show 75 - (n + 1) + 1 = 75 - n by omega]
      show sd_Wq l none y_X6_fault true Q 58 [some (v_r 1 0), some (v_i (rf_en h p)), some (v_i (nI (75 - (n + 1)) + 1)), _] [] h 0 0
      rw [e]
      exact sq_fault n (by omega) _ _ k
    · rw [if_neg c3] at k; exact k
theorem sp_rfault (k : Q (some (v_i (rf_fault h))) h) : sd_E1 l y_X6_fault [v_r 1 0] h Q := by
  refine sd_e1 [58] 80 (cd := cd_X6_fault) (by decide) rfl (Nat.le_of_ble_eq_true rfl) ?_
  unfold rf_fault at k
  refine ⟨fun c1 => ?_, fun c1 => ?_⟩
  · rw [if_pos c1] at k; exact k
  rw [if_neg c1] at k
  refine ⟨by decide, ?_⟩
  refine ⟨fun c2 => ?_, fun c2 => ?_⟩
  rotate_left
  · rw [if_neg c2] at k; exact k
  rw [if_pos c2] at k
  refine sp_rsort ?_
  refine ⟨fun c3 => ?_, fun c3 => ?_⟩
  · rw [if_pos c3] at k
    refine sp_isFilled ?_
    refine ⟨fun c4 => ?_, fun c4 => ?_⟩
    · rw [if_pos c4] at k
      exact sq_fault 75 (by omega) _ _ k
    · rw [if_neg c4] at k; exact k
  · rw [if_neg c3] at k
    refine sp_rsort ?_
    refine ⟨fun c5 => ?_, fun c5 => ?_⟩
    · rw [if_pos c5] at k; exact k
    · rw [if_neg (fun q => q c5)] at k
      refine sp_isFilled ?_
      refine ⟨fun c4 => ?_, fun c4 => ?_⟩
      · rw [if_pos c4] at k
        exact sq_fault 75 (by omega) _ _ k
      · rw [if_neg c4] at k; exact k
end DF
end
section
/-! numbers: lcmp, xor and signs, remainders; Math -/
theorem lc_cases (x z : Int64) : (x < z ∧ lg_cmp x z = -1) ∨ (x = z ∧ lg_cmp x z = 0) ∨ (z < x ∧ lg_cmp x z = 1) := by
  unfold lg_cmp
  by_cases h1 : x > z
  · exact Or.inr (Or.inr ⟨h1, by rw [if_pos h1]⟩)
  · by_cases h2 : x = z
    · exact Or.inr (Or.inl ⟨h2, by rw [if_neg h1, if_pos h2]⟩)
    · refine Or.inl ⟨?_, by rw [if_neg h1, if_neg h2]⟩
      have h3 : x ≤ z := Int64.not_lt.mp h1
      rw [Int64.lt_iff_toInt_lt]
      rw [Int64.le_iff_toInt_le] at h3
      have h4 : x.toInt ≠ z.toInt := fun q => h2 (Int64.toInt_inj.mp q)
      omega
theorem l_lt_irr {x z : Int64} (a : x < z) (b : z < x) : False := by
  rw [Int64.lt_iff_toInt_lt] at a b; omega
theorem l_lt_ne {x z : Int64} (a : x < z) (b : x = z) : False := by
  rw [Int64.lt_iff_toInt_lt, b] at a; omega
theorem lc_lt {x z : Int64} : lg_cmp x z < 0 ↔ x < z := by
  rcases lc_cases x z with ⟨a, b⟩ | ⟨a, b⟩ | ⟨a, b⟩ <;> rw [b]
  · exact ⟨fun _ => a, fun _ => by decide⟩
  · exact ⟨fun q => absurd q (by decide), fun q => (l_lt_ne q a).elim⟩
  · exact ⟨fun q => absurd q (by decide), fun q => (l_lt_irr q a).elim⟩
theorem lc_gt {x z : Int64} : 0 < lg_cmp x z ↔ z < x := by
  rcases lc_cases x z with ⟨a, b⟩ | ⟨a, b⟩ | ⟨a, b⟩ <;> rw [b]
  · exact ⟨fun q => absurd q (by decide), fun q => (l_lt_irr q a).elim⟩
  · exact ⟨fun q => absurd q (by decide), fun q => (l_lt_ne q a.symm).elim⟩
  · exact ⟨fun _ => a, fun _ => by decide⟩
theorem lc_eq {x z : Int64} : lg_cmp x z = 0 ↔ x = z := by
  rcases lc_cases x z with ⟨a, b⟩ | ⟨a, b⟩ | ⟨a, b⟩ <;> rw [b]
  · exact ⟨fun q => absurd q (by decide), fun q => (l_lt_ne a q).elim⟩
  · exact ⟨fun _ => a, fun _ => rfl⟩
  · exact ⟨fun q => absurd q (by decide), fun q => (l_lt_ne a q.symm).elim⟩
theorem lc_ge {x z : Int64} : 0 ≤ lg_cmp x z ↔ ¬ x < z := by rw [← Int32.not_lt, lc_lt]
theorem lc_le {x z : Int64} : lg_cmp x z ≤ 0 ↔ ¬ z < x := by rw [← Int32.not_lt, lc_gt]
theorem i_nn {x : Int32} : 0 ≤ x ↔ x.toBitVec.msb = false := by
  rw [Int32.le_iff_toInt_le, show (0 : Int32).toInt = 0 from rfl, ← Int32.toInt_toBitVec, BitVec.msb_eq_toInt]
  simp
theorem l_nn {x : Int64} : ¬ x < 0 ↔ x.toBitVec.msb = false := by
  rw [Int64.lt_iff_toInt_lt, show (0 : Int64).toInt = 0 from rfl, ← Int64.toInt_toBitVec, BitVec.msb_eq_toInt]
  simp
theorem i_xnn {x z : Int32} (hz : 0 ≤ z) : 0 ≤ x ^^^ z ↔ 0 ≤ x := by
  rw [i_nn, i_nn, Int32.toBitVec_xor, BitVec.msb_xor, i_nn.mp hz]
  simp
theorem l_xnn {x z : Int64} (hz : ¬ z < 0) : ¬ x ^^^ z < 0 ↔ ¬ x < 0 := by
  rw [l_nn, l_nn, Int64.toBitVec_xor, BitVec.msb_xor, l_nn.mp hz]
  simp
theorem l_div32 (n : Int64) : (n / 32).toInt = n.toInt.tdiv 32 := by
  have h1 := Int64.minValue_le_toInt n
  have h2 := Int64.toInt_le n
  rw [Int64.toInt_div_of_ne_right n 32 (by decide)]
  rfl
theorem l_rem32 (n : Int64) : (n - n / 32 * 32).toInt = n.toInt.tmod 32 := by
  have hd := l_div32 n
  have e : n.toInt.tmod 32 = n.toInt - n.toInt.tdiv 32 * 32 := by
    have := Int.mul_tdiv_add_tmod n.toInt 32
    omega
  obtain ⟨b1, b2⟩ := tmod_bounds (a := n.toInt) (M := 32) (by decide)
  rw [Int64.toInt_sub, Int64.toInt_mul, hd, show (32 : Int64).toInt = 32 from rfl, Int.sub_bmod_bmod, ← e]
  exact Int.bmod_eq_of_le (by omega) (by omega)
/-- the place of a LONG NUMBER in the rows of 32 -/
def sl (n : Int64) : Nat := (n.toInt % 32).toNat
theorem sl_lt (n : Int64) : sl n < 32 := by
  unfold sl
  have := Int.emod_lt_of_pos n.toInt (show (0 : Int) < 32 by decide)
  have := Int.emod_nonneg n.toInt (show (32 : Int) ≠ 0 by decide)
  omega
theorem l_i32 {x : Int64} {m : Nat} (h : x.toInt = m) (hm : m < 2 ^ 31) : x.toInt32 = nI m := by
  apply Int32.toInt_inj.mp
  rw [nI_toInt hm, Int64.toInt_toInt32, h]
  exact Int.bmod_eq_of_le (by omega) (by omega)
section MA
variable {l : Launch} {h : sd_H} {Q : Option sd_V → sd_H → Prop}
def fl_m (a b : Int64) : Int64 := if ¬ a ^^^ b < 0 then a - a / b * b else if a - a / b * b = 0 then a - a / b * b else a - a / b * b + b
theorem sp_fmodL {a b : Int64} (hb : ¬ b = 0) (k : Q (some (v_l (fl_m a b))) h) : sd_E1 l y_J9_floorMod_f86c9 [v_l a, v_l b] h Q := by
  refine sd_e1 [] 40 (cd := cd_J9_floorMod_f86c9) (by decide) rfl (Nat.le_of_ble_eq_true rfl) ?_
  refine ⟨hb, ?_⟩
  unfold fl_m at k
  refine ⟨fun c1 => ?_, fun c1 => ?_⟩
  · rw [if_pos (lc_ge.mp c1)] at k; exact k
  · rw [if_neg (fun q => c1 (lc_ge.mpr q))] at k
    refine ⟨fun c2 => ?_, fun c2 => ?_⟩
    · rw [if_pos (lc_eq.mp c2)] at k; exact k
    · rw [if_neg (fun q => c2 (lc_eq.mpr q))] at k; exact k
theorem fl_m32 (n : Int64) : (fl_m n 32).toInt32 = nI (sl n) := by
  have hr := l_rem32 n
  have hs := sl_lt n
  apply l_i32 _ (by omega)
  unfold fl_m
  have hx : ¬ n ^^^ 32 < 0 ↔ ¬ n < 0 := l_xnn (by decide)
  have hz : (n < 0) ↔ n.toInt < 0 := by rw [Int64.lt_iff_toInt_lt]; rfl
  have h5 : n.toInt.tmod 32 = if 0 ≤ n.toInt ∨ (32 : Int) ∣ n.toInt then n.toInt % 32 else n.toInt % 32 - 32 := by
    rw [Int.tmod_eq_emod]
    by_cases hc : 0 ≤ n.toInt ∨ (32 : Int) ∣ n.toInt
    · rw [if_pos hc, if_pos hc]; simp
    · rw [if_neg hc, if_neg hc]; rfl
  have h0 := Int.emod_nonneg n.toInt (show (32 : Int) ≠ 0 by decide)
  have h1 := Int.emod_lt_of_pos n.toInt (show (0 : Int) < 32 by decide)
  have hsl : ((sl n : Nat) : Int) = n.toInt % 32 := by unfold sl; omega
  rw [hsl]
  by_cases c1 : ¬ n ^^^ 32 < 0
  · have hnn : ¬ n.toInt < 0 := fun q => hx.mp c1 (hz.mpr q)
    rw [if_pos c1, hr, h5, if_pos (Or.inl (by omega))]
  · rw [if_neg c1]
    have hneg : n.toInt < 0 := hz.mp (Classical.not_not.mp fun q => c1 (hx.mpr q))
    by_cases c2 : n - n / 32 * 32 = 0
    · rw [if_pos c2, hr]
      rw [c2] at hr
      have hr : (0 : Int) = n.toInt.tmod 32 := hr
      by_cases hd : (32 : Int) ∣ n.toInt
      · rw [h5, if_pos (Or.inr hd)]
      · rw [if_neg (by omega)] at h5
        omega
    · rw [if_neg c2]
      by_cases hd : (32 : Int) ∣ n.toInt
      · exfalso
        apply c2
        apply Int64.toInt_inj.mp
        rw [hr, h5, if_pos (Or.inr hd)]
        exact Int.emod_eq_zero_of_dvd hd
      · rw [if_neg (by omega)] at h5
        rw [Int64.toInt_add, hr, h5, show (32 : Int64).toInt = 32 from rfl]
        rw [show n.toInt % 32 - 32 + 32 = n.toInt % 32 by omega]
        exact Int.bmod_eq_of_le (by omega) (by omega)
theorem sp_slotOf {n : Int64} (k : Q (some (v_i (nI (sl n)))) h) : sd_E1 l y_X5_slotOf [v_l n] h Q := by
  refine sd_e1 [] 40 (cd := cd_X5_slotOf) (by decide) rfl (Nat.le_of_ble_eq_true rfl) ?_
  refine sp_fmodL (by decide) ?_
  have e := fl_m32 n
  show Q (some (v_i (fl_m n 32).toInt32)) h
  rw [e]; exact k
theorem sp_fmod64 {e : Nat} (he : e < 2 ^ 31) (k : Q (some (v_i (nI (e % 64)))) h) : sd_E1 l y_J9_floorMod_7cf53 [v_i (nI e), v_i 64] h Q := by
  refine sd_e1 [] 40 (cd := cd_J9_floorMod_7cf53) (by decide) rfl (Nat.le_of_ble_eq_true rfl) ?_
  refine ⟨by decide, ?_⟩
  have hr : nI e - nI e / 64 * 64 = nI (e % 64) := pk_rem (d := 64) he (by decide) (by decide)
  refine ⟨fun _ => ?_, fun c1 => absurd ((i_xnn (by decide)).mpr (nI_pos' he)) c1⟩
  show Q (some (v_i (nI e - nI e / 64 * 64))) h
  rw [hr]; exact k
def i_abs (x : Int32) : Int32 := if 0 ≤ x then x else -x
theorem sp_abs {x : Int32} (k : Q (some (v_i (i_abs x))) h) : sd_E1 l y_J9_abs_0f7a4 [v_i x] h Q := by
  refine sd_e1 [] 40 (cd := cd_J9_abs_0f7a4) (by decide) rfl (Nat.le_of_ble_eq_true rfl) ?_
  unfold i_abs at k
  refine ⟨fun c1 => ?_, fun c1 => ?_⟩
  · rw [if_pos c1] at k; exact k
  · rw [if_neg c1] at k; exact k
def i_max (x z : Int32) : Int32 := if x < z then z else x
def i_min (x z : Int32) : Int32 := if z < x then z else x
theorem sp_max {x z : Int32} (k : Q (some (v_i (i_max x z))) h) : sd_E1 l y_J9_max_7cf53 [v_i x, v_i z] h Q := by
  refine sd_e1 [] 40 (cd := cd_J9_max_7cf53) (by decide) rfl (Nat.le_of_ble_eq_true rfl) ?_
  unfold i_max at k
  refine ⟨fun c1 => ?_, fun c1 => ?_⟩
  · rw [if_pos c1] at k; exact k
  · rw [if_neg c1] at k; exact k
theorem sp_min {x z : Int32} (k : Q (some (v_i (i_min x z))) h) : sd_E1 l y_J9_min_7cf53 [v_i x, v_i z] h Q := by
  refine sd_e1 [] 40 (cd := cd_J9_min_7cf53) (by decide) rfl (Nat.le_of_ble_eq_true rfl) ?_
  unfold i_min at k
  refine ⟨fun c1 => ?_, fun c1 => ?_⟩
  · rw [if_pos c1] at k; exact k
  · rw [if_neg c1] at k; exact k
/-- floorDiv by a divisor that isn't below 0, and how the check reckons it -/
def fl_d (a b : Int64) : Int64 := if ¬ a < 0 then a / b else if a - a / b * b = 0 then a / b else a / b - 1
theorem sp_fdiv {a b : Int64} (hb : ¬ b = 0) (hb0 : ¬ b < 0) (k : Q (some (v_l (fl_d a b))) h) : sd_E1 l y_J9_floorDiv_f86c9 [v_l a, v_l b] h Q := by
  refine sd_e1 [] 40 (cd := cd_J9_floorDiv_f86c9) (by decide) rfl (Nat.le_of_ble_eq_true rfl) ?_
  refine ⟨hb, ?_⟩
  unfold fl_d at k
  refine ⟨fun c1 => ?_, fun c1 => ?_⟩
  · rw [if_pos ((l_xnn hb0).mp (lc_ge.mp c1))] at k; exact k
  · rw [if_neg (fun q => c1 (lc_ge.mpr ((l_xnn hb0).mpr q)))] at k
    have hiff : a / b * b = a ↔ a - a / b * b = 0 := by
      generalize a / b * b = x
      refine ⟨fun q => by rw [q]; exact Int64.sub_self a, fun q => ?_⟩
      have h2 : a - x + x = 0 + x := by rw [q]
      rw [Int64.sub_add_cancel, Int64.zero_add] at h2
      exact h2.symm
    refine ⟨fun c2 => ?_, fun c2 => ?_⟩
    · rw [if_pos (hiff.mp (lc_eq.mp c2))] at k; exact k
    · rw [if_neg (fun q => c2 (lc_eq.mpr (hiff.mpr q)))] at k; exact k
end MA
end
section
/-! rows of an object as functions; EventLog, Numbers, Jitter -/
def sd_ri (h : sd_H) (T k : Nat) (g : Nat → Int32) : sd_H := (fun T' => if T' = T then (fun k' => if k' = k then g else h.1 T k') else h.1 T', h.2)
theorem sd_ri_at {h : sd_H} {T k : Nat} {g : Nat → Int32} : (sd_ri h T k g).1 T k = g := by simp [sd_ri]
theorem sd_ri_self (h : sd_H) (T k : Nat) : sd_ri h T k (h.1 T k) = h := by
  have e : (sd_ri h T k (h.1 T k)).1 = h.1 := by
    funext T' k'
    unfold sd_ri
    dsimp only
    by_cases h1 : T' = T
    · subst h1
      by_cases h2 : k' = k
      · subst h2; simp
      · simp [h2]
    · simp [h1]
  exact Prod.ext e rfl
theorem sd_pi_ri {h : sd_H} {T k i : Nat} {g : Nat → Int32} {v : Int32} : sd_pi (sd_ri h T k g) T k i v = sd_ri h T k (upd g i v) := by
  have e : (sd_pi (sd_ri h T k g) T k i v).1 = (sd_ri h T k (upd g i v)).1 := by
    funext T' k'
    unfold sd_pi sd_ri
    dsimp only
    by_cases h1 : T' = T
    · subst h1
      by_cases h2 : k' = k
      · subst h2; simp; rfl
      · simp [h2]
    · simp [h1]
  exact Prod.ext e rfl
theorem sd_pi_r (h : sd_H) (T k i : Nat) (v : Int32) : sd_pi h T k i v = sd_ri h T k (upd (h.1 T k) i v) := by
  have := sd_pi_ri (h := h) (T := T) (k := k) (i := i) (g := h.1 T k) (v := v)
  rw [sd_ri_self] at this
  exact this
theorem up_s {f : Nat → Int32} {k : Nat} {x : Int32} : upd f k x k = x := pk_us
/-! Numbers: 0 top, 1 rounds, 2 base, 3 odd, 4 probation, 5 got, 6 gotBefore, 7 dueBefore -/
def nb_set (f : Nat → Int32) (q : Int32) : Nat → Int32 := upd (upd (upd (upd (upd (upd (upd f 2 q) 0 q) 3 65537) 1 0) 5 0) 6 0) 7 0
def nb_pro (f : Nat → Int32) (q : Int32) : Int32 × (Nat → Int32) := if q = (f 0 + 1) &&& 65535 then (if f 4 - 1 ≤ 0 then (2, nb_set (upd (upd f 4 (f 4 - 1)) 0 q) q) else (0, upd (upd f 4 (f 4 - 1)) 0 q)) else (0, upd (upd f 4 1) 0 q)
def nb_bel (f : Nat → Int32) (q : Int32) : Int32 × (Nat → Int32) := if 3000 ≤ (q - f 0) &&& 65535 then (if (q - f 0) &&& 65535 ≤ 65436 then (if q = f 3 then (2, nb_set f q) else (0, upd f 3 ((q + 1) &&& 65535))) else (1, f)) else (1, upd (upd f 1 (f 1 + if f 0 ≤ q then 0 else 65536)) 0 q)
def nb_j0 (f : Nat → Int32) (q : Int32) : Int32 × (Nat → Int32) := if f 4 ≤ 0 then nb_bel f q else nb_pro f q
def nb_j (f : Nat → Int32) (q : Int32) : Int32 × (Nat → Int32) := if (nb_j0 f q).1 = 0 then nb_j0 f q else ((nb_j0 f q).1, upd (nb_j0 f q).2 5 ((nb_j0 f q).2 5 + 1))
def nb_long (f : Nat → Int32) (q : Int32) : Int64 := if q ≤ f 0 then (f 1).toInt64 + q.toInt64 else (f 1).toInt64 + q.toInt64 - 65536
def nb_due (f : Nat → Int32) : Int32 := f 1 + f 0 - f 2 + 1
def nb_lost (f : Nat → Int32) : Int32 := i_max (-8388608) (i_min 8388607 (nb_due f - f 5))
section NB
variable {l : Launch} {h : sd_H} {Q : Option sd_V → sd_H → Prop} {s : Nat}
theorem sp_setBy {q : Int32} (k : Q none (sd_ri h 4 s (nb_set (h.1 4 s) q))) : sd_E1 l y_X3_setBy [v_r 4 s, v_i q] h Q := by
  refine sd_e1 [] 40 (cd := cd_X3_setBy) (by decide) rfl (Nat.le_of_ble_eq_true rfl) ?_
  show Q none _
  simp only [sd_pi_r h, sd_pi_ri]
  exact k
theorem sp_setBy0 {q : Int32} (k : Q none (sd_ri h 4 s (nb_set (h.1 4 s) q))) : sd_E l y_X3_setBy [v_r 4 s, v_i q] h Q := by
  refine sd_e0 [] 40 (cd := cd_X3_setBy) (by decide) rfl (Nat.le_of_ble_eq_true rfl) ?_
  show Q none _
  simp only [sd_pi_r h, sd_pi_ri]
  exact k
theorem sd_ri_ri {T : Nat} {g g' : Nat → Int32} : sd_ri (sd_ri h T s g) T s g' = sd_ri h T s g' := by
  have e : (sd_ri (sd_ri h T s g) T s g').1 = (sd_ri h T s g').1 := by
    funext T' k'
    unfold sd_ri
    dsimp only
    by_cases h1 : T' = T
    · subst h1
      by_cases h2 : k' = s
      · subst h2; simp
      · simp [h2]
    · simp [h1]
  exact Prod.ext e rfl
theorem sp_judgePro {q : Int32} (k : Q (some (v_i (nb_pro (h.1 4 s) q).1)) (sd_ri h 4 s (nb_pro (h.1 4 s) q).2)) : sd_E1 l y_X3_judgeOnProbation [v_r 4 s, v_i q] h Q := by
  refine sd_e1 [] 60 (cd := cd_X3_judgeOnProbation) (by decide) rfl (Nat.le_of_ble_eq_true rfl) ?_
  unfold nb_pro at k
  refine ⟨fun (c1 : ¬ q = (h.1 4 s 0 + 1) &&& 65535) => ?_, fun (c1 : q = (h.1 4 s 0 + 1) &&& 65535) => ?_⟩
  · rw [if_neg c1] at k
    refine ⟨fun _ => ?_, fun c => absurd (rfl : (0 : Int32) = 0) c⟩
    refine ⟨fun c2 => ?_, fun c2 => ?_⟩
    · exfalso
      have c2 : (sd_pi (sd_pi h 4 s 4 1) 4 s 0 q).1 4 s 4 ≤ 0 := c2
      simp only [sd_pi_r h, sd_pi_ri, sd_ri_at] at c2
      exact absurd (show (1 : Int32) ≤ 0 from c2) (by decide)
    · show Q (some (v_i 0)) (sd_pi (sd_pi h 4 s 4 1) 4 s 0 q)
      simp only [sd_pi_r h, sd_pi_ri]
      exact k
  · rw [if_pos c1] at k
    refine ⟨fun c => absurd c (by decide), fun _ => ?_⟩
    refine ⟨fun c2 => ?_, fun c2 => ?_⟩
    · have c2 : (sd_pi (sd_pi h 4 s 4 (h.1 4 s 4 - 1)) 4 s 0 q).1 4 s 4 ≤ 0 := c2
      simp only [sd_pi_r h, sd_pi_ri, sd_ri_at] at c2
      have c2 : h.1 4 s 4 - 1 ≤ 0 := c2
      rw [if_pos c2] at k
      refine sp_setBy ?_
      show Q (some (v_i 2)) (sd_ri (sd_pi (sd_pi h 4 s 4 (h.1 4 s 4 - 1)) 4 s 0 q) 4 s (nb_set ((sd_pi (sd_pi h 4 s 4 (h.1 4 s 4 - 1)) 4 s 0 q).1 4 s) q))
      simp only [sd_pi_r h, sd_pi_ri, sd_ri_at, sd_ri_ri]
      exact k
    · have c2 : ¬ (sd_pi (sd_pi h 4 s 4 (h.1 4 s 4 - 1)) 4 s 0 q).1 4 s 4 ≤ 0 := c2
      simp only [sd_pi_r h, sd_pi_ri, sd_ri_at] at c2
      have c2 : ¬ h.1 4 s 4 - 1 ≤ 0 := c2
      rw [if_neg c2] at k
      show Q (some (v_i 0)) (sd_pi (sd_pi h 4 s 4 (h.1 4 s 4 - 1)) 4 s 0 q)
      simp only [sd_pi_r h, sd_pi_ri]
      exact k
theorem sp_judgeBel {q : Int32} (k : Q (some (v_i (nb_bel (h.1 4 s) q).1)) (sd_ri h 4 s (nb_bel (h.1 4 s) q).2)) : sd_E1 l y_X3_judgeBelieved [v_r 4 s, v_i q] h Q := by
  refine sd_e1 [] 60 (cd := cd_X3_judgeBelieved) (by decide) rfl (Nat.le_of_ble_eq_true rfl) ?_
  unfold nb_bel at k
  refine ⟨fun (c1 : 3000 ≤ (q - h.1 4 s 0) &&& 65535) => ?_, fun (c1 : ¬ 3000 ≤ (q - h.1 4 s 0) &&& 65535) => ?_⟩
  · rw [if_pos c1] at k
    refine ⟨fun (c2 : (q - h.1 4 s 0) &&& 65535 ≤ 65436) => ?_, fun (c2 : ¬ (q - h.1 4 s 0) &&& 65535 ≤ 65436) => ?_⟩
    · rw [if_pos c2] at k
      refine ⟨fun c3 => ?_, fun c3 => ?_⟩
      · rw [if_neg c3] at k
        show Q (some (v_i 0)) (sd_pi h 4 s 3 ((q + 1) &&& 65535))
        rw [sd_pi_r h]
        exact k
      · rw [if_pos c3] at k
        exact sp_setBy k
    · rw [if_neg c2] at k
      have k : Q (some (v_i 1)) (sd_ri h 4 s (h.1 4 s)) := k
      rw [sd_ri_self] at k
      exact k
  · rw [if_neg c1] at k
    refine ⟨fun c2 => ?_, fun c2 => ?_⟩
    · rw [if_pos c2] at k
      show Q (some (v_i 1)) (sd_pi (sd_pi h 4 s 1 (h.1 4 s 1 + 0)) 4 s 0 q)
      simp only [sd_pi_r h, sd_pi_ri]
      exact k
    · rw [if_neg c2] at k
      show Q (some (v_i 1)) (sd_pi (sd_pi h 4 s 1 (h.1 4 s 1 + 65536)) 4 s 0 q)
      simp only [sd_pi_r h, sd_pi_ri]
      exact k
theorem sp_judge {q : Int32} (k : Q (some (v_i (nb_j (h.1 4 s) q).1)) (sd_ri h 4 s (nb_j (h.1 4 s) q).2)) : sd_E1 l y_X3_judge [v_r 4 s, v_i q] h Q := by
  refine sd_e1 [] 60 (cd := cd_X3_judge) (by decide) rfl (Nat.le_of_ble_eq_true rfl) ?_
  unfold nb_j at k
  have fin : ∀ (r : Int32 × (Nat → Int32)), nb_j0 (h.1 4 s) q = r → (r.1 = 0 → Q (some (v_i r.1)) (sd_ri h 4 s r.2)) ∧ (¬ r.1 = 0 → Q (some (v_i r.1)) (sd_pi (sd_ri h 4 s r.2) 4 s 5 ((sd_ri h 4 s r.2).1 4 s 5 + 1))) := by
    intro r hr
    rw [hr] at k
    refine ⟨fun c => ?_, fun c => ?_⟩
    · rw [if_pos c] at k; exact k
    · rw [if_neg c] at k
      rw [sd_pi_ri, sd_ri_at]
      exact k
  refine ⟨fun c1 => ?_, fun c1 => ?_⟩
  · refine sp_judgeBel ?_
    have e : nb_j0 (h.1 4 s) q = nb_bel (h.1 4 s) q := by unfold nb_j0; rw [if_pos c1]
    exact ⟨fun c => (fin _ e).1 c, fun c => (fin _ e).2 c⟩
  · refine sp_judgePro ?_
    have e : nb_j0 (h.1 4 s) q = nb_pro (h.1 4 s) q := by unfold nb_j0; rw [if_neg c1]
    exact ⟨fun c => (fin _ e).1 c, fun c => (fin _ e).2 c⟩
theorem sp_longNumber {q : Int32} (k : Q (some (v_l (nb_long (h.1 4 s) q))) h) : sd_E1 l y_X3_longNumber [v_r 4 s, v_i q] h Q := by
  refine sd_e1 [] 60 (cd := cd_X3_longNumber) (by decide) rfl (Nat.le_of_ble_eq_true rfl) ?_
  unfold nb_long at k
  refine ⟨fun c1 => ?_, fun c1 => ?_⟩
  · rw [if_pos c1] at k; exact k
  · rw [if_neg c1] at k; exact k
theorem sp_due (k : Q (some (v_i (nb_due (h.1 4 s)))) h) : sd_E1 l y_X3_due [v_r 4 s] h Q := by
  refine sd_e1 [] 60 (cd := cd_X3_due) (by decide) rfl (Nat.le_of_ble_eq_true rfl) ?_
  exact k
theorem sp_lost (k : Q (some (v_i (nb_lost (h.1 4 s)))) h) : sd_E1 l y_X3_lost [v_r 4 s] h Q := by
  refine sd_e1 [] 60 (cd := cd_X3_lost) (by decide) rfl (Nat.le_of_ble_eq_true rfl) ?_
  refine sp_due ?_
  refine sp_min ?_
  exact sp_max k
def nb_frac (f : Nat → Int32) : Int32 := if (nb_due f - f 7).toInt64 = 0 then 0 else if ¬ 0 < (nb_due f - f 7).toInt64 - (f 5 - f 6).toInt64 then 0 else (256 * ((nb_due f - f 7).toInt64 - (f 5 - f 6).toInt64) / (nb_due f - f 7).toInt64).toInt32 &&& 255
def nb_tf (f : Nat → Int32) : Nat → Int32 := upd (upd f 7 (nb_due f)) 6 (f 5)
theorem sp_takeFraction (k : Q (some (v_i (nb_frac (h.1 4 s)))) (sd_ri h 4 s (nb_tf (h.1 4 s)))) : sd_E1 l y_X3_takeFraction [v_r 4 s] h Q := by
  refine sd_e1 [] 60 (cd := cd_X3_takeFraction) (by decide) rfl (Nat.le_of_ble_eq_true rfl) ?_
  refine sp_due ?_
  refine sp_due ?_
  have e : sd_pi (sd_pi h 4 s 7 (nb_due (h.1 4 s))) 4 s 6 ((sd_pi h 4 s 7 (nb_due (h.1 4 s))).1 4 s 5) = sd_ri h 4 s (nb_tf (h.1 4 s)) := by
    simp only [sd_pi_r h, sd_pi_ri, sd_ri_at]
    rfl
  rw [← e] at k
  unfold nb_frac at k
  refine ⟨fun c1 => ?_, fun c1 => ?_⟩
  · rw [if_pos (lc_eq.mp c1)] at k; exact k
  · rw [if_neg (fun q => c1 (lc_eq.mpr q))] at k
    refine ⟨fun c2 => ?_, fun c2 => ?_⟩
    · rw [if_neg (fun q => q (lc_gt.mp c2))] at k
      exact ⟨fun q => c1 (lc_eq.mpr q), k⟩
    · rw [if_pos (fun q => c2 (lc_gt.mpr q))] at k; exact k
/-! Jitter: 0 value, 1 kept, 2 hasKept -/
def jt_f (f : Nat → Int32) (x : Int32) : Nat → Int32 := if f 2 = 0 then upd (upd f 1 x) 2 1 else upd (upd (upd f 0 (f 0 + (i_abs (x - f 1) - (f 0 + 8) >>> 4))) 1 x) 2 1
theorem sp_follow {x : Int32} (k : Q none (sd_ri h 5 s (jt_f (h.1 5 s) x))) : sd_E1 l y_X2_follow [v_r 5 s, v_i x] h Q := by
  refine sd_e1 [] 60 (cd := cd_X2_follow) (by decide) rfl (Nat.le_of_ble_eq_true rfl) ?_
  unfold jt_f at k
  refine ⟨fun c1 => ?_, fun c1 => ?_⟩
  · rw [if_pos c1] at k
    refine ⟨Or.inr rfl, ?_⟩
    show Q none (sd_pi (sd_pi h 5 s 1 x) 5 s 2 1)
    simp only [sd_pi_r h, sd_pi_ri]
    exact k
  · rw [if_neg c1] at k
    refine sp_abs ?_
    refine ⟨Or.inr rfl, ?_⟩
    show Q none (sd_pi (sd_pi (sd_pi h 5 s 0 (h.1 5 s 0 + (i_abs (x - h.1 5 s 1) - (h.1 5 s 0 + 8) >>> 4))) 5 s 1 x) 5 s 2 1)
    simp only [sd_pi_r h, sd_pi_ri]
    exact k
/-! EventLog -/
def ev_add (h : sd_H) (e : Nat) (kd sn : Int32) (n : Int64) (nw : Int32) : sd_H := sd_pi (sd_pi (sd_pl (sd_pi (sd_pi h 12 0 (e % 64) kd) 13 0 (e % 64) sn) 14 0 (e % 64) n) 15 0 (e % 64) nw) 2 0 4 (nI (e + 1))
theorem sp_add {e : Nat} {kd sn nw : Int32} {n : Int64} (he : h.1 2 0 4 = nI e) (hb : e < 2 ^ 31) (k : Q none (ev_add h e kd sn n nw)) : sd_E1 l y_X1_add [v_r 2 0, v_i kd, v_i sn, v_l n, v_i nw] h Q := by
  refine sd_e1 [] 60 (cd := cd_X1_add) (by decide) rfl (Nat.le_of_ble_eq_true rfl) ?_
  have hm : e % 64 < 64 := Nat.mod_lt _ (by decide)
  show sd_E1 l y_J9_floorMod_7cf53 [v_i (h.1 2 0 4), v_i 64] h _
  rw [he]
  refine sp_fmod64 hb ?_
  refine ⟨e % 64, ⟨hm, rfl⟩, ?_⟩
  refine ⟨e % 64, ⟨hm, rfl⟩, ?_⟩
  refine ⟨e % 64, ⟨hm, rfl⟩, ?_⟩
  refine ⟨e % 64, ⟨hm, rfl⟩, ?_⟩
  show Q none (sd_pi (sd_pi (sd_pl (sd_pi (sd_pi h 12 0 (e % 64) kd) 13 0 (e % 64) sn) 14 0 (e % 64) n) 15 0 (e % 64) nw) 2 0 4 (h.1 2 0 4 + 1))
  rw [he, nI_1]
  exact k
def ev_keeps (h : sd_H) (i : Int32) : Int32 := if i < 0 then 0 else if 64 ≤ i then 0 else if h.1 2 0 4 ≤ i then 0 else 1
theorem sp_keeps {i : Int32} (k : Q (some (v_i (ev_keeps h i))) h) : sd_E1 l y_X1_keeps [v_r 2 0, v_i i] h Q := by
  refine sd_e1 [] 60 (cd := cd_X1_keeps) (by decide) rfl (Nat.le_of_ble_eq_true rfl) ?_
  unfold ev_keeps at k
  refine ⟨fun c1 => ?_, fun c1 => ?_⟩
  · rw [if_pos c1] at k; exact ⟨Or.inl rfl, k⟩
  rw [if_neg c1] at k
  refine ⟨fun c2 => ?_, fun c2 => ?_⟩
  · rw [if_pos c2] at k; exact ⟨Or.inl rfl, k⟩
  rw [if_neg c2] at k
  refine ⟨fun c3 => ?_, fun c3 => ?_⟩
  · rw [if_pos c3] at k; exact ⟨Or.inl rfl, k⟩
  rw [if_neg c3] at k
  exact ⟨Or.inr rfl, k⟩
def ev_fld (h : sd_H) (j : Nat) (w : Int32) : Int64 := if w = 0 then (h.1 12 0 j).toInt64 else if w = 1 then (h.1 13 0 j).toInt64 else if w = 2 then h.2.1 14 0 j else if w = 3 then (h.1 15 0 j).toInt64 else -1
theorem sp_efield {i w : Int32} {e i0 : Nat} (he : h.1 2 0 4 = nI e) (hb : e < 2 ^ 30) (hi : i = nI i0) (hlt : i0 < e) (k : Q (some (v_l (ev_fld h ((e - 1 - i0) % 64) w))) h) : sd_E1 l y_X1_field [v_r 2 0, v_i i, v_i w] h Q := by
  refine sd_e1 [] 60 (cd := cd_X1_field) (by decide) rfl (Nat.le_of_ble_eq_true rfl) ?_
  have hm : (e - 1 - i0) % 64 < 64 := Nat.mod_lt _ (by decide)
  have ex : h.1 2 0 4 - 1 - i = nI (e - 1 - i0) := by
    rw [he, hi, show (1 : Int32) = nI 1 from rfl, pk_sub (by omega), pk_sub (by omega)]
  show sd_E1 l y_J9_floorMod_7cf53 [v_i (h.1 2 0 4 - 1 - i), v_i 64] h _
  rw [ex]
  refine sp_fmod64 (by omega) ?_
  unfold ev_fld at k
  refine ⟨fun (c : w = 0) => ?_, fun (c : ¬ w = 0) => ?_⟩
  · rw [if_pos c] at k; exact ⟨_, ⟨hm, rfl⟩, k⟩
  rw [if_neg c] at k
  refine ⟨fun (c : w = 1) => ?_, fun (c : ¬ w = 1) => ?_⟩
  · rw [if_pos c] at k; exact ⟨_, ⟨hm, rfl⟩, k⟩
  rw [if_neg c] at k
  refine ⟨fun (c : w = 2) => ?_, fun (c : ¬ w = 2) => ?_⟩
  · rw [if_pos c] at k; exact ⟨_, ⟨hm, rfl⟩, k⟩
  rw [if_neg c] at k
  refine ⟨fun (c : w = 3) => ?_, fun (c : ¬ w = 3) => ?_⟩
  · rw [if_pos c] at k; exact ⟨_, ⟨hm, rfl⟩, k⟩
  rw [if_neg c] at k
  exact k
end NB
end
section
/-! Player (tag 6): ints 1 senderNumber, 5 waiting, 8 beginStamp; longs 6 next, 7 beginTime; rows 16 notes, 17 times, 18 held -/
def pl_note (h : sd_H) (s e c : Nat) (n : Int64) (nw : Int32) : sd_H := ev_add (sd_pi h 16 s c (h.1 16 s c + 1)) e (nI c) (h.1 6 s 1) n nw
def pl_hold (h : sd_H) (s : Nat) (n t : Int64) : sd_H := sd_pi (sd_pi (sd_pl h 17 s (sl n) t) 18 s (sl n) 1) 6 s 5 (h.1 6 s 5 + 1)
def pl_waits (h : sd_H) (s : Nat) (n : Int64) : Int32 := if n < h.2.1 6 s 6 then 0 else if ¬ n - h.2.1 6 s 6 < 32 then 0 else if h.1 18 s (sl n) = 0 then 0 else 1
def fz (f : Nat → Int32) (n : Nat) : Nat → Int32 := fun j => if j < n then 0 else f j
def pl_forget (h : sd_H) (s : Nat) : sd_H := sd_pi (sd_ri h 18 s (fz (h.1 18 s) 32)) 6 s 5 0
section PL
variable {l : Launch} {h : sd_H} {Q : Option sd_V → sd_H → Prop} {s : Nat}
theorem sp_note {e c : Nat} {nw : Int32} {n : Int64} (hc : c < 8) (he : h.1 2 0 4 = nI e) (hb : e < 2 ^ 31) (k : Q none (pl_note h s e c n nw)) : sd_E1 l y_X5_note [v_r 6 s, v_i (nI c), v_l n, v_i nw] h Q := by
  refine sd_e1 [] 60 (cd := cd_X5_note) (by decide) rfl (Nat.le_of_ble_eq_true rfl) ?_
  refine ⟨fun q => absurd q (nI_pos (by omega)), fun _ => ?_⟩
  refine ⟨fun q => absurd q (Int32.not_le.mpr (nI_lt (a := c) (b := 8) hc (by decide))), fun _ => ?_⟩
  refine ⟨c, ⟨hc, rfl⟩, ?_⟩
  refine ⟨c, ⟨hc, rfl⟩, ?_⟩
  refine sp_add (e := e) he hb ?_
  exact k
theorem sp_noted {i : Int32} (k : Q (some (v_i (if i < 0 then 0 else if 8 ≤ i then 0 else h.1 16 s i.toNatClampNeg))) h) : sd_E1 l y_X5_noted [v_r 6 s, v_i i] h Q := by
  refine sd_e1 [] 60 (cd := cd_X5_noted) (by decide) rfl (Nat.le_of_ble_eq_true rfl) ?_
  refine ⟨fun c1 => ?_, fun c1 => ?_⟩
  · rw [if_pos c1] at k; exact k
  rw [if_neg c1] at k
  refine ⟨fun c2 => ?_, fun c2 => ?_⟩
  · rw [if_pos c2] at k; exact k
  rw [if_neg c2] at k
  obtain ⟨i1, i2⟩ := i_ix (N := 8) c1 (i_nle c2) (by decide)
  exact ⟨_, ⟨i1, i2⟩, k⟩
theorem sp_hold {n t : Int64} (k : Q none (pl_hold h s n t)) : sd_E1 l y_X5_hold [v_r 6 s, v_l n, v_l t] h Q := by
  refine sd_e1 [] 60 (cd := cd_X5_hold) (by decide) rfl (Nat.le_of_ble_eq_true rfl) ?_
  refine sp_slotOf ?_
  refine ⟨sl n, ⟨sl_lt n, rfl⟩, ?_⟩
  refine ⟨sl n, ⟨sl_lt n, rfl, Or.inr rfl⟩, ?_⟩
  exact k
theorem sp_waits {n : Int64} (k : Q (some (v_i (pl_waits h s n))) h) : sd_E1 l y_X5_waits [v_r 6 s, v_l n] h Q := by
  refine sd_e1 [] 60 (cd := cd_X5_waits) (by decide) rfl (Nat.le_of_ble_eq_true rfl) ?_
  unfold pl_waits at k
  refine ⟨fun c1 => ?_, fun c1 => ?_⟩
  · rw [if_pos (lc_lt.mp c1)] at k; exact ⟨Or.inl rfl, k⟩
  rw [if_neg (fun q => c1 (lc_lt.mpr q))] at k
  refine ⟨fun c2 => ?_, fun c2 => ?_⟩
  · rw [if_pos (lc_ge.mp c2)] at k; exact ⟨Or.inl rfl, k⟩
  rw [if_neg (fun q => c2 (lc_ge.mpr q))] at k
  refine sp_slotOf ?_
  refine ⟨sl n, ⟨sl_lt n, rfl⟩, ?_⟩
  refine ⟨fun c3 => ?_, fun c3 => ?_⟩
  · rw [if_pos c3] at k; exact ⟨Or.inl rfl, k⟩
  · rw [if_neg c3] at k; exact ⟨Or.inr rfl, k⟩
theorem sp_timeOf {n : Int64} (k : Q (some (v_l (h.2.1 17 s (sl n)))) h) : sd_E1 l y_X5_timeOf [v_r 6 s, v_l n] h Q := by
  refine sd_e1 [] 60 (cd := cd_X5_timeOf) (by decide) rfl (Nat.le_of_ble_eq_true rfl) ?_
  refine sp_slotOf ?_
  exact ⟨sl n, ⟨sl_lt n, rfl⟩, k⟩
theorem fz_up (f : Nat → Int32) (n : Nat) : upd (fz f n) n 0 = fz f (n + 1) := by
  funext j
  unfold upd fz
  by_cases h1 : j = n
  · subst h1; simp
  · rw [if_neg h1]
    by_cases h2 : j < n
    · rw [if_pos h2, if_pos (by omega)]
    · rw [if_neg h2, if_neg (by omega)]
theorem sq_forget {f : Nat → Int32} : ∀ (n : Nat), n ≤ 32 → Q none (sd_pi (sd_ri h 18 s (fz f 32)) 6 s 5 0) → sd_Wq l none y_X5_forgetWaiting true Q 2 [some (v_r 6 s), some (v_i (nI (32 - n)))] [] (sd_ri h 18 s (fz f (32 - n))) 0 0
  | 0, _, k => by
    refine sd_go [2] 30 (cd := cd_X5_forgetWaiting) (by decide) rfl ?_
    exact ⟨fun _ => k, fun c => absurd (show (32 : Int32) ≤ nI 32 by decide) c⟩
  | n + 1, hn, k => by
    refine sd_go [2] 30 (cd := cd_X5_forgetWaiting) (by decide) rfl ?_
    refine ⟨fun c => absurd c ?_, fun _ => ?_⟩
    · exact Int32.not_le.mpr (nI_lt (a := 32 - (n + 1)) (b := 32) (by omega) (by decide))
    refine ⟨32 - (n + 1), ⟨show 32 - (n + 1) < 32 by omega, rfl, Or.inl rfl⟩, ?_⟩
    show sd_Wq l none y_X5_forgetWaiting true Q 2 [some (v_r 6 s), some (v_i (nI (32 - (n + 1)) + 1))] [] (sd_pi (sd_ri h 18 s (fz f (32 - (n + 1)))) 18 s (32 - (n + 1)) 0) 0 0
    rw [sd_pi_ri, fz_up, nI_1, show 32 - (n + 1) + 1 = 32 - n by omega]
    exact sq_forget n (by omega) k
theorem sp_forget (k : Q none (pl_forget h s)) : sd_E1 l y_X5_forgetWaiting [v_r 6 s] h Q := by
  refine sd_e1 [2] 60 (cd := cd_X5_forgetWaiting) (by decide) rfl (Nat.le_of_ble_eq_true rfl) ?_
  have e : h = sd_ri h 18 s (fz (h.1 18 s) (32 - 32)) := by
    have : fz (h.1 18 s) (32 - 32) = h.1 18 s := by funext j; simp [fz]
    rw [this, sd_ri_self]
  have w := sq_forget (l := l) (h := h) (s := s) (Q := Q) (f := h.1 18 s) 32 (by omega) k
  rw [← e] at w
  exact w
/-- begin: what waits is forgotten, then the first that waits -/
def pl_begin (h : sd_H) (s e : Nat) (n : Int64) (st nw dl : Int32) : sd_H :=
  pl_hold (pl_note (sd_pi (sd_pl (sd_pl (pl_forget h s) 6 s 6 n) 6 s 7 (nw.toInt64 + dl.toInt64)) 6 s 8 st) s e 6 n nw) s n (nw.toInt64 + dl.toInt64)
theorem sp_begin {e : Nat} {n : Int64} {st nw dl : Int32} (he : h.1 2 0 4 = nI e) (hb : e < 2 ^ 31) (k : Q none (pl_begin h s e n st nw dl)) : sd_E1 l y_X5_begin [v_r 6 s, v_l n, v_i st, v_i nw, v_i dl] h Q := by
  refine sd_e1 [] 60 (cd := cd_X5_begin) (by decide) rfl (Nat.le_of_ble_eq_true rfl) ?_
  refine sp_forget ?_
  refine sp_note (e := e) (c := 6) (by decide) he hb ?_
  refine sp_hold ?_
  have e7 : (pl_note (sd_pi (sd_pl (sd_pl (pl_forget h s) 6 s 6 n) 6 s 7 (nw.toInt64 + dl.toInt64)) 6 s 8 st) s e 6 n nw).2.1 6 s 7 = nw.toInt64 + dl.toInt64 := by
    show (sd_pl (sd_pl (pl_forget h s) 6 s 6 n) 6 s 7 (nw.toInt64 + dl.toInt64)).2.1 6 s 7 = _
    exact sd_pl_eq
  show Q none (pl_hold (pl_note (sd_pi (sd_pl (sd_pl (pl_forget h s) 6 s 6 n) 6 s 7 (nw.toInt64 + dl.toInt64)) 6 s 8 st) s e 6 n nw) s n ((pl_note (sd_pi (sd_pl (sd_pl (pl_forget h s) 6 s 6 n) 6 s 7 (nw.toInt64 + dl.toInt64)) 6 s 8 st) s e 6 n nw).2.1 6 s 7))
  rw [e7]
  exact k
def pl_since (h : sd_H) (s : Nat) (st rt : Int32) : Int64 := if rt ≤ 0 then 0 else fl_d ((st - h.1 6 s 8).toInt64 * 1000) rt.toInt64
theorem i_l0 {x : Int32} : x.toInt64 = 0 ↔ x = 0 := by
  constructor
  · intro q
    apply Int32.toInt_inj.mp
    rw [← Int32.toInt_toInt64, q]; rfl
  · intro q; rw [q]; rfl
theorem sp_since {st rt : Int32} (k : Q (some (v_l (pl_since h s st rt))) h) : sd_E1 l y_X5_sinceBegin [v_r 6 s, v_i st, v_i rt] h Q := by
  refine sd_e1 [] 60 (cd := cd_X5_sinceBegin) (by decide) rfl (Nat.le_of_ble_eq_true rfl) ?_
  unfold pl_since at k
  refine ⟨fun c1 => ?_, fun c1 => ?_⟩
  · rw [if_pos c1] at k; exact k
  · rw [if_neg c1] at k
    have c2 := i_nle c1
    rw [Int32.lt_iff_toInt_lt] at c2
    have c2 : (0 : Int) < rt.toInt := c2
    refine sp_fdiv (fun q => ?_) (fun q => ?_) k
    · have := i_l0.mp q
      rw [this] at c2
      exact absurd c2 (by decide)
    · rw [Int64.lt_iff_toInt_lt, Int32.toInt_toInt64] at q
      have q : rt.toInt < (0 : Int) := q
      omega
def pl_arrive (h : sd_H) (s e : Nat) (n : Int64) (st rt nw dl : Int32) : sd_H := if n < h.2.1 6 s 6 then pl_note h s e 3 n nw else if n - h.2.1 6 s 6 < 32 then (if pl_waits h s n = 0 then pl_hold h s n (h.2.1 6 s 7 + pl_since h s st rt) else pl_note h s e 5 n nw) else if h.1 6 s 5 = 0 then pl_begin h s e n st nw dl else pl_note h s e 4 n nw
theorem sp_arrive {e : Nat} {n : Int64} {st rt nw dl : Int32} (he : h.1 2 0 4 = nI e) (hb : e < 2 ^ 31) (k : Q none (pl_arrive h s e n st rt nw dl)) : sd_E1 l y_X5_arrive [v_r 6 s, v_l n, v_i st, v_i rt, v_i nw, v_i dl] h Q := by
  refine sd_e1 [] 60 (cd := cd_X5_arrive) (by decide) rfl (Nat.le_of_ble_eq_true rfl) ?_
  unfold pl_arrive at k
  refine ⟨fun c1 => ?_, fun c1 => ?_⟩
  · have c1 := lc_ge.mp c1
    refine ⟨fun c2 => ?_, fun c2 => ?_⟩
    · have c2 := lc_lt.mp c2
      refine ⟨fun _ => ?_, fun c4 => absurd (lc_lt.mpr c2) c4⟩
      rw [if_neg c1, if_pos c2] at k
      refine sp_waits ?_
      refine ⟨fun c3 => ?_, fun c3 => ?_⟩
      · rw [if_pos c3] at k
        refine sp_since ?_
        exact sp_hold k
      · rw [if_neg c3] at k
        exact sp_note (e := e) (c := 5) (by decide) he hb k
    · have c2' : ¬ n - h.2.1 6 s 6 < 32 := fun q => c2 (lc_lt.mpr q)
      rw [if_neg c1, if_neg c2'] at k
      refine ⟨fun c3 => ?_, fun c3 => ?_⟩
      · rw [if_neg c3] at k
        refine ⟨fun c4 => absurd c4 c2, fun _ => ?_⟩
        exact sp_note (e := e) (c := 4) (by decide) he hb k
      · rw [if_pos c3] at k
        exact sp_begin he hb k
  · have c1 : n < h.2.1 6 s 6 := Classical.not_not.mp fun q => c1 (lc_ge.mpr q)
    rw [if_pos c1] at k
    exact sp_note (e := e) (c := 3) (by decide) he hb k
/-- how far above NEXT the first lies that is due -/
def pl_gap (h : sd_H) (s : Nat) (nw : Int32) : Nat → Nat
  | 0 => 32
  | n + 1 => if h.1 18 s (sl (h.2.1 6 s 6 + (nI (32 - (n + 1))).toInt64)) = 0 then pl_gap h s nw n else if nw.toInt64 < h.2.1 17 s (sl (h.2.1 6 s 6 + (nI (32 - (n + 1))).toInt64)) then pl_gap h s nw n else 32 - (n + 1)
theorem sq_gap {nw : Int32} : ∀ (n : Nat), n ≤ 32 → ∀ (j3 : Option sd_V), Q (some (v_i (nI (pl_gap h s nw n)))) h → sd_Wq l none y_X5_gapToDue true Q 2 [some (v_r 6 s), some (v_i nw), some (v_i (nI (32 - n))), j3] [] h 0 0
  | 0, _, j3, k => by
    refine sd_go [2] 40 (cd := cd_X5_gapToDue) (by decide) rfl ?_
    exact ⟨fun _ => k, fun c => absurd (show (32 : Int32) ≤ nI 32 by decide) c⟩
  | n + 1, hn, j3, k => by
    refine sd_go [2] 40 (cd := cd_X5_gapToDue) (by decide) rfl ?_
    refine ⟨fun c => absurd c ?_, fun _ => ?_⟩
    · exact Int32.not_le.mpr (nI_lt (a := 32 - (n + 1)) (b := 32) (by omega) (by decide))
    refine sp_slotOf ?_
    refine ⟨_, ⟨sl_lt _, rfl⟩, ?_⟩
    unfold pl_gap at k
    have nxt : Q (some (v_i (nI (pl_gap h s nw n)))) h → ∀ j, sd_Wq l none y_X5_gapToDue true Q 2 [some (v_r 6 s), some (v_i nw), some (v_i (nI (32 - (n + 1)) + 1)), j] [] h 0 0 := by
      intro k j
      rw [nI_1, show 32 - (n + 1) + 1 = 32 - n by omega]
      exact sq_gap n (by omega) j k
    refine ⟨fun c1 => ?_, fun c1 => ?_⟩
    · rw [if_pos c1] at k
      exact nxt k _
    · rw [if_neg c1] at k
      refine ⟨_, ⟨sl_lt _, rfl⟩, ?_⟩
      refine ⟨fun c2 => ?_, fun c2 => ?_⟩
      · rw [if_pos (lc_gt.mp c2)] at k
        exact nxt k _
      · rw [if_neg (fun q => c2 (lc_gt.mpr q))] at k
        exact k
theorem sp_gap {nw : Int32} (k : Q (some (v_i (nI (pl_gap h s nw 32)))) h) : sd_E1 l y_X5_gapToDue [v_r 6 s, v_i nw] h Q := by
  refine sd_e1 [2] 60 (cd := cd_X5_gapToDue) (by decide) rfl (Nat.le_of_ble_eq_true rfl) ?_
  exact sq_gap 32 (by omega) _ k
def pl_step (h : sd_H) (s e c : Nat) (nw : Int32) : sd_H :=
  sd_pl (pl_note (sd_pi (sd_pi h 6 s 5 (h.1 6 s 5 - if h.1 18 s (sl (h.2.1 6 s 6)) = 0 then 0 else 1)) 18 s (sl (h.2.1 6 s 6)) 0) s e c (h.2.1 6 s 6) nw) 6 s 6 (h.2.1 6 s 6 + 1)
theorem sp_step {e c : Nat} {nw : Int32} (hc : c < 8) (he : h.1 2 0 4 = nI e) (hb : e < 2 ^ 31) (k : Q none (pl_step h s e c nw)) : sd_E1 l y_X5_step [v_r 6 s, v_i (nI c), v_i nw] h Q := by
  refine sd_e1 [] 60 (cd := cd_X5_step) (by decide) rfl (Nat.le_of_ble_eq_true rfl) ?_
  refine sp_slotOf ?_
  refine ⟨_, ⟨sl_lt _, rfl⟩, ?_⟩
  unfold pl_step at k
  refine ⟨fun c1 => ?_, fun c1 => ?_⟩
  · rw [if_pos c1] at k
    refine ⟨_, ⟨sl_lt _, rfl, Or.inl rfl⟩, ?_⟩
    exact sp_note (e := e) hc he hb k
  · rw [if_neg c1] at k
    refine ⟨_, ⟨sl_lt _, rfl, Or.inl rfl⟩, ?_⟩
    exact sp_note (e := e) hc he hb k
end PL
end
section
/-! Player.playDue -/
def pl_steps (s : Nat) (nw : Int32) : Nat → sd_H → Nat → sd_H
  | 0, h, _ => h
  | n + 1, h, e => pl_steps s nw n (pl_step h s e 2 nw) (e + 1)
def pl_turn (h : sd_H) (s e : Nat) (nw : Int32) (g : Nat) : sd_H := pl_step (pl_steps s nw g h e) s (e + g) 1 nw
def pl_play (s : Nat) (nw : Int32) : Nat → sd_H → Nat → Int32 → Int32 × sd_H × Nat
  | 0, h, e, d => (d, h, e)
  | n + 1, h, e, d => if h.1 6 s 5 ≤ 0 then (d, h, e) else if pl_gap h s nw 32 = 32 then (d, h, e) else pl_play s nw n (pl_turn h s e nw (pl_gap h s nw 32)) (e + pl_gap h s nw 32 + 1) (d + (nI (pl_gap h s nw 32) + 1))
theorem pl_step_e {h : sd_H} {s e c : Nat} {nw : Int32} : (pl_step h s e c nw).1 2 0 4 = nI (e + 1) := rfl
theorem pl_steps_e {s : Nat} {nw : Int32} : ∀ (n : Nat) (h : sd_H) (e : Nat), h.1 2 0 4 = nI e → (pl_steps s nw n h e).1 2 0 4 = nI (e + n)
  | 0, _, _, he => he
  | n + 1, h, e, he => by
    have := pl_steps_e (s := s) (nw := nw) n (pl_step h s e 2 nw) (e + 1) pl_step_e
    rw [show e + (n + 1) = e + 1 + n by omega]
    exact this
theorem pl_gap_le {h : sd_H} {s : Nat} {nw : Int32} : ∀ n, n ≤ 32 → pl_gap h s nw n ≤ 32
  | 0, _ => Nat.le_refl _
  | n + 1, hn => by
    unfold pl_gap
    split
    · exact pl_gap_le n (by omega)
    · split
      · exact pl_gap_le n (by omega)
      · omega
section PY
variable {l : Launch} {Q : Option sd_V → sd_H → Prop} {s : Nat} {nw : Int32}
theorem sq_lose {g : Nat} (hg : g < 32) {d t : Int32} : ∀ (m : Nat) (h : sd_H) (e : Nat), m ≤ g → h.1 2 0 4 = nI e → e + m < 2 ^ 31 → sd_Wq l none y_X5_playDue true Q 56 [some (v_r 6 s), some (v_i nw), some (v_i d), some (v_i t), some (v_i (nI g)), some (v_i (nI g))] [] (pl_steps s nw m h e) 0 0 → sd_Wq l none y_X5_playDue true Q 37 [some (v_r 6 s), some (v_i nw), some (v_i d), some (v_i t), some (v_i (nI g)), some (v_i (nI (g - m)))] [] h 0 0
  | 0, h, e, hm, he, hb, k => by
    refine sd_go [4, 37, 56] 40 (cd := cd_X5_playDue) (by decide) rfl ?_
    exact ⟨fun _ => k, fun c => absurd (nI_le (Nat.le_refl g) (by omega)) c⟩
  | m + 1, h, e, hm, he, hb, k => by
    refine sd_go [4, 37, 56] 40 (cd := cd_X5_playDue) (by decide) rfl ?_
    refine ⟨fun c => absurd c ?_, fun _ => ?_⟩
    · exact Int32.not_le.mpr (nI_lt (a := g - (m + 1)) (b := g) (by omega) (by omega))
    refine sp_step (e := e) (c := 2) (by decide) he (by omega) ?_
    show sd_Wq l none y_X5_playDue true Q 37 [some (v_r 6 s), some (v_i nw), some (v_i d), some (v_i t), some (v_i (nI g)), some (v_i (nI (g - (m + 1)) + 1))] [] (pl_step h s e 2 nw) 0 0
    rw [nI_1, show g - (m + 1) + 1 = g - m by omega]
    exact sq_lose hg m (pl_step h s e 2 nw) (e + 1) (by omega) pl_step_e (by omega) k
theorem sq_play : ∀ (n : Nat) (h : sd_H) (e : Nat) (d : Int32) (j4 j5 : Option sd_V), n ≤ 32 → h.1 2 0 4 = nI e → e + 33 * n < 2 ^ 31 → Q (some (v_i (pl_play s nw n h e d).1)) (pl_play s nw n h e d).2.1 → sd_Wq l none y_X5_playDue true Q 4 [some (v_r 6 s), some (v_i nw), some (v_i d), some (v_i (nI (32 - n))), j4, j5] [] h 0 0
  | 0, h, e, d, j4, j5, hn, he, hb, k => by
    refine sd_go [4, 37, 56] 40 (cd := cd_X5_playDue) (by decide) rfl ?_
    exact ⟨fun _ => k, fun c => absurd (show (32 : Int32) ≤ nI 32 by decide) c⟩
  | n + 1, h, e, d, j4, j5, hn, he, hb, k => by
    refine sd_go [4, 37, 56] 40 (cd := cd_X5_playDue) (by decide) rfl ?_
    refine ⟨fun c => absurd c ?_, fun _ => ?_⟩
    · exact Int32.not_le.mpr (nI_lt (a := 32 - (n + 1)) (b := 32) (by omega) (by decide))
    unfold pl_play at k
    refine ⟨fun c1 => ?_, fun c1 => ?_⟩
    · rw [if_pos c1] at k; exact k
    rw [if_neg c1] at k
    refine sp_gap ?_
    have hg := pl_gap_le (h := h) (s := s) (nw := nw) 32 (Nat.le_refl _)
    generalize pl_gap h s nw 32 = g at k hg ⊢
    refine ⟨fun c2 => ?_, fun c2 => ?_⟩
    · have c2' : ¬ g = 32 := fun q => c2 (by rw [q]; rfl)
      rw [if_neg c2'] at k
      have hg2 : g < 32 := by omega
      have w := sq_lose (l := l) (Q := Q) (s := s) (nw := nw) (g := g) hg2 (d := d) (t := nI (32 - (n + 1))) g h e (Nat.le_refl _) he (by omega) ?_
      · rw [Nat.sub_self] at w
        exact w
      refine sd_go [4, 37] 40 (cd := cd_X5_playDue) (by decide) rfl ?_
      refine sp_step (e := e + g) (c := 1) (by decide) (pl_steps_e g h e he) (by omega) ?_
      show sd_Wq l none y_X5_playDue true Q 4 [some (v_r 6 s), some (v_i nw), some (v_i (d + (nI g + 1))), some (v_i (nI (32 - (n + 1)) + 1)), some (v_i (nI g)), some (v_i (nI g))] [] (pl_turn h s e nw g) 0 0
      rw [nI_1 (32 - (n + 1)), show 32 - (n + 1) + 1 = 32 - n by omega]
      exact sq_play n (pl_turn h s e nw g) (e + g + 1) _ _ _ (by omega) pl_step_e (by omega) k
    · have c2' : g = 32 := by
        have := (nI_eq (a := g) (b := 32) (by omega) (by decide)).mp c2
        exact this
      rw [if_pos c2'] at k
      exact k
theorem sp_play {h : sd_H} {e : Nat} (he : h.1 2 0 4 = nI e) (hb : e + 2000 < 2 ^ 31) (k : Q (some (v_i (pl_play s nw 32 h e 0).1)) (pl_play s nw 32 h e 0).2.1) : sd_E1 l y_X5_playDue [v_r 6 s, v_i nw] h Q := by
  refine sd_e1 [4, 37, 56] 60 (cd := cd_X5_playDue) (by decide) rfl (Nat.le_of_ble_eq_true rfl) ?_
  exact sq_play 32 h e 0 _ _ (Nat.le_refl _) he (by omega) k
end PY
end
section
/-! Sender (tag 3: 0 bytes, 4 left, 5 hasClock, 6 clockMiddle, 7 clockNow) and the reads of StreamDesk (tag 0) -/
def evn (h : sd_H) : Nat := (h.1 2 0 4).toNatClampNeg
theorem evn_of {h : sd_H} {e : Nat} (he : h.1 2 0 4 = nI e) (hb : e < 2 ^ 31) : evn h = e := by unfold evn; rw [he]; exact nI_clamp hb
def sn_r1 (h : sd_H) (s : Nat) (q st rt nw : Int32) : sd_H := sd_ri (sd_ri h 4 s (nb_j (h.1 4 s) q).2) 5 s (jt_f (h.1 5 s) ((nw.toInt64 * rt.toInt64 / 1000).toInt32 - st))
def sn_r2 (h : sd_H) (s e : Nat) (q st rt nw dl : Int32) : sd_H := if (nb_j (h.1 4 s) q).1 = 2 then pl_begin (sn_r1 h s q st rt nw) s e (nb_long (nb_j (h.1 4 s) q).2 q) st nw dl else pl_arrive (sn_r1 h s q st rt nw) s e (nb_long (nb_j (h.1 4 s) q).2 q) st rt nw dl
def sn_rcv (h : sd_H) (s e : Nat) (q st rt nw dl : Int32) : Int32 × sd_H := if (nb_j (h.1 4 s) q).1 = 0 then (0, sd_ri h 4 s (nb_j (h.1 4 s) q).2) else (1, (pl_play s nw 32 (sn_r2 h s e q st rt nw dl) (evn (sn_r2 h s e q st rt nw dl)) 0).2.1)
theorem pl_note_e {h : sd_H} {s e c : Nat} {n : Int64} {nw : Int32} : (pl_note h s e c n nw).1 2 0 4 = nI (e + 1) := rfl
theorem pl_begin_e {h : sd_H} {s e : Nat} {n : Int64} {st nw dl : Int32} : (pl_begin h s e n st nw dl).1 2 0 4 = nI (e + 1) := rfl
theorem pl_arrive_e {h : sd_H} {s e : Nat} {n : Int64} {st rt nw dl : Int32} (he : h.1 2 0 4 = nI e) : (pl_arrive h s e n st rt nw dl).1 2 0 4 = nI e ∨ (pl_arrive h s e n st rt nw dl).1 2 0 4 = nI (e + 1) := by
  unfold pl_arrive
  split
  · exact Or.inr rfl
  · split
    · split
      · exact Or.inl he
      · exact Or.inr rfl
    · split
      · exact Or.inr rfl
      · exact Or.inr rfl
theorem sn_r2_e {h : sd_H} {s e : Nat} {q st rt nw dl : Int32} (he : h.1 2 0 4 = nI e) : (sn_r2 h s e q st rt nw dl).1 2 0 4 = nI e ∨ (sn_r2 h s e q st rt nw dl).1 2 0 4 = nI (e + 1) := by
  unfold sn_r2
  split
  · exact Or.inr rfl
  · exact pl_arrive_e (h := sn_r1 h s q st rt nw) he
section SN
variable {l : Launch} {h : sd_H} {Q : Option sd_V → sd_H → Prop} {s : Nat}
theorem sp_receive {e : Nat} {q st rt nw dl : Int32} (he : h.1 2 0 4 = nI e) (hb : e + 3000 < 2 ^ 31) (k : Q (some (v_i (sn_rcv h s e q st rt nw dl).1)) (sn_rcv h s e q st rt nw dl).2) : sd_E1 l y_X7_receive [v_r 3 s, v_i q, v_i st, v_i rt, v_i nw, v_i dl] h Q := by
  refine sd_e1 [] 80 (cd := cd_X7_receive) (by decide) rfl (Nat.le_of_ble_eq_true rfl) ?_
  refine sp_judge ?_
  unfold sn_rcv at k
  refine ⟨fun c1 => ?_, fun c1 => ?_⟩
  rotate_left
  · rw [if_pos c1] at k; exact ⟨Or.inl rfl, k⟩
  rw [if_neg c1] at k
  refine ⟨by decide, ?_⟩
  refine sp_follow ?_
  refine sp_longNumber ?_
  have e4 : (sn_r1 h s q st rt nw).1 4 s = (nb_j (h.1 4 s) q).2 := by
    show (sd_ri h 4 s (nb_j (h.1 4 s) q).2).1 4 s = _
    exact sd_ri_at
  have ef : sd_ri (sd_ri h 4 s (nb_j (h.1 4 s) q).2) 5 s (jt_f ((sd_ri h 4 s (nb_j (h.1 4 s) q).2).1 5 s) ((nw.toInt64 * rt.toInt64 / 1000).toInt32 - st)) = sn_r1 h s q st rt nw := rfl
  have h4 := sn_r2_e (s := s) (q := q) (st := st) (rt := rt) (nw := nw) (dl := dl) he
  refine ⟨fun c2 => ?_, fun c2 => ?_⟩
  · have e5 : sn_r2 h s e q st rt nw dl = pl_arrive (sn_r1 h s q st rt nw) s e (nb_long (nb_j (h.1 4 s) q).2 q) st rt nw dl := if_neg c2
    show sd_E1 l y_X5_arrive [v_r 6 s, v_l (nb_long ((sn_r1 h s q st rt nw).1 4 s) q), v_i st, v_i rt, v_i nw, v_i dl] (sn_r1 h s q st rt nw) _
    rw [e4]
    refine sp_arrive (e := e) he (by omega) ?_
    rw [← e5]
    rcases h4 with h4 | h4
    · refine sp_play (e := e) h4 (by omega) ?_
      rw [evn_of h4 (by omega)] at k
      exact ⟨Or.inr rfl, k⟩
    · refine sp_play (e := e + 1) h4 (by omega) ?_
      rw [evn_of h4 (by omega)] at k
      exact ⟨Or.inr rfl, k⟩
  · have e5 : sn_r2 h s e q st rt nw dl = pl_begin (sn_r1 h s q st rt nw) s e (nb_long (nb_j (h.1 4 s) q).2 q) st nw dl := if_pos c2
    show sd_E1 l y_X5_begin [v_r 6 s, v_l (nb_long ((sn_r1 h s q st rt nw).1 4 s) q), v_i st, v_i nw, v_i dl] (sn_r1 h s q st rt nw) _
    rw [e4]
    refine sp_begin (e := e) he (by omega) ?_
    rw [← e5]
    rcases h4 with h4 | h4
    · refine sp_play (e := e) h4 (by omega) ?_
      rw [evn_of h4 (by omega)] at k
      exact ⟨Or.inr rfl, k⟩
    · refine sp_play (e := e + 1) h4 (by omega) ?_
      rw [evn_of h4 (by omega)] at k
      exact ⟨Or.inr rfl, k⟩
def sn_clock (h : sd_H) (s : Nat) (m nw : Int32) : sd_H := sd_pi (sd_pi (sd_pi h 3 s 5 1) 3 s 6 m) 3 s 7 nw
theorem sp_keepClock {m nw : Int32} (k : Q none (sn_clock h s m nw)) : sd_E1 l y_X7_keepClock [v_r 3 s, v_i m, v_i nw] h Q := by
  refine sd_e1 [] 60 (cd := cd_X7_keepClock) (by decide) rfl (Nat.le_of_ble_eq_true rfl) ?_
  exact ⟨Or.inr rfl, k⟩
def sn_leave (h : sd_H) (s e : Nat) (nw : Int32) : sd_H := if h.1 3 s 4 = 0 then pl_note (pl_forget (sd_pi h 3 s 4 1) s) s e 7 0 nw else h
theorem sp_leave {e : Nat} {nw : Int32} (he : h.1 2 0 4 = nI e) (hb : e < 2 ^ 31) (k : Q none (sn_leave h s e nw)) : sd_E1 l y_X7_leave [v_r 3 s, v_i nw] h Q := by
  refine sd_e1 [] 60 (cd := cd_X7_leave) (by decide) rfl (Nat.le_of_ble_eq_true rfl) ?_
  unfold sn_leave at k
  refine ⟨fun c1 => ?_, fun c1 => ?_⟩
  · rw [if_neg c1] at k; exact k
  · rw [if_pos c1] at k
    refine ⟨Or.inr rfl, ?_⟩
    refine sp_forget ?_
    exact sp_note (e := e) (c := 7) (by decide) he hb k
def sn_fld (h : sd_H) (s : Nat) (w : Int32) : Int32 :=
  if w = 0 then h.1 3 s 0 else if w = 1 then h.1 4 s 0 else if w = 2 then h.1 4 s 1 else if w = 3 then h.1 4 s 2 else if w = 4 then h.1 4 s 3 else if w = 5 then h.1 4 s 4 else if w = 6 then h.1 4 s 5 else if w = 7 then h.1 5 s 0 else
  if w = 8 then (if h.1 4 s 4 = 0 then nb_due (h.1 4 s) else 0) else if w = 9 then (if h.1 4 s 4 = 0 then nb_lost (h.1 4 s) else 0) else if w = 10 then h.1 16 s 1 else if w = 11 then h.1 16 s 2 else if w = 12 then h.1 16 s 3 else if w = 13 then h.1 16 s 4 else if w = 14 then h.1 16 s 5 else if w = 15 then h.1 6 s 5 else if w = 16 then (if h.1 3 s 4 = 0 then 0 else 1) else -2147483648
theorem i_lt10 {w : Int32} (h1 : ¬ w < 10) (h2 : ¬ 14 < w) : w = 10 ∨ w = 11 ∨ w = 12 ∨ w = 13 ∨ w = 14 := by
  rw [Int32.lt_iff_toInt_lt] at h1 h2
  have h1 : ¬ w.toInt < 10 := h1
  have h2 : ¬ 14 < w.toInt := h2
  rcases (show w.toInt = 10 ∨ w.toInt = 11 ∨ w.toInt = 12 ∨ w.toInt = 13 ∨ w.toInt = 14 by omega) with q | q | q | q | q
  · exact Or.inl (Int32.toInt_inj.mp q)
  · exact Or.inr (Or.inl (Int32.toInt_inj.mp q))
  · exact Or.inr (Or.inr (Or.inl (Int32.toInt_inj.mp q)))
  · exact Or.inr (Or.inr (Or.inr (Or.inl (Int32.toInt_inj.mp q))))
  · exact Or.inr (Or.inr (Or.inr (Or.inr (Int32.toInt_inj.mp q))))
theorem sp_sfield {w : Int32} (k : Q (some (v_i (sn_fld h s w))) h) : sd_E1 l y_X7_field [v_r 3 s, v_i w] h Q := by
  refine sd_e1 [42] 60 (cd := cd_X7_field) (by decide) rfl (Nat.le_of_ble_eq_true rfl) ?_
  have rest : (w < 10 ∨ 14 < w) → ∀ b : Int32, ((b = 0 ∧ ¬ h.1 4 s 4 = 0) ∨ (b = 1 ∧ h.1 4 s 4 = 0)) → sd_Wq l none y_X7_field true Q 42 [some (v_r 3 s), some (v_i w), some (v_i b)] [] h 0 0 := by
    intro hw b hb
    refine sd_go [] 60 (cd := cd_X7_field) (by decide) rfl ?_
    unfold sn_fld at k
    refine ⟨fun (c : w = 0) => ?_, fun (c : ¬ w = 0) => ?_⟩
    · rw [if_pos c] at k; exact k
    rw [if_neg c] at k
    refine ⟨fun (c : w = 1) => ?_, fun (c : ¬ w = 1) => ?_⟩
    · rw [if_pos c] at k; exact k
    rw [if_neg c] at k
    refine ⟨fun (c : w = 2) => ?_, fun (c : ¬ w = 2) => ?_⟩
    · rw [if_pos c] at k; exact k
    rw [if_neg c] at k
    refine ⟨fun (c : w = 3) => ?_, fun (c : ¬ w = 3) => ?_⟩
    · rw [if_pos c] at k; exact k
    rw [if_neg c] at k
    refine ⟨fun (c : w = 4) => ?_, fun (c : ¬ w = 4) => ?_⟩
    · rw [if_pos c] at k; exact k
    rw [if_neg c] at k
    refine ⟨fun (c : w = 5) => ?_, fun (c : ¬ w = 5) => ?_⟩
    · rw [if_pos c] at k; exact k
    rw [if_neg c] at k
    refine ⟨fun (c : w = 6) => ?_, fun (c : ¬ w = 6) => ?_⟩
    · rw [if_pos c] at k; exact k
    rw [if_neg c] at k
    refine ⟨fun (c : w = 7) => ?_, fun (c : ¬ w = 7) => ?_⟩
    · rw [if_pos c] at k; exact k
    rw [if_neg c] at k
    refine ⟨fun (c : w = 8) => ?_, fun (c : ¬ w = 8) => ?_⟩
    · rw [if_pos c] at k
      rcases hb with ⟨rfl, hb⟩ | ⟨rfl, hb⟩
      · rw [if_neg hb] at k
        exact ⟨fun _ => k, fun c => absurd rfl c⟩
      · rw [if_pos hb] at k
        exact ⟨fun c => absurd c (by decide), fun _ => sp_due k⟩
    rw [if_neg c] at k
    refine ⟨fun (c : w = 9) => ?_, fun (c : ¬ w = 9) => ?_⟩
    · rw [if_pos c] at k
      rcases hb with ⟨rfl, hb⟩ | ⟨rfl, hb⟩
      · rw [if_neg hb] at k
        exact ⟨fun _ => k, fun c => absurd rfl c⟩
      · rw [if_pos hb] at k
        exact ⟨fun c => absurd c (by decide), fun _ => sp_lost k⟩
    rw [if_neg c] at k
    have no : ∀ z : Int32, (¬ z < 10 ∧ ¬ 14 < z) → w = z → False := fun z hz e => by
      subst e; rcases hw with q | q
      · exact hz.1 q
      · exact hz.2 q
    refine ⟨fun (c : w = 10) => (no 10 (by decide) c).elim, fun (c : ¬ w = 10) => ?_⟩
    rw [if_neg c] at k
    refine ⟨fun (c : w = 11) => (no 11 (by decide) c).elim, fun (c : ¬ w = 11) => ?_⟩
    rw [if_neg c] at k
    refine ⟨fun (c : w = 12) => (no 12 (by decide) c).elim, fun (c : ¬ w = 12) => ?_⟩
    rw [if_neg c] at k
    refine ⟨fun (c : w = 13) => (no 13 (by decide) c).elim, fun (c : ¬ w = 13) => ?_⟩
    rw [if_neg c] at k
    refine ⟨fun (c : w = 14) => (no 14 (by decide) c).elim, fun (c : ¬ w = 14) => ?_⟩
    rw [if_neg c] at k
    refine ⟨fun (c : w = 15) => ?_, fun (c : ¬ w = 15) => ?_⟩
    · rw [if_pos c] at k; exact k
    rw [if_neg c] at k
    refine ⟨fun (c : w = 16) => ?_, fun (c : ¬ w = 16) => ?_⟩
    · rw [if_pos c] at k
      refine ⟨fun c2 => ?_, fun c2 => ?_⟩
      · rw [if_pos c2] at k; exact k
      · rw [if_neg c2] at k; exact k
    rw [if_neg c] at k
    exact k
  have rest2 : (w < 10 ∨ 14 < w) → (¬ h.1 4 s 4 = 0 → sd_Wq l none y_X7_field true Q 42 [some (v_r 3 s), some (v_i w), some (v_i 0)] [] h 0 0) ∧ (h.1 4 s 4 = 0 → sd_Wq l none y_X7_field true Q 42 [some (v_r 3 s), some (v_i w), some (v_i 1)] [] h 0 0) :=
    fun hw => ⟨fun c => rest hw 0 (Or.inl ⟨rfl, c⟩), fun c => rest hw 1 (Or.inr ⟨rfl, c⟩)⟩
  refine ⟨fun c1 => rest2 (Or.inl c1), fun c1 => ?_⟩
  refine ⟨fun c2 => rest2 (Or.inr c2), fun c2 => ?_⟩
  rcases i_lt10 c1 c2 with rfl | rfl | rfl | rfl | rfl
  · exact sp_noted k
  · exact sp_noted k
  · exact sp_noted k
  · exact sp_noted k
  · exact sp_noted k
end SN
end
section
/-! append; the small methods of StreamDesk -/
def ab (v : Int64) (k : Nat) : Int32 := ((v.toUInt64 >>> (((8 : Int32) * nI k).toInt64.toUInt64 &&& Int64.toUInt64 63)).toInt64).toInt32 &&& 255
def pk_app (v : Int64) : Nat → sd_H → Nat → sd_H
  | 0, h, _ => h
  | n + 1, h, sz => pk_app v n (sd_pi (sd_pi h 11 0 sz (ab v n)) 1 0 1 (nI (sz + 1))) (sz + 1)
theorem i_m1 (x : Int32) : x + (-1) = x - 1 := (Int32.sub_eq_add_neg x 1).symm
section DK
variable {l : Launch} {Q : Option sd_V → sd_H → Prop}
theorem sq_append {v : Int64} {nn : Int32} : ∀ (m : Nat) (h : sd_H) (sz : Nat), h.1 1 0 1 = nI sz → sz + m ≤ 300 → Q none (pk_app v m h sz) → sd_Wq l none y_X4_append true Q 5 [some (v_r 1 0), some (v_l v), none, some (v_i nn), some (v_i (nI m - 1))] [] h 0 0
  | 0, h, sz, hsz, hle, k => by
    refine sd_go [5] 60 (cd := cd_X4_append) (by decide) rfl ?_
    exact ⟨fun _ => k, fun c => absurd (show nI 0 - 1 < 0 by decide) c⟩
  | m + 1, h, sz, hsz, hle, k => by
    refine sd_go [5] 60 (cd := cd_X4_append) (by decide) rfl ?_
    have em : nI (m + 1) - 1 = nI m := nI_pred m
    refine ⟨fun c => absurd c (by rw [em]; exact nI_pos (by omega)), fun _ => ?_⟩
    refine ⟨fun c => absurd c (by rw [hsz]; exact nI_pos (by omega)), fun _ => ?_⟩
    refine ⟨fun c => absurd c (by rw [hsz]; exact Int32.not_le.mpr (nI_lt (a := sz) (b := 300) (by omega) (by decide))), fun _ => ?_⟩
    refine ⟨sz, ⟨show sz < 300 by omega, hsz⟩, ?_⟩
    show sd_Wq l none y_X4_append true Q 5 [some (v_r 1 0), some (v_l v), none, some (v_i nn), some (v_i (nI (m + 1) - 1 + (-1)))] [] (sd_pi (sd_pi h 11 0 sz (((v.toUInt64 >>> (((8 : Int32) * (nI (m + 1) - 1)).toInt64.toUInt64 &&& Int64.toUInt64 63)).toInt64).toInt32 &&& 255)) 1 0 1 (h.1 1 0 1 + 1)) 0 0
    rw [em, i_m1, hsz, nI_1]
    exact sq_append m _ (sz + 1) rfl (by omega) k
variable {h : sd_H}
theorem sp_append {v : Int64} {m sz : Nat} (hsz : h.1 1 0 1 = nI sz) (hle : sz + m ≤ 300) (k : Q none (pk_app v m h sz)) : sd_E1 l y_X4_append [v_r 1 0, v_l v, v_i (nI m)] h Q := by
  refine sd_e1 [5] 60 (cd := cd_X4_append) (by decide) rfl (Nat.le_of_ble_eq_true rfl) ?_
  exact sq_append m h sz hsz hle k
theorem sp_replace {i v : Int32} (kn : ¬ (0 ≤ i ∧ i < h.1 1 0 1 ∧ i < 300) → Q none h) (ky : 0 ≤ i ∧ i < h.1 1 0 1 ∧ i < 300 → Q none (sd_pi h 11 0 i.toNatClampNeg (v &&& 255))) : sd_E1 l y_X4_replace [v_r 1 0, v_i i, v_i v] h Q := by
  refine sd_e1 [] 60 (cd := cd_X4_replace) (by decide) rfl (Nat.le_of_ble_eq_true rfl) ?_
  refine sp_has ?_
  by_cases c : 0 ≤ i ∧ i < h.1 1 0 1 ∧ i < 300
  · have e : pk_has h i = 1 := by unfold pk_has; rw [if_pos c]
    refine ⟨fun q => ?_, fun _ => ?_⟩
    · rw [e] at q; exact absurd q (by decide)
    · obtain ⟨i1, i2⟩ := i_ix (N := 300) (Int32.not_lt.mpr c.1) c.2.2 (by decide)
      exact ⟨_, ⟨i1, i2⟩, ky c⟩
  · have e : pk_has h i = 0 := by unfold pk_has; rw [if_neg c]
    refine ⟨fun _ => kn c, fun q => absurd e q⟩
/-- type: BAD, FULL or the bytes -/
theorem sp_type {v : Int64} {n : Int32} {sz : Nat} (hsz : h.1 1 0 1 = nI sz) (hs : sz ≤ 300) (kb : (n < 0 ∨ 8 < n) → Q (some (v_i (-2))) h) (kf : ∀ m : Nat, m ≤ 8 → n = nI m → 300 < sz + m → Q (some (v_i (-3))) h) (ky : ∀ m : Nat, m ≤ 8 → n = nI m → sz + m ≤ 300 → Q (some (v_i (nI (sz + m)))) (pk_app v m h sz)) : sd_E1 l y_X8_type [v_r 0 0, v_l v, v_i n] h Q := by
  refine sd_e1 [] 60 (cd := cd_X8_type) (by decide) rfl (Nat.le_of_ble_eq_true rfl) ?_
  refine ⟨fun c1 => kb (Or.inl c1), fun c1 => ?_⟩
  refine ⟨fun c2 => ?_, fun c2 => kb (Or.inr (i_nle c2))⟩
  obtain ⟨m, hm, rfl⟩ := nI_of2 (M := 8) (n := 8) rfl c1 c2
  refine ⟨fun c3 => ?_, fun c3 => ?_⟩
  · rw [hsz, nI_add] at c3
    have c3 := (nI_leI (a := sz + m) (b := 300) (by omega) (by decide)).mp c3
    refine sp_append hsz c3 ?_
    have e : ∀ (m : Nat) (h : sd_H) (sz : Nat), h.1 1 0 1 = nI sz → (pk_app v m h sz).1 1 0 1 = nI (sz + m) := by
      intro m
      induction m with
      | zero => intro h sz hz; exact hz
      | succ m ih => intro h sz hz; rw [show sz + (m + 1) = sz + 1 + m by omega]; exact ih _ _ rfl
    show Q (some (v_i ((pk_app v m h sz).1 1 0 1))) (pk_app v m h sz)
    rw [e m h sz hsz]
    exact ky m hm rfl c3
  · rw [hsz, nI_add] at c3
    have c3 : ¬ sz + m ≤ 300 := fun q => c3 ((nI_leI (a := sz + m) (b := 300) (by omega) (by decide)).mpr q)
    exact kf m hm rfl (by omega)
theorem sp_clear (k : Q (some (v_i (h.1 1 0 1))) (sd_pi h 1 0 1 0)) : sd_E1 l y_X8_clear [v_r 0 0] h Q := by
  refine sd_e1 [] 60 (cd := cd_X8_clear) (by decide) rfl (Nat.le_of_ble_eq_true rfl) ?_
  exact k
theorem sp_at {i : Int32} (kn : ¬ (0 ≤ i ∧ i < h.1 1 0 1 ∧ i < 300) → Q (some (v_i (-2))) h) (ky : 0 ≤ i ∧ i < h.1 1 0 1 ∧ i < 300 → Q (some (v_i (h.1 11 0 i.toNatClampNeg))) h) : sd_E1 l y_X8_at [v_r 0 0, v_i i] h Q := by
  refine sd_e1 [] 60 (cd := cd_X8_at) (by decide) rfl (Nat.le_of_ble_eq_true rfl) ?_
  refine sp_has ?_
  by_cases c : 0 ≤ i ∧ i < h.1 1 0 1 ∧ i < 300
  · have e : pk_has h i = 1 := by unfold pk_has; rw [if_pos c]
    refine ⟨fun q => ?_, fun _ => ?_⟩
    · rw [e] at q; exact absurd q (by decide)
    · refine sp_byteAt ?_
      have eb : pk_b h i = h.1 11 0 i.toNatClampNeg := by unfold pk_b; rw [if_pos c]
      show Q (some (v_i (pk_b h i))) h
      rw [eb]; exact ky c
  · have e : pk_has h i = 0 := by unfold pk_has; rw [if_neg c]
    exact ⟨fun _ => kn c, fun q => absurd e q⟩
theorem sp_alter {i v : Int32} (kn : ¬ ((0 ≤ i ∧ i < h.1 1 0 1 ∧ i < 300) ∧ 0 ≤ v ∧ v ≤ 255) → Q (some (v_i (-2))) h) (ky : (0 ≤ i ∧ i < h.1 1 0 1 ∧ i < 300) ∧ 0 ≤ v ∧ v ≤ 255 → Q (some (v_i (h.1 11 0 i.toNatClampNeg))) (sd_pi h 11 0 i.toNatClampNeg (v &&& 255))) : sd_E1 l y_X8_alter [v_r 0 0, v_i i, v_i v] h Q := by
  refine sd_e1 [] 60 (cd := cd_X8_alter) (by decide) rfl (Nat.le_of_ble_eq_true rfl) ?_
  refine sp_has ?_
  by_cases c : 0 ≤ i ∧ i < h.1 1 0 1 ∧ i < 300
  · have e : pk_has h i = 1 := by unfold pk_has; rw [if_pos c]
    refine ⟨fun q => ?_, fun _ => ?_⟩
    · rw [e] at q; exact absurd q (by decide)
    · refine ⟨fun c1 => kn fun q => absurd c1 (Int32.not_lt.mpr q.2.1), fun c1 => ?_⟩
      refine ⟨fun c2 => ?_, fun c2 => kn fun q => c2 q.2.2⟩
      refine sp_byteAt ?_
      have eb : pk_b h i = h.1 11 0 i.toNatClampNeg := by unfold pk_b; rw [if_pos c]
      refine sp_replace (fun q => absurd c q) (fun _ => ?_)
      show Q (some (v_i (pk_b h i))) _
      rw [eb]; exact ky ⟨c, i_nlt c1, c2⟩
  · have e : pk_has h i = 0 := by unfold pk_has; rw [if_neg c]
    exact ⟨fun _ => kn fun q => c q.1, fun q => absurd e q⟩
theorem sp_rate {i v : Int32} (kn : ¬ (0 ≤ i ∧ i < 128 ∧ 0 ≤ v ∧ v ≤ 200000) → Q (some (v_i (-2))) h) (ky : 0 ≤ i ∧ i < 128 ∧ 0 ≤ v ∧ v ≤ 200000 → Q (some (v_i (h.1 8 0 i.toNatClampNeg))) (sd_pi h 8 0 i.toNatClampNeg v)) : sd_E1 l y_X8_rate [v_r 0 0, v_i i, v_i v] h Q := by
  refine sd_e1 [] 60 (cd := cd_X8_rate) (by decide) rfl (Nat.le_of_ble_eq_true rfl) ?_
  refine ⟨fun c1 => kn fun q => absurd c1 (Int32.not_lt.mpr q.1), fun c1 => ?_⟩
  refine ⟨fun c2 => kn fun q => absurd c2 (Int32.not_le.mpr q.2.1), fun c2 => ?_⟩
  refine ⟨fun c3 => kn fun q => absurd c3 (Int32.not_lt.mpr q.2.2.1), fun c3 => ?_⟩
  refine ⟨fun c4 => ?_, fun c4 => kn fun q => c4 q.2.2.2⟩
  obtain ⟨i1, i2⟩ := i_ix (N := 128) c1 (i_nle c2) (by decide)
  refine ⟨_, ⟨i1, i2⟩, ?_⟩
  refine ⟨_, ⟨i1, i2⟩, ?_⟩
  exact ky ⟨i_nlt c1, i_nle c2, i_nlt c3, c4⟩
theorem sp_delay {v : Int32} (kn : ¬ (0 ≤ v ∧ v ≤ 5000) → Q (some (v_i (-2))) h) (ky : 0 ≤ v ∧ v ≤ 5000 → Q (some (v_i (h.1 0 0 7))) (sd_pi h 0 0 7 v)) : sd_E1 l y_X8_delay [v_r 0 0, v_i v] h Q := by
  refine sd_e1 [] 60 (cd := cd_X8_delay) (by decide) rfl (Nat.le_of_ble_eq_true rfl) ?_
  refine ⟨fun c1 => kn fun q => absurd c1 (Int32.not_lt.mpr q.1), fun c1 => ?_⟩
  refine ⟨fun c2 => ky ⟨i_nlt c1, c2⟩, fun c2 => kn fun q => c2 q.2⟩
theorem sp_rateOf {i : Int32} (k : Q (some (v_i (if i < 0 then 0 else if 128 ≤ i then 0 else h.1 8 0 i.toNatClampNeg))) h) : sd_E1 l y_X8_rateOf [v_r 0 0, v_i i] h Q := by
  refine sd_e1 [] 60 (cd := cd_X8_rateOf) (by decide) rfl (Nat.le_of_ble_eq_true rfl) ?_
  refine ⟨fun c1 => ?_, fun c1 => ?_⟩
  · rw [if_pos c1] at k; exact k
  rw [if_neg c1] at k
  refine ⟨fun c2 => ?_, fun c2 => ?_⟩
  · rw [if_pos c2] at k; exact k
  rw [if_neg c2] at k
  obtain ⟨i1, i2⟩ := i_ix (N := 128) c1 (i_nle c2) (by decide)
  exact ⟨_, ⟨i1, i2⟩, k⟩
theorem sp_heard {w : Int32} (k : Q (some (v_i (if w < 0 then -2 else if 7 ≤ w then -2 else h.1 10 0 w.toNatClampNeg))) h) : sd_E1 l y_X8_heard [v_r 0 0, v_i w] h Q := by
  refine sd_e1 [] 60 (cd := cd_X8_heard) (by decide) rfl (Nat.le_of_ble_eq_true rfl) ?_
  refine ⟨fun c1 => ?_, fun c1 => ?_⟩
  · rw [if_pos c1] at k; exact k
  rw [if_neg c1] at k
  refine ⟨fun c2 => ?_, fun c2 => ?_⟩
  rotate_left
  · have c2 : 7 ≤ w := i_nlt c2
    rw [if_pos c2] at k; exact k
  have c2 : w < 7 := c2
  rw [if_neg (Int32.not_le.mpr c2)] at k
  obtain ⟨i1, i2⟩ := i_ix (N := 7) c1 c2 (by decide)
  exact ⟨_, ⟨i1, i2⟩, k⟩
def dk_count (h : sd_H) (w : Int32) : Int32 := if w = 0 then h.1 1 0 1 else if w = 1 then h.1 0 0 5 else if w = 2 then h.1 0 0 6 else if w = 3 then h.1 2 0 4 else if w = 4 then h.1 0 0 8 else if w = 5 then h.1 0 0 9 else if w = 6 then h.1 0 0 10 else if w = 7 then h.1 0 0 11 else if w = 8 then h.1 0 0 7 else -2
theorem sp_count {w : Int32} (k : Q (some (v_i (dk_count h w))) h) : sd_E1 l y_X8_count [v_r 0 0, v_i w] h Q := by
  refine sd_e1 [] 60 (cd := cd_X8_count) (by decide) rfl (Nat.le_of_ble_eq_true rfl) ?_
  unfold dk_count at k
  refine ⟨fun (c : w = 0) => ?_, fun (c : ¬ w = 0) => ?_⟩
  · rw [if_pos c] at k; exact k
  rw [if_neg c] at k
  refine ⟨fun (c : w = 1) => ?_, fun (c : ¬ w = 1) => ?_⟩
  · rw [if_pos c] at k; exact k
  rw [if_neg c] at k
  refine ⟨fun (c : w = 2) => ?_, fun (c : ¬ w = 2) => ?_⟩
  · rw [if_pos c] at k; exact k
  rw [if_neg c] at k
  refine ⟨fun (c : w = 3) => ?_, fun (c : ¬ w = 3) => ?_⟩
  · rw [if_pos c] at k; exact k
  rw [if_neg c] at k
  refine ⟨fun (c : w = 4) => ?_, fun (c : ¬ w = 4) => ?_⟩
  · rw [if_pos c] at k; exact k
  rw [if_neg c] at k
  refine ⟨fun (c : w = 5) => ?_, fun (c : ¬ w = 5) => ?_⟩
  · rw [if_pos c] at k; exact k
  rw [if_neg c] at k
  refine ⟨fun (c : w = 6) => ?_, fun (c : ¬ w = 6) => ?_⟩
  · rw [if_pos c] at k; exact k
  rw [if_neg c] at k
  refine ⟨fun (c : w = 7) => ?_, fun (c : ¬ w = 7) => ?_⟩
  · rw [if_pos c] at k; exact k
  rw [if_neg c] at k
  refine ⟨fun (c : w = 8) => ?_, fun (c : ¬ w = 8) => ?_⟩
  · rw [if_pos c] at k; exact k
  rw [if_neg c] at k
  exact k
end DK
end
section
/-! StreamDesk and its senders -/
def SN (h : sd_H) (sn : Nat) : Prop := h.1 0 0 5 = nI sn ∧ sn ≤ 6 ∧ ∀ s, s < sn → h.2.2.1 9 0 s = some s
abbrev v_n : sd_V := .inr (.inr (0, none))
def v_o (o : Option Nat) : sd_V := match o with
  | some s => v_r 3 s
  | none => v_n
def dk_find (h : sd_H) (b : Int32) : Nat → Nat → Option Nat
  | _, 0 => none
  | i, n + 1 => if h.1 3 i 0 = b then some i else dk_find h b (i + 1) n
section DS
variable {l : Launch} {h : sd_H} {Q : Option sd_V → sd_H → Prop} {sn : Nat}
theorem sp_num {i : Int32} (hN : SN h sn) (kn : (i < 0 ∨ nI sn ≤ i) → Q (some v_n) h) (ky : ∀ s, s < sn → i = nI s → Q (some (v_r 3 s)) h) : sd_E1 l y_X8_senderNumbered [v_r 0 0, v_i i] h Q := by
  obtain ⟨n1, n2, n3⟩ := hN
  refine sd_e1 [] 60 (cd := cd_X8_senderNumbered) (by decide) rfl (Nat.le_of_ble_eq_true rfl) ?_
  refine ⟨fun c1 => kn (Or.inl c1), fun c1 => ?_⟩
  refine ⟨fun c2 => kn (Or.inr (by rw [← n1]; exact c2)), fun c2 => ?_⟩
  have c2 : ¬ nI sn ≤ i := by rw [← n1]; exact c2
  obtain ⟨j, hj, rfl⟩ := nI_of c1
  have hlt : j < sn := by
    rcases Nat.lt_or_ge j sn with q | q
    · exact q
    · exact absurd (nI_le q hj) c2
  refine ⟨fun c3 => absurd c3 (Int32.not_le.mpr (nI_lt (a := j) (b := 6) (by omega) (by decide))), fun _ => ?_⟩
  refine ⟨j, ⟨show j < 6 by omega, rfl⟩, ?_⟩
  show Q (some (.inr (.inr (3, h.2.2.1 9 0 j)))) h
  rw [n3 j hlt]
  exact ky j hlt rfl
theorem dk_find_lt {b : Int32} : ∀ (n i s : Nat), dk_find h b i n = some s → i ≤ s ∧ s < i + n ∧ h.1 3 s 0 = b
  | 0, _, _, q => by cases q
  | n + 1, i, s, q => by
    unfold dk_find at q
    split at q
    · next e => cases q; exact ⟨Nat.le_refl _, by omega, e⟩
    · obtain ⟨a1, a2, a3⟩ := dk_find_lt n (i + 1) s q
      exact ⟨by omega, by omega, a3⟩
theorem sq_with {b : Int32} (hN : SN h sn) : ∀ (n : Nat), n ≤ 6 → ∀ (j3 : Option sd_V), Q (some (v_o (dk_find h b (6 - n) (sn - (6 - n))))) h → sd_Wq l none y_X8_senderWith true Q 2 [some (v_r 0 0), some (v_i b), some (v_i (nI (6 - n))), j3] [] h 0 0
  | 0, _, j3, k => by
    refine sd_go [2] 60 (cd := cd_X8_senderWith) (by decide) rfl ?_
    refine ⟨fun _ => ?_, fun c => absurd (show (6 : Int32) ≤ nI 6 by decide) c⟩
    have e : sn - (6 - 0) = 0 := by have := hN.2.1; omega
    rw [e] at k
    exact k
  | n + 1, hn, j3, k => by
    refine sd_go [2] 60 (cd := cd_X8_senderWith) (by decide) rfl ?_
    refine ⟨fun c => absurd c ?_, fun _ => ?_⟩
    · exact Int32.not_le.mpr (nI_lt (a := 6 - (n + 1)) (b := 6) (by omega) (by decide))
    have nxt : Q (some (v_o (dk_find h b (6 - n) (sn - (6 - n))))) h → ∀ j, sd_Wq l none y_X8_senderWith true Q 2 [some (v_r 0 0), some (v_i b), some (v_i (nI (6 - (n + 1)) + 1)), j] [] h 0 0 := by
      intro k j
      rw [nI_1, show 6 - (n + 1) + 1 = 6 - n by omega]
      exact sq_with hN n (by omega) j k
    refine sp_num hN (fun c => ?_) (fun s hs e => ?_)
    · have hge : sn ≤ 6 - (n + 1) := by
        rcases c with c | c
        · exact absurd c (nI_pos (by omega))
        · exact (nI_leI (by have := hN.2.1; omega) (by omega)).mp c
      have e1 : sn - (6 - (n + 1)) = 0 := by omega
      have e2 : sn - (6 - n) = 0 := by omega
      rw [e1] at k
      refine ⟨fun _ => nxt ?_ _, fun n' c => by cases c⟩
      rw [e2]; exact k
    · have es : 6 - (n + 1) = s := (nI_eq (by omega) (by have := hN.2.1; omega)).mp e
      have e1 : sn - (6 - (n + 1)) = (sn - (6 - n)) + 1 := by omega
      rw [e1] at k
      unfold dk_find at k
      rw [es] at k
      refine ⟨fun c => (by cases c), fun n' _ => ?_⟩
      refine ⟨fun c3 => ?_, fun c3 => ?_⟩
      · rw [if_neg c3, show s + 1 = 6 - n by omega] at k
        exact nxt k _
      · rw [if_pos c3] at k
        exact k
theorem sp_with {b : Int32} (hN : SN h sn) (k : Q (some (v_o (dk_find h b 0 sn))) h) : sd_E1 l y_X8_senderWith [v_r 0 0, v_i b] h Q := by
  refine sd_e1 [2] 60 (cd := cd_X8_senderWith) (by decide) rfl (Nat.le_of_ble_eq_true rfl) ?_
  exact sq_with hN 6 (Nat.le_refl _) _ k
def dk_rt (h : sd_H) : Int32 := if df_sort h < 0 then 0 else if 128 ≤ df_sort h then 0 else h.1 8 0 (df_sort h).toNatClampNeg
def dk_fault (h : sd_H) (sn : Nat) : Int32 := if df_shape h = 0 then (if dk_rt h = 0 then 6 else if sn < 6 then 0 else if dk_find h (pk_4 h 8) 0 sn = none then 7 else 0) else df_shape h
theorem sp_dataFault (hN : SN h sn) (k : Q (some (v_i (dk_fault h sn))) h) : sd_E1 l y_X8_dataFault [v_r 0 0] h Q := by
  refine sd_e1 [] 80 (cd := cd_X8_dataFault) (by decide) rfl (Nat.le_of_ble_eq_true rfl) ?_
  refine sp_shapeFault ?_
  unfold dk_fault at k
  refine ⟨fun c1 => ?_, fun c1 => ?_⟩
  rotate_left
  · rw [if_neg c1] at k; exact k
  rw [if_pos c1] at k
  refine sp_dsort ?_
  refine sp_rateOf ?_
  refine ⟨fun (c2 : ¬ dk_rt h = 0) => ?_, fun (c2 : dk_rt h = 0) => ?_⟩
  rotate_left
  · rw [if_pos c2] at k; exact k
  rw [if_neg c2] at k
  have hi : h.1 0 0 5 < 6 ↔ sn < 6 := by
    rw [hN.1]
    exact nI_ltI (b := 6) (by have := hN.2.1; omega) (by decide)
  refine ⟨fun c3 => ?_, fun c3 => ?_⟩
  · rw [if_pos (hi.mp c3)] at k
    exact ⟨fun _ => k, fun c => absurd rfl c⟩
  · rw [if_neg (fun q => c3 (hi.mpr q))] at k
    refine ⟨fun c => absurd c (by decide), fun _ => ?_⟩
    refine sp_source ?_
    refine sp_with hN ?_
    cases hf : dk_find h (pk_4 h 8) 0 sn with
    | none =>
      rw [hf] at k
      exact ⟨fun n c => (by cases c), fun _ => k⟩
    | some s =>
      rw [hf, if_neg (by simp)] at k
      exact ⟨fun n c => k, fun c => (by cases c)⟩
theorem sp_data {w : Int32} (hN : SN h sn) (k : Q (some (v_i (if w < 0 then -2 else if w ≤ 9 then (if w = 0 then dk_fault h sn else if df_shape h = 0 then df_field h w else 0) else -2))) h) : sd_E1 l y_X8_data [v_r 0 0, v_i w] h Q := by
  refine sd_e1 [] 80 (cd := cd_X8_data) (by decide) rfl (Nat.le_of_ble_eq_true rfl) ?_
  refine ⟨fun c1 => ?_, fun c1 => ?_⟩
  · rw [if_pos c1] at k; exact k
  rw [if_neg c1] at k
  refine ⟨fun c2 => ?_, fun c2 => ?_⟩
  rotate_left
  · rw [if_neg c2] at k; exact k
  rw [if_pos c2] at k
  refine ⟨fun c3 => ?_, fun c3 => ?_⟩
  rotate_left
  · rw [if_pos c3] at k; exact sp_dataFault hN k
  rw [if_neg c3] at k
  refine sp_shapeFault ?_
  refine ⟨fun c4 => ?_, fun c4 => ?_⟩
  · rw [if_pos c4] at k; exact sp_dfield k
  · rw [if_neg c4] at k; exact k
theorem sp_sender {i w : Int32} (hN : SN h sn) (kn : (i < 0 ∨ nI sn ≤ i) → Q (some (v_i (-2147483648))) h) (ky : ∀ s, s < sn → i = nI s → Q (some (v_i (sn_fld h s w))) h) : sd_E1 l y_X8_sender [v_r 0 0, v_i i, v_i w] h Q := by
  refine sd_e1 [] 80 (cd := cd_X8_sender) (by decide) rfl (Nat.le_of_ble_eq_true rfl) ?_
  have no : ∀ s, (w < 0 ∨ 16 < w) → sn_fld h s w = -2147483648 := by
    intro s hw
    have ne : ∀ z : Int32, (¬ z < 0 ∧ ¬ 16 < z) → ¬ w = z := fun z hz e => by
      subst e; rcases hw with q | q
      · exact hz.1 q
      · exact hz.2 q
    unfold sn_fld
    rw [if_neg (ne 0 (by decide)), if_neg (ne 1 (by decide)), if_neg (ne 2 (by decide)), if_neg (ne 3 (by decide)), if_neg (ne 4 (by decide)), if_neg (ne 5 (by decide)), if_neg (ne 6 (by decide)), if_neg (ne 7 (by decide)), if_neg (ne 8 (by decide)), if_neg (ne 9 (by decide)), if_neg (ne 10 (by decide)), if_neg (ne 11 (by decide)), if_neg (ne 12 (by decide)), if_neg (ne 13 (by decide)), if_neg (ne 14 (by decide)), if_neg (ne 15 (by decide)), if_neg (ne 16 (by decide))]
  refine sp_num hN (fun c => ?_) (fun s hs e => ?_)
  · exact ⟨fun _ => kn c, fun n q => by cases q⟩
  · have ky := ky s hs e
    refine ⟨fun q => (by cases q), fun n _ => ?_⟩
    refine ⟨fun c1 => ?_, fun c1 => ?_⟩
    · rw [no s (Or.inl c1)] at ky; exact ky
    · refine ⟨fun c2 => ?_, fun c2 => ?_⟩
      · exact sp_sfield ky
      · rw [no s (Or.inr (i_nle c2))] at ky; exact ky
theorem sp_next {i : Int32} (hN : SN h sn) (kn : (i < 0 ∨ nI sn ≤ i) → Q (some (v_l 0)) h) (ky : ∀ s, s < sn → i = nI s → Q (some (v_l (h.2.1 6 s 6))) h) : sd_E1 l y_X8_next [v_r 0 0, v_i i] h Q := by
  refine sd_e1 [] 80 (cd := cd_X8_next) (by decide) rfl (Nat.le_of_ble_eq_true rfl) ?_
  refine sp_num hN (fun c => ?_) (fun s hs e => ?_)
  · exact ⟨fun n q => (by cases q), fun _ => kn c⟩
  · exact ⟨fun n _ => ky s hs e, fun q => (by cases q)⟩
theorem sp_time {i : Int32} {n : Int64} (hN : SN h sn) (kn : (i < 0 ∨ nI sn ≤ i) → Q (some (v_l (-2))) h) (ky : ∀ s, s < sn → i = nI s → Q (some (v_l (if pl_waits h s n = 0 then -1 else h.2.1 17 s (sl n)))) h) : sd_E1 l y_X8_time [v_r 0 0, v_i i, v_l n] h Q := by
  refine sd_e1 [] 80 (cd := cd_X8_time) (by decide) rfl (Nat.le_of_ble_eq_true rfl) ?_
  refine sp_num hN (fun c => ?_) (fun s hs e => ?_)
  · exact ⟨fun n q => (by cases q), fun _ => kn c⟩
  · have ky := ky s hs e
    refine ⟨fun n' _ => ?_, fun q => (by cases q)⟩
    refine sp_waits ?_
    refine ⟨fun c1 => ?_, fun c1 => ?_⟩
    · rw [if_pos c1] at ky; exact ky
    · rw [if_neg c1] at ky
      exact sp_timeOf ky
theorem sp_event {i w : Int32} {e : Nat} (he : h.1 2 0 4 = nI e) (hb : e < 2 ^ 30) (kn : (i < 0 ∨ 64 ≤ i ∨ nI e ≤ i) → Q (some (v_l (-1))) h) (kb : ∀ i0, i0 < 64 → i0 < e → i = nI i0 → (w < 0 ∨ 3 < w) → Q (some (v_l (-2))) h) (ky : ∀ i0, i0 < 64 → i0 < e → i = nI i0 → 0 ≤ w → w ≤ 3 → Q (some (v_l (ev_fld h ((e - 1 - i0) % 64) w))) h) : sd_E1 l y_X8_event [v_r 0 0, v_i i, v_i w] h Q := by
  refine sd_e1 [] 80 (cd := cd_X8_event) (by decide) rfl (Nat.le_of_ble_eq_true rfl) ?_
  refine sp_keeps ?_
  have bad : ev_keeps h i = 0 → (i < 0 ∨ 64 ≤ i ∨ nI e ≤ i) := by
    intro q
    unfold ev_keeps at q
    split at q
    · next c => exact Or.inl c
    · split at q
      · next c => exact Or.inr (Or.inl c)
      · split at q
        · next c => rw [he] at c; exact Or.inr (Or.inr c)
        · exact absurd q (by decide)
  have good : ¬ ev_keeps h i = 0 → ∃ i0, i0 < 64 ∧ i0 < e ∧ i = nI i0 := by
    intro q
    unfold ev_keeps at q
    split at q
    · exact absurd rfl q
    · next c1 =>
      split at q
      · exact absurd rfl q
      · next c2 =>
        split at q
        · exact absurd rfl q
        · next c3 =>
          obtain ⟨j, hj, rfl⟩ := nI_of c1
          rw [he] at c3
          exact ⟨j, (nI_ltI hj (by decide)).mp (i_nle c2), (nI_ltI hj (by omega)).mp (i_nle c3), rfl⟩
  refine ⟨fun c1 => ?_, fun c1 => kn (bad c1)⟩
  obtain ⟨i0, h1, h2, h3⟩ := good c1
  refine ⟨fun c2 => kb i0 h1 h2 h3 (Or.inl c2), fun c2 => ?_⟩
  refine ⟨fun c3 => ?_, fun c3 => kb i0 h1 h2 h3 (Or.inr (i_nle c3))⟩
  exact sp_efield he hb h3 h2 (ky i0 h1 h2 h3 (i_nlt c2) c3)
theorem sp_reported {i : Int32} (hN : SN h sn) (kn : ((i < 0 ∨ nI sn ≤ i) ∨ ∃ s, s < sn ∧ i = nI s ∧ ¬ (h.1 4 s 4 = 0 ∧ h.1 3 s 4 = 0)) → Q (some v_n) h) (ky : ∀ s, s < sn → i = nI s → h.1 4 s 4 = 0 → h.1 3 s 4 = 0 → Q (some (v_r 3 s)) h) : sd_E1 l y_X8_senderReported [v_r 0 0, v_i i] h Q := by
  refine sd_e1 [] 80 (cd := cd_X8_senderReported) (by decide) rfl (Nat.le_of_ble_eq_true rfl) ?_
  refine sp_num hN (fun c => ?_) (fun s hs e => ?_)
  · exact ⟨fun _ => kn (Or.inl c), fun n q => (by cases q)⟩
  · refine ⟨fun q => (by cases q), fun n _ => ?_⟩
    refine ⟨fun c1 => kn (Or.inr ⟨s, hs, e, fun q => c1 q.1⟩), fun c1 => ?_⟩
    exact ⟨fun c2 => kn (Or.inr ⟨s, hs, e, fun q => c2 q.2⟩), fun c2 => ky s hs e c1 c2⟩
end DS
end
section
/-! StreamDesk: pass, keepBlock, hearClock, hearBlocks, hearLeaving, hearPart, hear -/
theorem sd_SN_of {h h' : sd_H} {sn : Nat} (hN : SN h sn) (e1 : h'.1 0 0 5 = h.1 0 0 5) (e2 : h'.2.2.1 = h.2.2.1) : SN h' sn := ⟨e1.trans hN.1, hN.2.1, fun s hs => by rw [e2]; exact hN.2.2 s hs⟩
/-- what playing leaves alone: all references and counts, all of the tags that aren't the log's, a player's or its rows' -/
def pfr (h h' : sd_H) : Prop := h'.2.2 = h.2.2 ∧ ∀ T, T ≠ 2 → T ≠ 6 → T ≠ 12 → T ≠ 13 → T ≠ 15 → T ≠ 16 → T ≠ 18 → h'.1 T = h.1 T
theorem pfr.rf (h : sd_H) : pfr h h := ⟨rfl, fun _ _ _ _ _ _ _ _ => rfl⟩
theorem pfr.tr {a b c : sd_H} (x : pfr a b) (z : pfr b c) : pfr a c := ⟨z.1.trans x.1, fun T h1 h2 h3 h4 h5 h6 h7 => (z.2 T h1 h2 h3 h4 h5 h6 h7).trans (x.2 T h1 h2 h3 h4 h5 h6 h7)⟩
theorem sd_pi_T {h : sd_H} {T k i : Nat} {v : Int32} {T' : Nat} (hn : T' ≠ T) : (sd_pi h T k i v).1 T' = h.1 T' := by
  unfold sd_pi; dsimp only; rw [if_neg hn]
theorem sd_ri_T {h : sd_H} {T k : Nat} {g : Nat → Int32} {T' : Nat} (hn : T' ≠ T) : (sd_ri h T k g).1 T' = h.1 T' := by
  unfold sd_ri; dsimp only; rw [if_neg hn]
theorem pfr_note {h : sd_H} {s e c : Nat} {n : Int64} {nw : Int32} : pfr h (pl_note h s e c n nw) := by
  refine ⟨rfl, fun T h1 h2 h3 h4 h5 h6 h7 => ?_⟩
  unfold pl_note ev_add
  rw [sd_pi_T h1, sd_pi_T h5]
  show (sd_pi (sd_pi (sd_pi h 16 s c (h.1 16 s c + 1)) 12 0 (e % 64) (nI c)) 13 0 (e % 64) (h.1 6 s 1)).1 T = h.1 T
  rw [sd_pi_T h4, sd_pi_T h3, sd_pi_T h6]
theorem pfr_step {h : sd_H} {s e c : Nat} {nw : Int32} : pfr h (pl_step h s e c nw) := by
  have a1 : pfr h (sd_pi (sd_pi h 6 s 5 (h.1 6 s 5 - if h.1 18 s (sl (h.2.1 6 s 6)) = 0 then 0 else 1)) 18 s (sl (h.2.1 6 s 6)) 0) := by
    refine ⟨rfl, fun T h1 h2 h3 h4 h5 h6 h7 => ?_⟩
    rw [sd_pi_T h7, sd_pi_T h2]
  have a2 := pfr.tr a1 (pfr_note (s := s) (e := e) (c := c) (n := h.2.1 6 s 6) (nw := nw))
  exact ⟨a2.1, a2.2⟩
theorem pfr_steps {s : Nat} {nw : Int32} : ∀ (n : Nat) (h : sd_H) (e : Nat), pfr h (pl_steps s nw n h e)
  | 0, h, _ => pfr.rf h
  | n + 1, h, e => pfr.tr pfr_step (pfr_steps n (pl_step h s e 2 nw) (e + 1))
theorem pfr_turn {h : sd_H} {s e g : Nat} {nw : Int32} : pfr h (pl_turn h s e nw g) := pfr.tr (pfr_steps g h e) pfr_step
theorem pfr_play {s : Nat} {nw : Int32} : ∀ (n : Nat) (h : sd_H) (e : Nat) (d : Int32), pfr h (pl_play s nw n h e d).2.1
  | 0, h, _, _ => pfr.rf h
  | n + 1, h, e, d => by
    unfold pl_play
    split
    · exact pfr.rf h
    · split
      · exact pfr.rf h
      · exact pfr.tr pfr_turn (pfr_play n _ _ _)
theorem pl_play_e {s : Nat} {nw : Int32} : ∀ (n : Nat) (h : sd_H) (e : Nat) (d : Int32), h.1 2 0 4 = nI e → (pl_play s nw n h e d).2.1.1 2 0 4 = nI (pl_play s nw n h e d).2.2 ∧ e ≤ (pl_play s nw n h e d).2.2 ∧ (pl_play s nw n h e d).2.2 ≤ e + 33 * n
  | 0, h, e, d, he => ⟨he, Nat.le_refl _, Nat.le_refl _⟩
  | n + 1, h, e, d, he => by
    unfold pl_play
    split
    · exact ⟨he, Nat.le_refl _, Nat.le_add_right _ _⟩
    · split
      · exact ⟨he, Nat.le_refl _, Nat.le_add_right _ _⟩
      · have hg := pl_gap_le (h := h) (s := s) (nw := nw) 32 (Nat.le_refl _)
        obtain ⟨a1, a2, a3⟩ := pl_play_e (s := s) (nw := nw) n (pl_turn h s e nw (pl_gap h s nw 32)) (e + pl_gap h s nw 32 + 1) (d + (nI (pl_gap h s nw 32) + 1)) pl_step_e
        exact ⟨a1, by omega, by omega⟩
/-- all senders from i on play -/
def dk_pass (nw : Int32) : Nat → Nat → sd_H → Nat → Int32 → Int32 × sd_H × Nat
  | _, 0, h, e, d => (d, h, e)
  | i, n + 1, h, e, d => dk_pass nw (i + 1) n (pl_play i nw 32 h e 0).2.1 (pl_play i nw 32 h e 0).2.2 (d + (pl_play i nw 32 h e 0).1)
section D2
variable {l : Launch} {Q : Option sd_V → sd_H → Prop} {sn : Nat}
set_option maxRecDepth 100000 in
theorem sq_pass {ms nw : Int32} : ∀ (n : Nat) (h : sd_H) (e : Nat) (d : Int32) (j4 : Option sd_V), n ≤ 6 → SN h sn → h.1 0 0 6 = nw → h.1 2 0 4 = nI e → e + 2000 * (n + 1) < 2 ^ 31 → Q (some (v_i (dk_pass nw (6 - n) (sn - (6 - n)) h e d).1)) (dk_pass nw (6 - n) (sn - (6 - n)) h e d).2.1 → sd_Wq l none y_X8_pass true Q 42 [some (v_r 0 0), some (v_i ms), some (v_i d), some (v_i (nI (6 - n))), j4] [] h 0 0
  | 0, h, e, d, j4, hn, hN, hnw, he, hb, k => by
    refine sd_go [42] 60 (cd := cd_X8_pass) (by decide) rfl ?_
    refine ⟨fun _ => ?_, fun c => absurd (show (6 : Int32) ≤ nI 6 by decide) c⟩
    have e0 : sn - (6 - 0) = 0 := by have := hN.2.1; omega
    rw [e0] at k
    exact k
  | n + 1, h, e, d, j4, hn, hN, hnw, he, hb, k => by
    refine sd_go [42] 60 (cd := cd_X8_pass) (by decide) rfl ?_
    refine ⟨fun c => absurd c ?_, fun _ => ?_⟩
    · exact Int32.not_le.mpr (nI_lt (a := 6 - (n + 1)) (b := 6) (by omega) (by decide))
    have ei : nI (6 - (n + 1)) + 1 = nI (6 - n) := by rw [nI_1, show 6 - (n + 1) + 1 = 6 - n by omega]
    refine sp_num hN (fun c => ?_) (fun s hs es => ?_)
    · have hge : sn ≤ 6 - (n + 1) := by
        rcases c with c | c
        · exact absurd c (nI_pos (by omega))
        · exact (nI_leI (by have := hN.2.1; omega) (by omega)).mp c
      have e1 : sn - (6 - (n + 1)) = 0 := by omega
      have e2 : sn - (6 - n) = 0 := by omega
      rw [e1] at k
      refine ⟨fun _ => ?_, fun n' c => by cases c⟩
      show sd_Wq l none y_X8_pass true Q 42 [some (v_r 0 0), some (v_i ms), some (v_i d), some (v_i (nI (6 - (n + 1)) + 1)), _] [] h 0 0
      rw [ei]
      refine sq_pass n h e d _ (by omega) hN hnw he (by omega) ?_
      rw [e2]; exact k
    · have es' : 6 - (n + 1) = s := (nI_eq (by omega) (by have := hN.2.1; omega)).mp es
      have e1 : sn - (6 - (n + 1)) = (sn - (6 - n)) + 1 := by omega
      rw [e1] at k
      unfold dk_pass at k
      rw [es'] at k
      refine ⟨fun c => (by cases c), fun n' _ => ?_⟩
      show sd_E1 l y_X5_playDue [v_r 6 s, v_i (h.1 0 0 6)] h _
      rw [hnw]
      refine sp_play he (by omega) ?_
      obtain ⟨p1, p2, p3⟩ := pl_play_e (s := s) (nw := nw) 32 h e 0 he
      have pf := pfr_play (s := s) (nw := nw) 32 h e 0
      show sd_Wq l none y_X8_pass true Q 42 [some (v_r 0 0), some (v_i ms), some (v_i (d + (pl_play s nw 32 h e 0).1)), some (v_i (nI (6 - (n + 1)) + 1)), _] [] (pl_play s nw 32 h e 0).2.1 0 0
      rw [ei]
      have pT := fun T h1 h2 h3 h4 h5 h6 h7 => congrFun (congrFun (pf.2 T h1 h2 h3 h4 h5 h6 h7) 0)
      refine sq_pass n _ (pl_play s nw 32 h e 0).2.2 _ _ (by omega) (sd_SN_of hN (pT 0 (by decide) (by decide) (by decide) (by decide) (by decide) (by decide) (by decide) 5) (congrArg Prod.fst pf.1)) ((pT 0 (by decide) (by decide) (by decide) (by decide) (by decide) (by decide) (by decide) 6).trans hnw) p1 (by omega) ?_
      rw [show s + 1 = 6 - n by omega] at k
      exact k
variable {h : sd_H}
theorem sp_pass {ms : Int32} {e nw : Nat} (hN : SN h sn) (hnw : h.1 0 0 6 = nI nw) (hnb : nw ≤ 100000000) (he : h.1 2 0 4 = nI e) (hb : e + 20000 < 2 ^ 31) (kb : (ms < 0 ∨ 10000 < ms) → Q (some (v_i (-2))) h) (kf : ∀ m : Nat, m ≤ 10000 → ms = nI m → 100000000 < nw + m → Q (some (v_i (-3))) h)
    (ky : ∀ m : Nat, m ≤ 10000 → ms = nI m → nw + m ≤ 100000000 → Q (some (v_i (dk_pass (nI (nw + m)) 0 sn (sd_pi h 0 0 6 (nI (nw + m))) e 0).1)) (dk_pass (nI (nw + m)) 0 sn (sd_pi h 0 0 6 (nI (nw + m))) e 0).2.1) : sd_E1 l y_X8_pass [v_r 0 0, v_i ms] h Q := by
  refine sd_e1 [42] 60 (cd := cd_X8_pass) (by decide) rfl (Nat.le_of_ble_eq_true rfl) ?_
  refine ⟨fun c1 => kb (Or.inl c1), fun c1 => ?_⟩
  refine ⟨fun c2 => ?_, fun c2 => kb (Or.inr (i_nle c2))⟩
  obtain ⟨m, hm, rfl⟩ := nI_of2 (M := 10000) (n := 10000) rfl c1 c2
  have es : h.1 0 0 6 + nI m = nI (nw + m) := by rw [hnw, nI_add]
  refine ⟨fun c3 => ?_, fun c3 => ?_⟩
  · rw [es] at c3
    have c3 := (nI_leI (a := nw + m) (b := 100000000) (by omega) (by decide)).mp c3
    show sd_Wq l none y_X8_pass true Q 42 [some (v_r 0 0), some (v_i (nI m)), some (v_i 0), some (v_i 0), none] [] (sd_pi h 0 0 6 (h.1 0 0 6 + nI m)) 0 0
    rw [es]
    exact sq_pass 6 _ e 0 _ (Nat.le_refl _) hN rfl he (by omega) (ky m hm rfl c3)
  · rw [es] at c3
    have c3 : ¬ nw + m ≤ 100000000 := fun q => c3 ((nI_leI (a := nw + m) (b := 100000000) (by omega) (by decide)).mpr q)
    exact kf m hm rfl (by omega)
def dk_keep (h : sd_H) (b w : Int32) : sd_H := sd_pi (sd_pi (sd_pi (sd_pi (sd_pi (sd_pi (sd_pi h 10 0 0 (pk_b h (b + 4))) 10 0 1 (pk_4 h (b + 4) <<< 8 >>> 8)) 10 0 2 (pk_4 h (b + 8))) 10 0 3 (pk_4 h (b + 12))) 10 0 4 (pk_4 h (b + 16))) 10 0 5 (pk_4 h (b + 20))) 10 0 6 w
theorem sp_keepBlock {b w : Int32} (k : Q none (dk_keep h b w)) : sd_E1 l y_X8_keepBlock [v_r 0 0, v_i b, v_i w] h Q := by
  refine sd_e1 [] 80 (cd := cd_X8_keepBlock) (by decide) rfl (Nat.le_of_ble_eq_true rfl) ?_
  refine sp_byteAt ?_
  refine ⟨0, ⟨by decide, rfl⟩, ?_⟩
  refine sp_wordAt ?_
  refine ⟨1, ⟨by decide, rfl⟩, ?_⟩
  refine sp_wordAt ?_
  refine ⟨2, ⟨by decide, rfl⟩, ?_⟩
  refine sp_wordAt ?_
  refine ⟨3, ⟨by decide, rfl⟩, ?_⟩
  refine sp_wordAt ?_
  refine ⟨4, ⟨by decide, rfl⟩, ?_⟩
  refine sp_wordAt ?_
  refine ⟨5, ⟨by decide, rfl⟩, ?_⟩
  refine ⟨6, ⟨by decide, rfl⟩, ?_⟩
  exact k
end D2
end
section
/-! StreamDesk: hear and its parts -/
def dk_clock (h : sd_H) (sn : Nat) (p : Int32) : sd_H := match dk_find h (pk_4 h (p + 4)) 0 sn with
  | none => h
  | some s => sn_clock h s (pk_4 h (p + 10)) (h.1 0 0 6)
def dk_blk (h : sd_H) (p hl : Int32) (k : Nat) : sd_H := if pk_4 h (p + hl + nI k * 24) = h.1 0 0 12 then dk_keep h (p + hl + nI k * 24) (pk_4 h (p + 4)) else h
def dk_blocks (p hl : Int32) : Nat → Nat → sd_H → sd_H
  | 0, _, h => h
  | n + 1, k, h => dk_blocks p hl n (k + 1) (dk_blk h p hl k)
def dk_lv (h : sd_H) (e sn : Nat) (p : Int32) (k : Nat) : sd_H × Nat := match dk_find h (pk_4 h (p + 4 + 4 * nI k)) 0 sn with
  | none => (h, e)
  | some s => (sn_leave h s e (h.1 0 0 6), if h.1 3 s 4 = 0 then e + 1 else e)
def dk_leave (sn : Nat) (p : Int32) : Nat → Nat → sd_H → Nat → sd_H × Nat
  | 0, _, h, e => (h, e)
  | n + 1, k, h, e => dk_leave sn p n (k + 1) (dk_lv h e sn p k).1 (dk_lv h e sn p k).2
def ct (x : Int32) : Nat := x.toNatClampNeg
theorem rf_ct_n (h : sd_H) (p : Int32) : rf_ct h p = nI (ct (rf_ct h p)) ∧ ct (rf_ct h p) < 32 := by
  obtain ⟨j, h1, h2⟩ := pk_andE (pk_b h p) (m := 31) 5 (by decide)
  have e : rf_ct h p = nI j := h2
  unfold ct
  rw [e, nI_clamp (by omega)]
  exact ⟨rfl, h1⟩
def dk_part (h : sd_H) (e sn : Nat) (p : Int32) : sd_H × Nat := if rf_so h p = 203 then dk_leave sn p (ct (rf_ct h p)) 0 h e else if rf_so h p = 200 then (dk_blocks p (rf_ll (rf_so h p) 0) (ct (rf_ct (dk_clock h sn p) p)) 0 (dk_clock h sn p), e) else if rf_so h p = 201 then (dk_blocks p (rf_ll (rf_so h p) 0) (ct (rf_ct h p)) 0 h, e) else (h, e)
def dk_hear (sn : Nat) : Nat → sd_H → Nat → Int32 → Nat × sd_H × Nat
  | 0, h, e, _ => (0, h, e)
  | n + 1, h, e, p => if pk_s h ≤ p then (n + 1, h, e) else dk_hear sn n (dk_part h e sn p).1 (dk_part h e sn p).2 (rf_en (dk_part h e sn p).1 p)
/-- what hearing leaves alone -/
def hfr (h h' : sd_H) : Prop := h'.2.2.1 = h.2.2.1 ∧ h'.1 0 = h.1 0 ∧ h'.1 1 = h.1 1 ∧ h'.1 11 = h.1 11
theorem hfr.rf (h : sd_H) : hfr h h := ⟨rfl, rfl, rfl, rfl⟩
theorem hfr.tr {a b c : sd_H} (x : hfr a b) (z : hfr b c) : hfr a c := ⟨z.1.trans x.1, z.2.1.trans x.2.1, z.2.2.1.trans x.2.2.1, z.2.2.2.trans x.2.2.2⟩
theorem hfr.SN {h h' : sd_H} {sn : Nat} (x : hfr h h') (hN : SN h sn) : SN h' sn := sd_SN_of hN (by rw [x.2.1]) x.1
theorem hfr_leave {h : sd_H} {s e : Nat} {nw : Int32} : hfr h (sn_leave h s e nw) := by
  unfold sn_leave
  split
  · exact ⟨rfl, rfl, rfl, rfl⟩
  · exact hfr.rf h
theorem sn_leave_e {h : sd_H} {s e : Nat} {nw : Int32} (he : h.1 2 0 4 = nI e) : (sn_leave h s e nw).1 2 0 4 = nI (if h.1 3 s 4 = 0 then e + 1 else e) := by
  unfold sn_leave
  split
  · rfl
  · exact he
theorem dk_lv_fr {h : sd_H} {e sn k : Nat} {p : Int32} (he : h.1 2 0 4 = nI e) : hfr h (dk_lv h e sn p k).1 ∧ (dk_lv h e sn p k).1.1 2 0 4 = nI (dk_lv h e sn p k).2 ∧ (dk_lv h e sn p k).2 ≤ e + 1 := by
  unfold dk_lv
  split
  · exact ⟨hfr.rf h, he, by show e ≤ e + 1; omega⟩
  · next s _ => exact ⟨hfr_leave, sn_leave_e he, by show (if h.1 3 s 4 = 0 then e + 1 else e) ≤ e + 1; split <;> omega⟩
theorem dk_leave_fr {sn : Nat} {p : Int32} : ∀ (n k : Nat) (h : sd_H) (e : Nat), h.1 2 0 4 = nI e → hfr h (dk_leave sn p n k h e).1 ∧ (dk_leave sn p n k h e).1.1 2 0 4 = nI (dk_leave sn p n k h e).2 ∧ (dk_leave sn p n k h e).2 ≤ e + n
  | 0, _, h, e, he => ⟨hfr.rf h, he, Nat.le_refl _⟩
  | n + 1, k, h, e, he => by
    obtain ⟨a1, a2, a3⟩ := dk_lv_fr (sn := sn) (k := k) (p := p) he
    obtain ⟨b1, b2, b3⟩ := dk_leave_fr (sn := sn) (p := p) n (k + 1) _ _ a2
    exact ⟨a1.tr b1, b2, by show (dk_leave sn p n (k + 1) (dk_lv h e sn p k).1 (dk_lv h e sn p k).2).2 ≤ e + (n + 1); omega⟩
theorem hfr_blk {h : sd_H} {p hl : Int32} {k : Nat} : hfr h (dk_blk h p hl k) ∧ (dk_blk h p hl k).1 2 = h.1 2 := by
  unfold dk_blk
  split
  · exact ⟨⟨rfl, rfl, rfl, rfl⟩, rfl⟩
  · exact ⟨hfr.rf h, rfl⟩
theorem hfr_blocks {p hl : Int32} : ∀ (n k : Nat) (h : sd_H), hfr h (dk_blocks p hl n k h) ∧ (dk_blocks p hl n k h).1 2 = h.1 2
  | 0, _, h => ⟨hfr.rf h, rfl⟩
  | n + 1, k, h => by
    obtain ⟨b1, b2⟩ := hfr_blocks (p := p) (hl := hl) n (k + 1) (dk_blk h p hl k)
    exact ⟨hfr_blk.1.tr b1, b2.trans hfr_blk.2⟩
theorem hfr_clock {h : sd_H} {sn : Nat} {p : Int32} : hfr h (dk_clock h sn p) ∧ (dk_clock h sn p).1 2 = h.1 2 := by
  unfold dk_clock
  split
  · exact ⟨hfr.rf h, rfl⟩
  · exact ⟨⟨rfl, rfl, rfl, rfl⟩, rfl⟩
theorem dk_part_fr {h : sd_H} {e sn : Nat} {p : Int32} (he : h.1 2 0 4 = nI e) : hfr h (dk_part h e sn p).1 ∧ (dk_part h e sn p).1.1 2 0 4 = nI (dk_part h e sn p).2 ∧ (dk_part h e sn p).2 ≤ e + 31 := by
  unfold dk_part
  split
  · obtain ⟨a1, a2, a3⟩ := dk_leave_fr (sn := sn) (p := p) (ct (rf_ct h p)) 0 h e he
    have := (rf_ct_n h p).2
    exact ⟨a1, a2, by omega⟩
  · split
    · have a := hfr_clock (h := h) (sn := sn) (p := p)
      have b := hfr_blocks (p := p) (hl := rf_ll (rf_so h p) 0) (ct (rf_ct (dk_clock h sn p) p)) 0 (dk_clock h sn p)
      exact ⟨a.1.tr b.1, by show (dk_blocks _ _ _ _ _).1 2 0 4 = _; rw [b.2, a.2]; exact he, Nat.le_add_right _ _⟩
    · split
      · have b := hfr_blocks (p := p) (hl := rf_ll (rf_so h p) 0) (ct (rf_ct h p)) 0 h
        exact ⟨b.1, by show (dk_blocks _ _ _ _ _).1 2 0 4 = _; rw [b.2]; exact he, Nat.le_add_right _ _⟩
      · exact ⟨hfr.rf h, he, Nat.le_add_right _ _⟩
section HE
variable {l : Launch} {Q : Option sd_V → sd_H → Prop} {sn : Nat} {h : sd_H}
theorem sp_hearClock {p : Int32} (hN : SN h sn) (k : Q none (dk_clock h sn p)) : sd_E1 l y_X8_hearClock [v_r 0 0, v_i p] h Q := by
  refine sd_e1 [] 80 (cd := cd_X8_hearClock) (by decide) rfl (Nat.le_of_ble_eq_true rfl) ?_
  refine sp_wordAt ?_
  refine sp_with hN ?_
  unfold dk_clock at k
  cases hf : dk_find h (pk_4 h (p + 4)) 0 sn with
  | none =>
    rw [hf] at k
    exact ⟨fun _ => k, fun n c => (by cases c)⟩
  | some s =>
    rw [hf] at k
    refine ⟨fun c => (by cases c), fun n _ => ?_⟩
    refine sp_wordAt ?_
    exact sp_keepClock k
theorem sq_blocks {p hl : Int32} {m : Nat} (hm : m < 32) : ∀ (n : Nat) (h : sd_H) (j5 : Option sd_V), n ≤ m → Q none (dk_blocks p hl n (m - n) h) → sd_Wq l none y_X8_hearBlocks true Q 12 [some (v_r 0 0), some (v_i p), some (v_i hl), some (v_i (nI m)), some (v_i (nI (m - n))), j5] [] h 0 0
  | 0, h, j5, hn, k => by
    refine sd_go [12] 80 (cd := cd_X8_hearBlocks) (by decide) rfl ?_
    exact ⟨fun _ => k, fun c => absurd (nI_le (Nat.le_refl m) (by omega)) c⟩
  | n + 1, h, j5, hn, k => by
    refine sd_go [12] 80 (cd := cd_X8_hearBlocks) (by decide) rfl ?_
    refine ⟨fun c => absurd c ?_, fun _ => ?_⟩
    · exact Int32.not_le.mpr (nI_lt (a := m - (n + 1)) (b := m) (by omega) (by omega))
    have ei : nI (m - (n + 1)) + 1 = nI (m - n) := by rw [nI_1, show m - (n + 1) + 1 = m - n by omega]
    unfold dk_blocks at k
    rw [show m - (n + 1) + 1 = m - n by omega] at k
    refine sp_wordAt ?_
    unfold dk_blk at k
    refine ⟨fun (c1 : ¬ pk_4 h (p + hl + nI (m - (n + 1)) * 24) = h.1 0 0 12) => ?_, fun (c1 : pk_4 h (p + hl + nI (m - (n + 1)) * 24) = h.1 0 0 12) => ?_⟩
    · rw [if_neg c1] at k
      show sd_Wq l none y_X8_hearBlocks true Q 12 [some (v_r 0 0), some (v_i p), some (v_i hl), some (v_i (nI m)), some (v_i (nI (m - (n + 1)) + 1)), _] [] h 0 0
      rw [ei]
      exact sq_blocks hm n h _ (by omega) k
    · rw [if_pos c1] at k
      refine sp_wordAt ?_
      refine sp_keepBlock ?_
      show sd_Wq l none y_X8_hearBlocks true Q 12 [some (v_r 0 0), some (v_i p), some (v_i hl), some (v_i (nI m)), some (v_i (nI (m - (n + 1)) + 1)), _] [] (dk_keep h (p + hl + nI (m - (n + 1)) * 24) (pk_4 h (p + 4))) 0 0
      rw [ei]
      exact sq_blocks hm n _ _ (by omega) k
theorem sp_hearBlocks {p hl : Int32} (k : Q none (dk_blocks p hl (ct (rf_ct h p)) 0 h)) : sd_E1 l y_X8_hearBlocks [v_r 0 0, v_i p, v_i hl] h Q := by
  refine sd_e1 [12] 80 (cd := cd_X8_hearBlocks) (by decide) rfl (Nat.le_of_ble_eq_true rfl) ?_
  refine sp_counted ?_
  obtain ⟨e1, e2⟩ := rf_ct_n h p
  have w := sq_blocks (l := l) (Q := Q) (p := p) (hl := hl) e2 (ct (rf_ct h p)) h none (Nat.le_refl _) (by rw [Nat.sub_self]; exact k)
  rw [Nat.sub_self, ← e1] at w
  exact w
set_option maxRecDepth 100000 in
theorem sq_leave {p : Int32} {m : Nat} (hm : m < 32) : ∀ (n : Nat) (h : sd_H) (e : Nat) (j4 : Option sd_V), n ≤ m → SN h sn → h.1 2 0 4 = nI e → e + n < 2 ^ 31 → Q none (dk_leave sn p n (m - n) h e).1 → sd_Wq l none y_X8_hearLeaving true Q 11 [some (v_r 0 0), some (v_i p), some (v_i (nI m)), some (v_i (nI (m - n))), j4] [] h 0 0
  | 0, h, e, j4, hn, hN, he, hb, k => by
    refine sd_go [11] 80 (cd := cd_X8_hearLeaving) (by decide) rfl ?_
    exact ⟨fun _ => k, fun c => absurd (nI_le (Nat.le_refl m) (by omega)) c⟩
  | n + 1, h, e, j4, hn, hN, he, hb, k => by
    refine sd_go [11] 80 (cd := cd_X8_hearLeaving) (by decide) rfl ?_
    refine ⟨fun c => absurd c ?_, fun _ => ?_⟩
    · exact Int32.not_le.mpr (nI_lt (a := m - (n + 1)) (b := m) (by omega) (by omega))
    have ei : nI (m - (n + 1)) + 1 = nI (m - n) := by rw [nI_1, show m - (n + 1) + 1 = m - n by omega]
    have fr := dk_lv_fr (sn := sn) (k := m - (n + 1)) (p := p) he
    unfold dk_leave at k
    rw [show m - (n + 1) + 1 = m - n by omega] at k
    refine sp_wordAt ?_
    refine sp_with hN ?_
    unfold dk_lv at k fr
    cases hf : dk_find h (pk_4 h (p + 4 + 4 * nI (m - (n + 1)))) 0 sn with
    | none =>
      rw [hf] at k fr
      refine ⟨fun _ => ?_, fun n c => (by cases c)⟩
      show sd_Wq l none y_X8_hearLeaving true Q 11 [some (v_r 0 0), some (v_i p), some (v_i (nI m)), some (v_i (nI (m - (n + 1)) + 1)), _] [] h 0 0
      rw [ei]
      exact sq_leave hm n h e _ (by omega) hN he (by omega) k
    | some s =>
      rw [hf] at k fr
      refine ⟨fun c => (by cases c), fun n' _ => ?_⟩
      refine sp_leave he (by omega) ?_
      show sd_Wq l none y_X8_hearLeaving true Q 11 [some (v_r 0 0), some (v_i p), some (v_i (nI m)), some (v_i (nI (m - (n + 1)) + 1)), _] [] (sn_leave h s e (h.1 0 0 6)) 0 0
      rw [ei]
      exact sq_leave hm n _ _ _ (by omega) (fr.1.SN hN) fr.2.1 (by have := fr.2.2; dsimp only at this ⊢; omega) k
theorem sp_hearLeaving {p : Int32} {e : Nat} (hN : SN h sn) (he : h.1 2 0 4 = nI e) (hb : e + 32 < 2 ^ 31) (k : Q none (dk_leave sn p (ct (rf_ct h p)) 0 h e).1) : sd_E1 l y_X8_hearLeaving [v_r 0 0, v_i p] h Q := by
  refine sd_e1 [11] 80 (cd := cd_X8_hearLeaving) (by decide) rfl (Nat.le_of_ble_eq_true rfl) ?_
  refine sp_counted ?_
  obtain ⟨e1, e2⟩ := rf_ct_n h p
  have w := sq_leave (l := l) (Q := Q) (sn := sn) (p := p) e2 (ct (rf_ct h p)) h e none (Nat.le_refl _) hN he (by omega) (by rw [Nat.sub_self]; exact k)
  rw [Nat.sub_self, ← e1] at w
  exact w
theorem sp_hearPart {p : Int32} {e : Nat} (hN : SN h sn) (he : h.1 2 0 4 = nI e) (hb : e + 32 < 2 ^ 31) (k : Q none (dk_part h e sn p).1) : sd_E1 l y_X8_hearPart [v_r 0 0, v_i p] h Q := by
  refine sd_e1 [] 80 (cd := cd_X8_hearPart) (by decide) rfl (Nat.le_of_ble_eq_true rfl) ?_
  refine sp_rsort ?_
  unfold dk_part at k
  refine ⟨fun c1 => ?_, fun c1 => ?_⟩
  rotate_left
  · rw [if_pos c1] at k
    exact sp_hearLeaving hN he hb k
  rw [if_neg c1] at k
  refine ⟨fun c2 => ?_, fun c2 => ?_⟩
  · rw [if_neg c2] at k
    refine ⟨fun c3 => absurd c3 c2, fun _ => ?_⟩
    refine ⟨fun c4 => ?_, fun c4 => ?_⟩
    · rw [if_neg c4] at k; exact k
    · rw [if_pos c4] at k
      refine sp_leastLength ?_
      exact sp_hearBlocks k
  · rw [if_pos c2] at k
    refine sp_hearClock hN ?_
    refine ⟨fun _ => ?_, fun c3 => absurd c2 c3⟩
    refine sp_leastLength ?_
    exact sp_hearBlocks k
set_option maxRecDepth 100000 in
theorem sq_hear {f0 : Int32} : ∀ (n : Nat) (h : sd_H) (e : Nat) (p : Int32), n ≤ 75 → SN h sn → h.1 2 0 4 = nI e → e + 32 * (n + 1) < 2 ^ 31 → Q (some (v_i (nI (75 - (dk_hear sn n h e p).1)))) (sd_pi (dk_hear sn n h e p).2.1 0 0 11 ((dk_hear sn n h e p).2.1.1 0 0 11 + 1)) → sd_Wq l none y_X8_hear true Q 21 [some (v_r 0 0), some (v_i f0), some (v_i (nI (75 - n))), some (v_i p)] [] h 0 0
  | 0, h, e, p, hn, hN, he, hb, k => by
    refine sd_go [21] 80 (cd := cd_X8_hear) (by decide) rfl ?_
    exact ⟨fun _ => k, fun c => absurd (show (75 : Int32) ≤ nI 75 by decide) c⟩
  | n + 1, h, e, p, hn, hN, he, hb, k => by
    refine sd_go [21] 80 (cd := cd_X8_hear) (by decide) rfl ?_
    refine ⟨fun c => absurd c ?_, fun _ => ?_⟩
    · exact Int32.not_le.mpr (nI_lt (a := 75 - (n + 1)) (b := 75) (by omega) (by decide))
    unfold dk_hear at k
    refine ⟨fun (c1 : pk_s h ≤ p) => ?_, fun (c1 : ¬ pk_s h ≤ p) => ?_⟩
    · rw [if_pos c1] at k; exact k
    rw [if_neg c1] at k
    obtain ⟨a1, a2, a3⟩ := dk_part_fr (sn := sn) (p := p) he
    refine sp_hearPart hN he (by omega) ?_
    refine sp_end ?_
    show sd_Wq l none y_X8_hear true Q 21 [some (v_r 0 0), some (v_i f0), some (v_i (nI (75 - (n + 1)) + 1)), some (v_i (rf_en (dk_part h e sn p).1 p))] [] (dk_part h e sn p).1 0 0
    rw [nI_1, show 75 - (n + 1) + 1 = 75 - n by omega]
    exact sq_hear n _ _ _ (by omega) (a1.SN hN) a2 (by omega) k
theorem sp_hear {e : Nat} (hN : SN h sn) (he : h.1 2 0 4 = nI e) (hb : e + 3000 < 2 ^ 31) (kn : ¬ rf_fault h = 0 → Q (some (v_i (-10 - rf_fault h))) h) (ky : rf_fault h = 0 → Q (some (v_i (nI (75 - (dk_hear sn 75 h e 0).1)))) (sd_pi (dk_hear sn 75 h e 0).2.1 0 0 11 ((dk_hear sn 75 h e 0).2.1.1 0 0 11 + 1))) : sd_E1 l y_X8_hear [v_r 0 0] h Q := by
  refine sd_e1 [21] 80 (cd := cd_X8_hear) (by decide) rfl (Nat.le_of_ble_eq_true rfl) ?_
  refine sp_rfault ?_
  refine ⟨fun c1 => ?_, fun c1 => kn c1⟩
  exact sq_hear 75 h e 0 (Nat.le_refl _) hN he (by omega) (ky c1)
end HE
end
section
/-! StreamDesk: report and digest; Sender.writeBlock -/
theorem pk_app_fr {v : Int64} : ∀ (m : Nat) (h : sd_H) (sz : Nat), (pk_app v m h sz).2 = h.2 ∧ ∀ T, T ≠ 1 → T ≠ 11 → (pk_app v m h sz).1 T = h.1 T
  | 0, h, _ => ⟨rfl, fun _ _ _ => rfl⟩
  | m + 1, h, sz => by
    obtain ⟨a1, a2⟩ := pk_app_fr (v := v) m (sd_pi (sd_pi h 11 0 sz (ab v m)) 1 0 1 (nI (sz + 1))) (sz + 1)
    refine ⟨a1, fun T h1 h2 => (a2 T h1 h2).trans ?_⟩
    rw [sd_pi_T h1, sd_pi_T h2]
theorem pk_app_T {v : Int64} {m sz T : Nat} {h : sd_H} (h1 : T ≠ 1) (h2 : T ≠ 11) : (pk_app v m h sz).1 T = h.1 T := (pk_app_fr m h sz).2 T h1 h2
theorem pk_app_s {v : Int64} : ∀ (m : Nat) (h : sd_H) (sz : Nat), h.1 1 0 1 = nI sz → (pk_app v m h sz).1 1 0 1 = nI (sz + m)
  | 0, _, _, hz => hz
  | m + 1, h, sz, hz => by rw [show sz + (m + 1) = sz + 1 + m by omega]; exact pk_app_s m _ _ rfl
/-- the clock's two numbers in a BLOCK -/
def sn_last (h : sd_H) (s : Nat) : Int64 := if h.1 3 s 5 = 0 then 0 else (h.1 3 s 6).toInt64
def sn_since (h : sd_H) (s : Nat) (nw : Int32) : Int64 := if h.1 3 s 5 = 0 then 0 else (nw - h.1 3 s 7).toInt64 * 65536 / 1000
def sn_b1 (h : sd_H) (s sz : Nat) : sd_H := pk_app (nb_frac (h.1 4 s)).toInt64 1 (sd_ri (pk_app (h.1 3 s 0).toInt64 4 h sz) 4 s (nb_tf (h.1 4 s))) (sz + 4)
def sn_b2 (h : sd_H) (s sz : Nat) : sd_H := pk_app (h.1 4 s 1 + h.1 4 s 0).toInt64 4 (pk_app (nb_lost (h.1 4 s)).toInt64 3 (sn_b1 h s sz) (sz + 5)) (sz + 8)
def sn_b3 (h : sd_H) (s sz : Nat) (nw : Int32) : sd_H := pk_app (sn_since h s nw) 4 (pk_app (sn_last h s) 4 (pk_app (h.1 5 s 0 >>> 4).toInt64 4 (sn_b2 h s sz) (sz + 12)) (sz + 16)) (sz + 20)
theorem sn_b1_T {h : sd_H} {s sz T : Nat} (h1 : T ≠ 1) (h2 : T ≠ 11) (h3 : T ≠ 4) : (sn_b1 h s sz).1 T = h.1 T := by
  unfold sn_b1; rw [pk_app_T h1 h2, sd_ri_T h3, pk_app_T h1 h2]
theorem sn_b1_4 {h : sd_H} {s sz : Nat} : (sn_b1 h s sz).1 4 s = nb_tf (h.1 4 s) := by
  unfold sn_b1; rw [pk_app_T (by decide) (by decide)]; exact sd_ri_at
theorem sn_b2_T {h : sd_H} {s sz T : Nat} (h1 : T ≠ 1) (h2 : T ≠ 11) (h3 : T ≠ 4) : (sn_b2 h s sz).1 T = h.1 T := by
  unfold sn_b2; rw [pk_app_T h1 h2, pk_app_T h1 h2, sn_b1_T h1 h2 h3]
theorem sn_b3_T {h : sd_H} {s sz T : Nat} {nw : Int32} (h1 : T ≠ 1) (h2 : T ≠ 11) (h3 : T ≠ 4) : (sn_b3 h s sz nw).1 T = h.1 T := by
  unfold sn_b3; rw [pk_app_T h1 h2, pk_app_T h1 h2, pk_app_T h1 h2, sn_b2_T h1 h2 h3]
section WB
variable {l : Launch} {Q : Option sd_V → sd_H → Prop} {sn s : Nat} {h : sd_H}
theorem sn_b1_s {sz : Nat} (hz : h.1 1 0 1 = nI sz) : (sn_b1 h s sz).1 1 0 1 = nI (sz + 5) := by
  unfold sn_b1
  have a := pk_app_s (v := (h.1 3 s 0).toInt64) 4 h sz hz
  have b := pk_app_s (v := (nb_frac (h.1 4 s)).toInt64) 1 (sd_ri (pk_app (h.1 3 s 0).toInt64 4 h sz) 4 s (nb_tf (h.1 4 s))) (sz + 4) a
  exact b
theorem sn_b2_s {sz : Nat} (hz : h.1 1 0 1 = nI sz) : (sn_b2 h s sz).1 1 0 1 = nI (sz + 12) := by
  unfold sn_b2
  exact pk_app_s (v := (h.1 4 s 1 + h.1 4 s 0).toInt64) 4 _ (sz + 8) (pk_app_s (v := (nb_lost (h.1 4 s)).toInt64) 3 _ (sz + 5) (sn_b1_s hz))
theorem sn_b3_s {sz : Nat} {nw : Int32} (hz : h.1 1 0 1 = nI sz) : (sn_b3 h s sz nw).1 1 0 1 = nI (sz + 24) := by
  unfold sn_b3
  exact pk_app_s (v := sn_since h s nw) 4 _ (sz + 20) (pk_app_s (v := sn_last h s) 4 _ (sz + 16) (pk_app_s (v := (h.1 5 s 0 >>> 4).toInt64) 4 _ (sz + 12) (sn_b2_s hz)))
theorem sp_writeBlock {sz : Nat} {nw : Int32} (hz : h.1 1 0 1 = nI sz) (hle : sz + 24 ≤ 300) (k : Q none (sn_b3 h s sz nw)) : sd_E1 l y_X7_writeBlock [v_r 3 s, v_r 1 0, v_i nw] h Q := by
  refine sd_e1 [] 90 (cd := cd_X7_writeBlock) (by decide) rfl (Nat.le_of_ble_eq_true rfl) ?_
  refine sp_append (m := 4) hz (by omega) ?_
  refine sp_takeFraction ?_
  have e4 : (pk_app (h.1 3 s 0).toInt64 4 h sz).1 4 s = h.1 4 s := by rw [pk_app_T (by decide) (by decide)]
  show sd_E1 l y_X4_append [v_r 1 0, v_l (nb_frac ((pk_app (h.1 3 s 0).toInt64 4 h sz).1 4 s)).toInt64, v_i (nI 1)] (sd_ri (pk_app (h.1 3 s 0).toInt64 4 h sz) 4 s (nb_tf ((pk_app (h.1 3 s 0).toInt64 4 h sz).1 4 s))) _
  rw [e4]
  refine sp_append (m := 1) (sz := sz + 4) (pk_app_s (v := (h.1 3 s 0).toInt64) 4 h sz hz) (by omega) ?_
  refine sp_lost ?_
  have e5 : nb_lost ((sn_b1 h s sz).1 4 s) = nb_lost (h.1 4 s) := by rw [sn_b1_4]; rfl
  show sd_E1 l y_X4_append [v_r 1 0, v_l (nb_lost ((sn_b1 h s sz).1 4 s)).toInt64, v_i (nI 3)] (sn_b1 h s sz) _
  rw [e5]
  refine sp_append (m := 3) (sz := sz + 5) (sn_b1_s hz) (by omega) ?_
  have e6 : (pk_app (nb_lost (h.1 4 s)).toInt64 3 (sn_b1 h s sz) (sz + 5)).1 4 s = nb_tf (h.1 4 s) := by rw [pk_app_T (by decide) (by decide), sn_b1_4]
  have e6' : (pk_app (nb_lost (h.1 4 s)).toInt64 3 (sn_b1 h s sz) (sz + 5)).1 4 s 1 + (pk_app (nb_lost (h.1 4 s)).toInt64 3 (sn_b1 h s sz) (sz + 5)).1 4 s 0 = h.1 4 s 1 + h.1 4 s 0 := by rw [e6]; rfl
  show sd_E1 l y_X4_append [v_r 1 0, v_l ((pk_app (nb_lost (h.1 4 s)).toInt64 3 (sn_b1 h s sz) (sz + 5)).1 4 s 1 + (pk_app (nb_lost (h.1 4 s)).toInt64 3 (sn_b1 h s sz) (sz + 5)).1 4 s 0).toInt64, v_i (nI 4)] (pk_app (nb_lost (h.1 4 s)).toInt64 3 (sn_b1 h s sz) (sz + 5)) _
  rw [e6']
  refine sp_append (m := 4) (sz := sz + 8) (pk_app_s 3 _ (sz + 5) (sn_b1_s hz)) (by omega) ?_
  have e7 : (sn_b2 h s sz).1 5 s 0 = h.1 5 s 0 := by rw [sn_b2_T (by decide) (by decide) (by decide)]
  show sd_E1 l y_X4_append [v_r 1 0, v_l ((sn_b2 h s sz).1 5 s 0 >>> 4).toInt64, v_i (nI 4)] (sn_b2 h s sz) _
  rw [e7]
  refine sp_append (m := 4) (sz := sz + 12) (sn_b2_s hz) (by omega) ?_
  have hs3 := pk_app_s (v := (h.1 5 s 0 >>> 4).toInt64) 4 _ (sz + 12) (sn_b2_s (s := s) hz)
  have e8 : ∀ i, (pk_app (h.1 5 s 0 >>> 4).toInt64 4 (sn_b2 h s sz) (sz + 12)).1 3 s i = h.1 3 s i := fun i => by rw [pk_app_T (by decide) (by decide), sn_b2_T (by decide) (by decide) (by decide)]
  have e9 : ∀ (v : Int64) i, (pk_app v 4 (pk_app (h.1 5 s 0 >>> 4).toInt64 4 (sn_b2 h s sz) (sz + 12)) (sz + 16)).1 3 s i = h.1 3 s i := fun v i => by rw [pk_app_T (by decide) (by decide), e8]
  unfold sn_b3 sn_last sn_since at k
  refine ⟨fun c1 => ?_, fun c1 => ?_⟩
  · have c1' : h.1 3 s 5 = 0 := (e8 5).symm.trans c1
    rw [if_pos c1', if_pos c1'] at k
    refine sp_append (m := 4) (sz := sz + 16) hs3 (by omega) ?_
    refine ⟨fun _ => ?_, fun c2 => absurd ((e9 0 5).trans c1') c2⟩
    exact sp_append (m := 4) (sz := sz + 20) (pk_app_s 4 _ (sz + 16) hs3) (by omega) k
  · have c1' : ¬ h.1 3 s 5 = 0 := fun q => c1 ((e8 5).trans q)
    rw [if_neg c1', if_neg c1'] at k
    show sd_E1 l y_X4_append [v_r 1 0, v_l ((pk_app (h.1 5 s 0 >>> 4).toInt64 4 (sn_b2 h s sz) (sz + 12)).1 3 s 6).toInt64, v_i (nI 4)] (pk_app (h.1 5 s 0 >>> 4).toInt64 4 (sn_b2 h s sz) (sz + 12)) _
    rw [e8]
    refine sp_append (m := 4) (sz := sz + 16) hs3 (by omega) ?_
    refine ⟨fun c2 => absurd ((e9 _ 5).symm.trans c2) c1', fun _ => ?_⟩
    refine ⟨by decide, ?_⟩
    show sd_E1 l y_X4_append [v_r 1 0, v_l ((nw - (pk_app (h.1 3 s 6).toInt64 4 (pk_app (h.1 5 s 0 >>> 4).toInt64 4 (sn_b2 h s sz) (sz + 12)) (sz + 16)).1 3 s 7).toInt64 * 65536 / 1000), v_i (nI 4)] (pk_app (h.1 3 s 6).toInt64 4 (pk_app (h.1 5 s 0 >>> 4).toInt64 4 (sn_b2 h s sz) (sz + 12)) (sz + 16)) _
    rw [e9]
    exact sp_append (m := 4) (sz := sz + 20) (pk_app_s 4 _ (sz + 16) hs3) (by omega) k
/-- how many BLOCKS, and the BLOCKS -/
def dk_rep (h : sd_H) (s : Nat) : Bool := decide (h.1 4 s 4 = 0 ∧ h.1 3 s 4 = 0)
def dk_cnt (h : sd_H) : Nat → Nat → Nat
  | _, 0 => 0
  | i, n + 1 => (if dk_rep h i = true then 1 else 0) + dk_cnt h (i + 1) n
def dk_wr (nw : Int32) : Nat → Nat → sd_H → Nat → sd_H × Nat
  | _, 0, h, sz => (h, sz)
  | i, n + 1, h, sz => if dk_rep h i = true then dk_wr nw (i + 1) n (sn_b3 h i sz nw) (sz + 24) else dk_wr nw (i + 1) n h sz
theorem dk_cnt_le (h : sd_H) : ∀ (n i : Nat), dk_cnt h i n ≤ n
  | 0, _ => Nat.le_refl _
  | n + 1, i => by
    have := dk_cnt_le h n (i + 1)
    unfold dk_cnt
    split <;> omega
def dk_head (h : sd_H) (own : Int32) (b : Nat) : sd_H := pk_app own.toInt64 4 (pk_app (1 + nI b * 6).toInt64 2 (pk_app 201 1 (pk_app (128 + nI b).toInt64 1 (sd_pi h 1 0 1 0) 0) 1) 2) 4
theorem dk_head_T {own : Int32} {b T : Nat} (h1 : T ≠ 1) (h2 : T ≠ 11) : (dk_head h own b).1 T = h.1 T := by
  unfold dk_head
  rw [pk_app_T h1 h2, pk_app_T h1 h2, pk_app_T h1 h2, pk_app_T h1 h2, sd_pi_T h1]
theorem dk_head_s {own : Int32} {b : Nat} : (dk_head h own b).1 1 0 1 = nI 8 := by
  unfold dk_head
  exact pk_app_s 4 _ 4 (pk_app_s 2 _ 2 (pk_app_s 1 _ 1 (pk_app_s 1 _ 0 rfl)))
theorem dk_head_2 {own : Int32} {b : Nat} : (dk_head h own b).2 = h.2 := by
  unfold dk_head
  rw [(pk_app_fr _ _ _).1, (pk_app_fr _ _ _).1, (pk_app_fr _ _ _).1, (pk_app_fr _ _ _).1]; rfl
theorem sn_b3_2 {sz : Nat} {nw : Int32} : (sn_b3 h s sz nw).2 = h.2 := by
  unfold sn_b3 sn_b2 sn_b1
  rw [(pk_app_fr _ _ _).1, (pk_app_fr _ _ _).1, (pk_app_fr _ _ _).1, (pk_app_fr _ _ _).1, (pk_app_fr _ _ _).1, (pk_app_fr _ _ _).1]
  show (pk_app (h.1 3 s 0).toInt64 4 h sz).2 = h.2
  exact (pk_app_fr _ _ _).1
set_option maxRecDepth 100000 in
theorem sq_cnt {own : Int32} (hN : SN h sn) : ∀ (n : Nat) (b : Nat) , n ≤ 6 → b + n ≤ 12 → sd_Wq l none y_X8_report true Q 37 [some (v_r 0 0), some (v_i own), some (v_i (nI (b + dk_cnt h (6 - n) (sn - (6 - n))))), some (v_i (nI 6)), none] [] h 0 0 → sd_Wq l none y_X8_report true Q 9 [some (v_r 0 0), some (v_i own), some (v_i (nI b)), some (v_i (nI (6 - n))), none] [] h 0 0
  | 0, b, hn, hb, k => by
    refine sd_go [9, 37, 97] 80 (cd := cd_X8_report) (by decide) rfl ?_
    refine ⟨fun _ => ?_, fun c => absurd (show (6 : Int32) ≤ nI 6 by decide) c⟩
    have e0 : sn - (6 - 0) = 0 := by have := hN.2.1; omega
    rw [e0] at k
    exact k
  | n + 1, b, hn, hb, k => by
    refine sd_go [9, 37, 97] 80 (cd := cd_X8_report) (by decide) rfl ?_
    refine ⟨fun c => absurd c ?_, fun _ => ?_⟩
    · exact Int32.not_le.mpr (nI_lt (a := 6 - (n + 1)) (b := 6) (by omega) (by decide))
    have ei : nI (6 - (n + 1)) + 1 = nI (6 - n) := by rw [nI_1, show 6 - (n + 1) + 1 = 6 - n by omega]
    have stay : dk_cnt h (6 - (n + 1)) (sn - (6 - (n + 1))) = dk_cnt h (6 - n) (sn - (6 - n)) → sd_Wq l none y_X8_report true Q 9 [some (v_r 0 0), some (v_i own), some (v_i (nI b + 0)), some (v_i (nI (6 - (n + 1)) + 1)), none] [] h 0 0 := by
      intro ec
      rw [ei, show nI b + 0 = nI b from Int32.add_zero _]
      refine sq_cnt hN n b (by omega) (by omega) ?_
      rw [← ec]; exact k
    refine sp_reported hN (fun c => ?_) (fun s hs es c1 c2 => ?_)
    · refine ⟨fun _ => stay ?_, fun n' c => (by cases c)⟩
      rcases c with c | ⟨s, hs, es, hc⟩
      · have hge : sn ≤ 6 - (n + 1) := by
          rcases c with c | c
          · exact absurd c (nI_pos (by omega))
          · exact (nI_leI (by have := hN.2.1; omega) (by omega)).mp c
        rw [show sn - (6 - (n + 1)) = 0 by omega, show sn - (6 - n) = 0 by omega]
        rfl
      · have es' : 6 - (n + 1) = s := (nI_eq (by omega) (by have := hN.2.1; omega)).mp es
        rw [show sn - (6 - (n + 1)) = (sn - (6 - n)) + 1 by omega]
        show (if dk_rep h (6 - (n + 1)) = true then 1 else 0) + dk_cnt h (6 - (n + 1) + 1) (sn - (6 - n)) = _
        rw [es', if_neg (by unfold dk_rep; simpa using hc), Nat.zero_add, show s + 1 = 6 - n by omega]
    · refine ⟨fun c => (by cases c), fun n' _ => ?_⟩
      have es' : 6 - (n + 1) = s := (nI_eq (by omega) (by have := hN.2.1; omega)).mp es
      show sd_Wq l none y_X8_report true Q 9 [some (v_r 0 0), some (v_i own), some (v_i (nI b + 1)), some (v_i (nI (6 - (n + 1)) + 1)), none] [] h 0 0
      rw [ei, nI_1 b]
      refine sq_cnt hN n (b + 1) (by omega) (by omega) ?_
      have ec : dk_cnt h (6 - (n + 1)) (sn - (6 - (n + 1))) = 1 + dk_cnt h (6 - n) (sn - (6 - n)) := by
        rw [show sn - (6 - (n + 1)) = (sn - (6 - n)) + 1 by omega]
        show (if dk_rep h (6 - (n + 1)) = true then 1 else 0) + dk_cnt h (6 - (n + 1) + 1) (sn - (6 - n)) = _
        rw [es', if_pos (by unfold dk_rep; simp [c1, c2]), show s + 1 = 6 - n by omega]
      rw [ec] at k
      rw [show b + 1 + dk_cnt h (6 - n) (sn - (6 - n)) = b + (1 + dk_cnt h (6 - n) (sn - (6 - n))) by omega]
      exact k
set_option maxRecDepth 100000 in
theorem sq_wr {own b nw : Int32} : ∀ (n : Nat) (h : sd_H) (sz : Nat) (j4 : Option sd_V), n ≤ 6 → SN h sn → h.1 0 0 6 = nw → h.1 1 0 1 = nI sz → sz + 24 * n ≤ 300 → Q (some (v_i (nI (dk_wr nw (6 - n) (sn - (6 - n)) h sz).2))) (dk_wr nw (6 - n) (sn - (6 - n)) h sz).1 → sd_Wq l none y_X8_report true Q 97 [some (v_r 0 0), some (v_i own), some (v_i b), some (v_i (nI (6 - n))), j4] [] h 0 0
  | 0, h, sz, j4, hn, hN, hnw, hz, hle, k => by
    refine sd_go [97] 80 (cd := cd_X8_report) (by decide) rfl ?_
    refine ⟨fun _ => ?_, fun c => absurd (show (6 : Int32) ≤ nI 6 by decide) c⟩
    have e0 : sn - (6 - 0) = 0 := by have := hN.2.1; omega
    rw [e0] at k
    have k : Q (some (v_i (nI sz))) h := k
    show Q (some (v_i (h.1 1 0 1))) h
    rw [hz]; exact k
  | n + 1, h, sz, j4, hn, hN, hnw, hz, hle, k => by
    refine sd_go [97] 80 (cd := cd_X8_report) (by decide) rfl ?_
    refine ⟨fun c => absurd c ?_, fun _ => ?_⟩
    · exact Int32.not_le.mpr (nI_lt (a := 6 - (n + 1)) (b := 6) (by omega) (by decide))
    have ei : nI (6 - (n + 1)) + 1 = nI (6 - n) := by rw [nI_1, show 6 - (n + 1) + 1 = 6 - n by omega]
    have stay : dk_wr nw (6 - (n + 1)) (sn - (6 - (n + 1))) h sz = dk_wr nw (6 - n) (sn - (6 - n)) h sz → ∀ j, sd_Wq l none y_X8_report true Q 97 [some (v_r 0 0), some (v_i own), some (v_i b), some (v_i (nI (6 - (n + 1)) + 1)), j] [] h 0 0 := by
      intro ec j
      rw [ei]
      refine sq_wr n h sz j (by omega) hN hnw hz (by omega) ?_
      rw [← ec]; exact k
    refine sp_reported hN (fun c => ?_) (fun s hs es c1 c2 => ?_)
    · refine ⟨fun _ => stay ?_ _, fun n' c => (by cases c)⟩
      rcases c with c | ⟨s, hs, es, hc⟩
      · have hge : sn ≤ 6 - (n + 1) := by
          rcases c with c | c
          · exact absurd c (nI_pos (by omega))
          · exact (nI_leI (by have := hN.2.1; omega) (by omega)).mp c
        rw [show sn - (6 - (n + 1)) = 0 by omega, show sn - (6 - n) = 0 by omega]
        rfl
      · have es' : 6 - (n + 1) = s := (nI_eq (by omega) (by have := hN.2.1; omega)).mp es
        rw [show sn - (6 - (n + 1)) = (sn - (6 - n)) + 1 by omega]
        show (if dk_rep h (6 - (n + 1)) = true then dk_wr nw (6 - (n + 1) + 1) (sn - (6 - n)) (sn_b3 h (6 - (n + 1)) sz nw) (sz + 24) else dk_wr nw (6 - (n + 1) + 1) (sn - (6 - n)) h sz) = _
        rw [es', if_neg (by unfold dk_rep; simpa using hc), show s + 1 = 6 - n by omega]
    · refine ⟨fun c => (by cases c), fun n' _ => ?_⟩
      have es' : 6 - (n + 1) = s := (nI_eq (by omega) (by have := hN.2.1; omega)).mp es
      show sd_E1 l y_X7_writeBlock [v_r 3 s, v_r 1 0, v_i (h.1 0 0 6)] h _
      rw [hnw]
      refine sp_writeBlock hz (by omega) ?_
      show sd_Wq l none y_X8_report true Q 97 [some (v_r 0 0), some (v_i own), some (v_i b), some (v_i (nI (6 - (n + 1)) + 1)), _] [] (sn_b3 h s sz nw) 0 0
      rw [ei]
      have f0 : (sn_b3 h s sz nw).1 0 = h.1 0 := sn_b3_T (by decide) (by decide) (by decide)
      refine sq_wr (nw := nw) n _ (sz + 24) _ (by omega) (sd_SN_of hN (by rw [f0]) (by rw [sn_b3_2])) (by rw [f0]; exact hnw) (sn_b3_s hz) (by omega) ?_
      have ec : dk_wr nw (6 - (n + 1)) (sn - (6 - (n + 1))) h sz = dk_wr nw (6 - n) (sn - (6 - n)) (sn_b3 h s sz nw) (sz + 24) := by
        rw [show sn - (6 - (n + 1)) = (sn - (6 - n)) + 1 by omega]
        show (if dk_rep h (6 - (n + 1)) = true then dk_wr nw (6 - (n + 1) + 1) (sn - (6 - n)) (sn_b3 h (6 - (n + 1)) sz nw) (sz + 24) else dk_wr nw (6 - (n + 1) + 1) (sn - (6 - n)) h sz) = _
        rw [es', if_pos (by unfold dk_rep; simp [c1, c2]), show s + 1 = 6 - n by omega]
      rw [← ec]; exact k
def dk_report (h : sd_H) (sn : Nat) (own : Int32) : sd_H × Nat := dk_wr (h.1 0 0 6) 0 sn (dk_head (sd_pi h 0 0 12 own) own (dk_cnt h 0 sn)) 8
theorem sp_report {own : Int32} (hN : SN h sn) (k : Q (some (v_i (nI (dk_report h sn own).2))) (dk_report h sn own).1) : sd_E1 l y_X8_report [v_r 0 0, v_i own] h Q := by
  refine sd_e1 [9] 80 (cd := cd_X8_report) (by decide) rfl (Nat.le_of_ble_eq_true rfl) ?_
  have hN' : SN (sd_pi h 0 0 12 own) sn := sd_SN_of hN rfl rfl
  refine sq_cnt hN' 6 0 (Nat.le_refl _) (by omega) ?_
  have e0 : 0 + dk_cnt (sd_pi h 0 0 12 own) (6 - 6) (sn - (6 - 6)) = dk_cnt h 0 sn := by
    have : ∀ (n i : Nat), dk_cnt (sd_pi h 0 0 12 own) i n = dk_cnt h i n := by
      intro n
      induction n with
      | zero => intro i; rfl
      | succ n ih => intro i; show (if dk_rep (sd_pi h 0 0 12 own) i = true then 1 else 0) + dk_cnt (sd_pi h 0 0 12 own) (i + 1) n = _; rw [ih]; rfl
    rw [Nat.zero_add, this]; rfl
  rw [e0]
  have hcl := dk_cnt_le h sn 0
  generalize hcc : dk_cnt h 0 sn = b at hcl
  have hb6 : b ≤ 6 := by have := hN.2.1; omega
  refine sd_go [97] 80 (cd := cd_X8_report) (by decide) rfl ?_
  refine sp_append (m := 1) (sz := 0) rfl (by omega) ?_
  refine sp_append (m := 1) (sz := 1) (pk_app_s 1 _ 0 rfl) (by omega) ?_
  refine sp_append (m := 2) (sz := 2) (pk_app_s 1 _ 1 (pk_app_s 1 _ 0 rfl)) (by omega) ?_
  refine sp_append (m := 4) (sz := 4) (pk_app_s 2 _ 2 (pk_app_s 1 _ 1 (pk_app_s 1 _ 0 rfl))) (by omega) ?_
  have f0 : (dk_head (sd_pi h 0 0 12 own) own b).1 0 = (sd_pi h 0 0 12 own).1 0 := dk_head_T (by decide) (by decide)
  show sd_Wq l none y_X8_report true Q 97 [some (v_r 0 0), some (v_i own), some (v_i (nI b)), some (v_i 0), none] [] (dk_head (sd_pi h 0 0 12 own) own b) 0 0
  refine sq_wr (nw := h.1 0 0 6) 6 _ 8 _ (Nat.le_refl _) (sd_SN_of hN' (by rw [f0]) (by rw [dk_head_2])) (by rw [f0]; rfl) dk_head_s (by omega) ?_
  unfold dk_report at k
  rw [hcc] at k
  exact k
end WB
end
section
/-! StreamDesk.digest -/
def dg_f (f : Nat → Int64) : Nat → Nat → Int64 → Int64
  | 0, _, a => a
  | n + 1, i, a => dg_f f n (i + 1) (31 * a + f i)
def dg_s (g : Nat → Nat → Int64) (x : Nat → Int64) : Nat → Nat → Int64 → Int64
  | 0, _, a => a
  | n + 1, i, a => dg_s g x n (i + 1) (31 * dg_f (g i) 17 0 a + x i)
def dk_dg (h : sd_H) (sn sz : Nat) : Int64 := dg_f (fun i => (pk_b h (nI i)).toInt64) sz 0 (dg_s (fun s w => (sn_fld h s (nI w)).toInt64) (fun s => h.2.1 6 s 6) sn 0 (dg_f (fun w => (dk_count h (nI w)).toInt64) 9 0 17))
section DG
variable {l : Launch} {Q : Option sd_V → sd_H → Prop} {sn sz : Nat} {h : sd_H}
theorem sq_d1 {j4 : Option sd_V} : ∀ (n : Nat) (a : Int64), n ≤ 9 → sd_Wq l none y_X8_digest true Q 31 [some (v_r 0 0), some (v_l (dg_f (fun w => (dk_count h (nI w)).toInt64) n (9 - n) a)), none, some (v_i (nI 9)), j4] [] h 0 0 → sd_Wq l none y_X8_digest true Q 6 [some (v_r 0 0), some (v_l a), none, some (v_i (nI (9 - n))), j4] [] h 0 0
  | 0, a, hn, k => by
    refine sd_go [6, 31, 33, 44, 72, 90, 92] 40 (cd := cd_X8_digest) (by decide) rfl ?_
    exact ⟨fun _ => k, fun c => absurd (show (8 : Int32) < nI 9 by decide) c⟩
  | n + 1, a, hn, k => by
    refine sd_go [6, 31, 33, 44, 72, 90, 92] 40 (cd := cd_X8_digest) (by decide) rfl ?_
    refine ⟨fun c => absurd c ?_, fun _ => ?_⟩
    · exact nI_nlt (a := 8) (b := 9 - (n + 1)) (by omega) (by decide)
    refine sp_count ?_
    show sd_Wq l none y_X8_digest true Q 6 [some (v_r 0 0), some (v_l (31 * a + (dk_count h (nI (9 - (n + 1)))).toInt64)), none, some (v_i (nI (9 - (n + 1)) + 1)), j4] [] h 0 0
    rw [nI_1, show 9 - (n + 1) + 1 = 9 - n by omega]
    refine sq_d1 n _ (by omega) ?_
    have k := k
    unfold dg_f at k
    rw [show 9 - (n + 1) + 1 = 9 - n by omega] at k
    exact k
theorem sq_d2 {s : Nat} (hN : SN h sn) (hs : s < sn) : ∀ (n : Nat) (a : Int64), n ≤ 17 → sd_Wq l none y_X8_digest true Q 72 [some (v_r 0 0), some (v_l (dg_f (fun w => (sn_fld h s (nI w)).toInt64) n (17 - n) a)), none, some (v_i (nI s)), some (v_i (nI 17))] [] h 0 0 → sd_Wq l none y_X8_digest true Q 44 [some (v_r 0 0), some (v_l a), none, some (v_i (nI s)), some (v_i (nI (17 - n)))] [] h 0 0
  | 0, a, hn, k => by
    refine sd_go [6, 31, 33, 44, 72, 90, 92] 40 (cd := cd_X8_digest) (by decide) rfl ?_
    exact ⟨fun _ => k, fun c => absurd (show (16 : Int32) < nI 17 by decide) c⟩
  | n + 1, a, hn, k => by
    refine sd_go [6, 31, 33, 44, 72, 90, 92] 40 (cd := cd_X8_digest) (by decide) rfl ?_
    refine ⟨fun c => absurd c ?_, fun _ => ?_⟩
    · exact nI_nlt (a := 16) (b := 17 - (n + 1)) (by omega) (by decide)
    have h6 := hN.2.1
    refine sp_sender hN (fun c => ?_) (fun s' hs' es => ?_)
    · exfalso
      rcases c with c | c
      · exact absurd c (nI_pos (by omega))
      · have := (nI_leI (a := sn) (b := s) (by omega) (by omega)).mp c
        omega
    · have es : s = s' := (nI_eq (by omega) (by omega)).mp es
      subst es
      show sd_Wq l none y_X8_digest true Q 44 [some (v_r 0 0), some (v_l (31 * a + (sn_fld h s (nI (17 - (n + 1)))).toInt64)), none, some (v_i (nI s)), some (v_i (nI (17 - (n + 1)) + 1))] [] h 0 0
      rw [nI_1, show 17 - (n + 1) + 1 = 17 - n by omega]
      refine sq_d2 hN hs n _ (by omega) ?_
      have k := k
      unfold dg_f at k
      rw [show 17 - (n + 1) + 1 = 17 - n by omega] at k
      exact k
theorem sq_d3 (hN : SN h sn) : ∀ (n : Nat) (a : Int64) (j4 : Option sd_V), n ≤ sn → (∀ j4 : Option sd_V, sd_Wq l none y_X8_digest true Q 90 [some (v_r 0 0), some (v_l (dg_s (fun s w => (sn_fld h s (nI w)).toInt64) (fun s => h.2.1 6 s 6) n (sn - n) a)), none, some (v_i (nI sn)), j4] [] h 0 0) → sd_Wq l none y_X8_digest true Q 33 [some (v_r 0 0), some (v_l a), none, some (v_i (nI (sn - n))), j4] [] h 0 0
  | 0, a, j4, hn, k => by
    refine sd_go [6, 31, 33, 44, 72, 90, 92] 40 (cd := cd_X8_digest) (by decide) rfl ?_
    refine ⟨fun _ => k j4, fun c => absurd ?_ c⟩
    rw [hN.1]
    exact nI_le (Nat.le_refl _) (by have := hN.2.1; omega)
  | n + 1, a, j4, hn, k => by
    have h6 := hN.2.1
    refine sd_go [6, 31, 33, 44, 72, 90, 92] 40 (cd := cd_X8_digest) (by decide) rfl ?_
    refine ⟨fun c => absurd c ?_, fun _ => ?_⟩
    · rw [hN.1]
      exact Int32.not_le.mpr (nI_lt (a := sn - (n + 1)) (b := sn) (by omega) (by omega))
    refine sq_d2 hN (s := sn - (n + 1)) (by omega) 17 a (Nat.le_refl _) ?_
    refine sd_go [6, 31, 33, 44, 90, 92] 40 (cd := cd_X8_digest) (by decide) rfl ?_
    refine sp_next hN (fun c => ?_) (fun s' hs' es => ?_)
    · exfalso
      rcases c with c | c
      · exact absurd c (nI_pos (by omega))
      · have := (nI_leI (a := sn) (b := sn - (n + 1)) (by omega) (by omega)).mp c
        omega
    · have es : sn - (n + 1) = s' := (nI_eq (by omega) (by omega)).mp es
      show sd_Wq l none y_X8_digest true Q 33 [some (v_r 0 0), some (v_l (31 * dg_f (fun w => (sn_fld h (sn - (n + 1)) (nI w)).toInt64) 17 0 a + h.2.1 6 s' 6)), none, some (v_i (nI (sn - (n + 1)) + 1)), some (v_i (nI 17))] [] h 0 0
      rw [nI_1, show sn - (n + 1) + 1 = sn - n by omega, ← es]
      refine sq_d3 hN n _ _ (by omega) (fun j4 => ?_)
      have k := k j4
      unfold dg_s at k
      rw [show sn - (n + 1) + 1 = sn - n by omega] at k
      exact k
theorem sq_d4 (hz : h.1 1 0 1 = nI sz) (hs : sz ≤ 300) {j4 : Option sd_V} : ∀ (n : Nat) (a : Int64), n ≤ sz → Q (some (v_l (dg_f (fun i => (pk_b h (nI i)).toInt64) n (sz - n) a))) h → sd_Wq l none y_X8_digest true Q 92 [some (v_r 0 0), some (v_l a), none, some (v_i (nI (sz - n))), j4] [] h 0 0
  | 0, a, hn, k => by
    refine sd_go [92] 40 (cd := cd_X8_digest) (by decide) rfl ?_
    refine ⟨fun _ => k, fun c => absurd ?_ c⟩
    show h.1 1 0 1 ≤ nI sz
    rw [hz]
    exact nI_le (Nat.le_refl _) (by omega)
  | n + 1, a, hn, k => by
    refine sd_go [92] 40 (cd := cd_X8_digest) (by decide) rfl ?_
    refine ⟨fun c => absurd (show h.1 1 0 1 ≤ nI (sz - (n + 1)) from c) ?_, fun _ => ?_⟩
    · rw [hz]
      exact Int32.not_le.mpr (nI_lt (a := sz - (n + 1)) (b := sz) (by omega) (by omega))
    refine sp_byteAt ?_
    show sd_Wq l none y_X8_digest true Q 92 [some (v_r 0 0), some (v_l (31 * a + (pk_b h (nI (sz - (n + 1)))).toInt64)), none, some (v_i (nI (sz - (n + 1)) + 1)), j4] [] h 0 0
    rw [nI_1, show sz - (n + 1) + 1 = sz - n by omega]
    refine sq_d4 hz hs n _ (by omega) ?_
    unfold dg_f at k
    rw [show sz - (n + 1) + 1 = sz - n by omega] at k
    exact k
theorem sp_digest (hN : SN h sn) (hz : h.1 1 0 1 = nI sz) (hs : sz ≤ 300) (k : Q (some (v_l (dk_dg h sn sz))) h) : sd_E1 l y_X8_digest [v_r 0 0] h Q := by
  refine sd_e1 [6] 40 (cd := cd_X8_digest) (by decide) rfl (Nat.le_of_ble_eq_true rfl) ?_
  refine sq_d1 9 17 (Nat.le_refl _) ?_
  refine sd_go [33] 40 (cd := cd_X8_digest) (by decide) rfl ?_
  have w := sq_d3 (l := l) (Q := Q) hN sn (dg_f (fun w => (dk_count h (nI w)).toInt64) 9 0 17) none (Nat.le_refl _) (fun j4 => ?_)
  · rw [Nat.sub_self] at w
    exact w
  refine sd_go [92] 40 (cd := cd_X8_digest) (by decide) rfl ?_
  rw [Nat.sub_self]
  have w := sq_d4 (l := l) (Q := Q) hz hs (j4 := j4) sz (dg_s (fun s w => (sn_fld h s (nI w)).toInt64) (fun s => h.2.1 6 s 6) sn 0 (dg_f (fun w => (dk_count h (nI w)).toInt64) 9 0 17)) (Nat.le_refl _) (by rw [Nat.sub_self]; exact k)
  rw [Nat.sub_self] at w
  exact w
end DG
end
section
/-! makings of the class: Player, Sender, Numbers, Jitter; senderThatSent, take -/
theorem sd_E1.to {l : Launch} {y : Nat} {as : List sd_V} {h : sd_H} {Q : Option sd_V → sd_H → Prop} (e : sd_E1 l y as h Q) (hok : sd_OK h) : sd_E l y as h Q := sd_E_mono (e hok) fun _ _ q => q.2
section MK
variable {l : Launch} {Q : Option sd_V → sd_H → Prop} {sn : Nat} {h : sd_H}
theorem sp_byteAt0 {i : Int32} (hb0 : h.2.2.1 1 0 0 = some 0) (k : Q (some (v_i (pk_b h i))) h) : sd_E l y_X4_byteAt [v_r 1 0, v_i i] h Q := by
  refine sd_e0 [23] 40 (cd := cd_X4_byteAt) (by decide) rfl (Nat.le_of_ble_eq_true rfl) ?_
  have z : ¬ (0 ≤ i ∧ i < h.1 1 0 1 ∧ i < 300) → Q (some (v_i 0)) h := fun q => by
    unfold pk_b at k; rw [if_neg q] at k; exact k
  refine ⟨fun c1 => ?_, fun c1 => ?_⟩
  · exact z fun q => absurd c1 (Int32.not_lt.mpr q.1)
  · refine ⟨fun c2 => ?_, fun c2 => ?_⟩
    · exact z fun q => absurd c2 (Int32.not_le.mpr q.2.1)
    · refine ⟨fun c3 => ?_, fun c3 => ?_⟩
      · exact z fun q => absurd c3 (Int32.not_le.mpr q.2.2)
      · show sd_Wq l none y_X4_byteAt false Q 23 (sd_in y_X4_byteAt [v_r 1 0, v_i i]) [.inr (.inr (11, h.2.2.1 1 0 0))] h 0 0
        rw [hb0]
        refine sd_go [] 40 (cd := cd_X4_byteAt) (by decide) rfl ?_
        obtain ⟨i1, i2⟩ := i_ix (N := 300) c1 (i_nle c3) (by decide)
        refine ⟨i.toNatClampNeg, ⟨i1, i2⟩, ?_⟩
        unfold pk_b at k
        rw [if_pos ⟨i_nlt c1, i_nle c2, i_nle c3⟩] at k
        exact k
theorem sp_halfAt0 {i : Int32} (hb0 : h.2.2.1 1 0 0 = some 0) (k : Q (some (v_i (pk_2 h i))) h) : sd_E l y_X4_halfAt [v_r 1 0, v_i i] h Q := by
  refine sd_e0 [] 40 (cd := cd_X4_halfAt) (by decide) rfl (Nat.le_of_ble_eq_true rfl) ?_
  refine sp_byteAt0 hb0 ?_
  refine sp_byteAt0 hb0 ?_
  exact k
theorem sp_wordAt0 {i : Int32} (hb0 : h.2.2.1 1 0 0 = some 0) (k : Q (some (v_i (pk_4 h i))) h) : sd_E l y_X4_wordAt [v_r 1 0, v_i i] h Q := by
  refine sd_e0 [] 40 (cd := cd_X4_wordAt) (by decide) rfl (Nat.le_of_ble_eq_true rfl) ?_
  refine sp_halfAt0 hb0 ?_
  refine sp_halfAt0 hb0 ?_
  exact k
theorem sp_number0 (hb0 : h.2.2.1 1 0 0 = some 0) (k : Q (some (v_i (pk_2 h 2))) h) : sd_E l y_X0_number [v_r 1 0] h Q := by
  refine sd_e0 [] 40 (cd := cd_X0_number) (by decide) rfl (Nat.le_of_ble_eq_true rfl) ?_
  exact sp_halfAt0 hb0 k
theorem sp_source0 (hb0 : h.2.2.1 1 0 0 = some 0) (k : Q (some (v_i (pk_4 h 8))) h) : sd_E l y_X0_source [v_r 1 0] h Q := by
  refine sd_e0 [] 40 (cd := cd_X0_source) (by decide) rfl (Nat.le_of_ble_eq_true rfl) ?_
  exact sp_wordAt0 hb0 k
theorem sp_jinit {j : Nat} (k : Q none h) : sd_E l y_X2_init [v_r 5 j] h Q := by
  refine sd_e0 [] 40 (cd := cd_X2_init) (by decide) rfl (Nat.le_of_ble_eq_true rfl) ?_
  exact k
/-- a new Numbers -/
def nb_new (f : Nat → Int32) (q : Int32) : Nat → Int32 := upd (upd (nb_set f q) 0 ((q - 1) &&& 65535)) 4 2
theorem sp_ninit {j : Nat} {q : Int32} (k : Q none (sd_ri h 4 j (nb_new (h.1 4 j) q))) : sd_E l y_X3_init [v_r 4 j, v_i q] h Q := by
  refine sd_e0 [] 40 (cd := cd_X3_init) (by decide) rfl (Nat.le_of_ble_eq_true rfl) ?_
  refine sp_setBy0 ?_
  show Q none (sd_pi (sd_pi (sd_ri h 4 j (nb_set (h.1 4 j) q)) 4 j 0 ((q - 1) &&& 65535)) 4 j 4 2)
  rw [sd_pi_ri, sd_pi_ri]
  exact k
/-- a new Player -/
def pl_new (h : sd_H) (p : Nat) (n : Int32) : sd_H := sd_pi (sd_pr (sd_pr (sd_nw (sd_pr (sd_nw (sd_pr (sd_nw h 16) 6 p 2 (some (h.2.2.2 16))) 17) 6 p 3 (some (h.2.2.2 17))) 18) 6 p 4 (some (h.2.2.2 18))) 6 p 0 (some 0)) 6 p 1 n
theorem sp_pinit {p : Nat} {n : Int32} (k : Q none (pl_new h p n)) : sd_E l y_X5_init [v_r 6 p, v_r 2 0, v_i n] h Q := by
  refine sd_e0 [] 60 (cd := cd_X5_init) (by decide) rfl (Nat.le_of_ble_eq_true rfl) ?_
  refine ⟨rfl, ?_⟩
  refine ⟨rfl, ?_⟩
  refine ⟨rfl, ?_⟩
  exact k
/-- a new Sender -/
def sn_new (h : sd_H) (s : Nat) (b q : Int32) (p : Nat) : sd_H :=
  sd_pr (sd_pr (sd_ri (sd_nw (sd_pi (sd_pr (sd_nw h 5) 3 s 2 (some (h.2.2.2 5))) 3 s 0 b) 4) 4 (h.2.2.2 4) (nb_new (fun _ => 0) q)) 3 s 1 (some (h.2.2.2 4))) 3 s 3 (some p)
theorem sp_sinit {s p : Nat} {b q : Int32} (k : Q none (sn_new h s b q p)) : sd_E l y_X7_init [v_r 3 s, v_i b, v_i q, v_r 6 p] h Q := by
  refine sd_e0 [] 60 (cd := cd_X7_init) (by decide) rfl (Nat.le_of_ble_eq_true rfl) ?_
  refine sp_jinit ?_
  refine sp_ninit ?_
  have e : (sd_nw (sd_pi (sd_pr (sd_nw h 5) 3 s 2 (some (h.2.2.2 5))) 3 s 0 b) 4).1 4 (h.2.2.2 4) = fun _ => 0 := by
    show (if h.2.2.2 4 = h.2.2.2 4 then (fun _ => 0) else _) = _
    rw [if_pos rfl]
  show Q none (sd_pr (sd_pr (sd_ri (sd_nw (sd_pi (sd_pr (sd_nw h 5) 3 s 2 (some (h.2.2.2 5))) 3 s 0 b) 4) 4 (h.2.2.2 4) (nb_new ((sd_nw (sd_pi (sd_pr (sd_nw h 5) 3 s 2 (some (h.2.2.2 5))) 3 s 0 b) 4).1 4 (h.2.2.2 4)) q)) 3 s 1 (some (h.2.2.2 4))) 3 s 3 (some p))
  rw [e]
  exact k
/-- the seventh-less SENDER: Player, Sender, its place in the row, the count -/
def dk_new (h : sd_H) (sn : Nat) (b q : Int32) : sd_H := sd_pi (sd_pr (sn_new (sd_nw (pl_new (sd_nw h 6) (h.2.2.2 6) (nI sn)) 3) (h.2.2.2 3) b q (h.2.2.2 6)) 9 0 sn (some (h.2.2.2 3))) 0 0 5 (nI (sn + 1))
/-- the counts that go with the senders -/
def SC (h : sd_H) (sn : Nat) : Prop := h.2.2.2 3 = sn ∧ h.2.2.2 4 = sn ∧ h.2.2.2 5 = sn ∧ h.2.2.2 6 = sn ∧ h.2.2.2 16 = sn ∧ h.2.2.2 17 = sn ∧ h.2.2.2 18 = sn ∧ h.2.2.2 0 = 1 ∧ h.2.2.2 1 = 1 ∧ h.2.2.2 2 = 1
theorem sp_sent (hN : SN h sn) (hC : SC h sn) (hlt : sn < 6 ∨ ∃ s, dk_find h (pk_4 h 8) 0 sn = some s) (hnew : sn < 6 → dk_find h (pk_4 h 8) 0 sn = none → sd_OK (dk_new h sn (pk_4 h 8) (pk_2 h 2))) (ky : ∀ s, dk_find h (pk_4 h 8) 0 sn = some s → Q (some (v_r 3 s)) h) (kn : sn < 6 → dk_find h (pk_4 h 8) 0 sn = none → Q (some (v_r 3 sn)) (dk_new h sn (pk_4 h 8) (pk_2 h 2))) : sd_E1 l y_X8_senderThatSent [v_r 0 0] h Q := by
  intro hok
  obtain ⟨s3, s4, s5, s6, s16, s17, s18, s0, s1, s2⟩ := hC
  have f0 : h.2.2.1 0 0 0 = some 0 := (hok 0 0 0 (by decide) (by omega)).1 rfl
  have f1 : h.2.2.1 0 0 1 = some 0 := (hok 0 0 1 (by decide) (by omega)).1 rfl
  have f3 : h.2.2.1 0 0 3 = some 0 := (hok 0 0 3 (by decide) (by omega)).1 rfl
  have fb : h.2.2.1 1 0 0 = some 0 := (hok 1 0 0 (by decide) (by omega)).1 rfl
  have hn6 := hN.2.1
  refine sd_e0 [34, 77] 60 (cd := cd_X8_senderThatSent) (by decide) rfl (Nat.le_of_ble_eq_true rfl) ?_
  show sd_E l y_X0_source [.inr (.inr (1, h.2.2.1 0 0 0))] h _
  rw [f0]
  refine (sp_source ?_).to hok
  refine (sp_with hN ?_).to hok
  cases hf : dk_find h (pk_4 h 8) 0 sn with
  | some s => exact ⟨fun n _ => ⟨hok, ky s hf⟩, fun c => (by cases c)⟩
  | none =>
    have hl6 : sn < 6 := by
      rcases hlt with q | ⟨s, q⟩
      · exact q
      · rw [hf] at q; cases q
    refine ⟨fun n c => (by cases c), fun _ => ?_⟩
    refine ⟨fun c => absurd c (by rw [hN.1]; exact nI_pos (by omega)), fun _ => ?_⟩
    refine ⟨fun _ => ?_, fun c => absurd (by rw [hN.1]; exact nI_lt (a := sn) (b := 6) hl6 (by decide)) c⟩
    refine sd_go [77] 60 (cd := cd_X8_senderThatSent) (by decide) rfl ?_
    refine ⟨by decide, ?_⟩
    show sd_E l y_X5_init [v_r 6 (h.2.2.2 6), .inr (.inr (2, h.2.2.1 0 0 1)), v_i (h.1 0 0 5)] (sd_nw h 6) _
    rw [f1, hN.1]
    refine sp_pinit ?_
    show sd_E l y_X0_source [.inr (.inr (1, h.2.2.1 0 0 0))] (sd_nw (pl_new (sd_nw h 6) (h.2.2.2 6) (nI sn)) 3) _
    rw [f0]
    refine sp_source0 fb ?_
    show sd_E l y_X0_number [.inr (.inr (1, h.2.2.1 0 0 0))] (sd_nw (pl_new (sd_nw h 6) (h.2.2.2 6) (nI sn)) 3) _
    rw [f0]
    refine sp_number0 fb ?_
    refine ⟨by decide, ?_⟩
    refine sp_sinit ?_
    show sd_Wq l none y_X8_senderThatSent false _ 77 _ [.inr (.inr (9, h.2.2.1 0 0 3))] (sn_new (sd_nw (pl_new (sd_nw h 6) (h.2.2.2 6) (nI sn)) 3) (h.2.2.2 3) (pk_4 h 8) (pk_2 h 2) (h.2.2.2 6)) _ _
    rw [f3]
    refine sd_go [] 60 (cd := cd_X8_senderThatSent) (by decide) rfl ?_
    refine ⟨sn, ⟨hl6, hN.1⟩, ?_⟩
    have e : sd_pi (sd_pr (sn_new (sd_nw (pl_new (sd_nw h 6) (h.2.2.2 6) (nI sn)) 3) (h.2.2.2 3) (pk_4 h 8) (pk_2 h 2) (h.2.2.2 6)) 9 0 sn (some (h.2.2.2 3))) 0 0 5 (h.1 0 0 5 + 1) = dk_new h sn (pk_4 h 8) (pk_2 h 2) := by
      unfold dk_new; rw [hN.1, nI_1]
    show sd_OK (sd_pi (sd_pr (sn_new (sd_nw (pl_new (sd_nw h 6) (h.2.2.2 6) (nI sn)) 3) (h.2.2.2 3) (pk_4 h 8) (pk_2 h 2) (h.2.2.2 6)) 9 0 sn (some (h.2.2.2 3))) 0 0 5 (h.1 0 0 5 + 1)) ∧ Q (some (v_r 3 (h.2.2.2 3))) (sd_pi (sd_pr (sn_new (sd_nw (pl_new (sd_nw h 6) (h.2.2.2 6) (nI sn)) 3) (h.2.2.2 3) (pk_4 h 8) (pk_2 h 2) (h.2.2.2 6)) 9 0 sn (some (h.2.2.2 3))) 0 0 5 (h.1 0 0 5 + 1))
    rw [e, s3]
    exact ⟨hnew hl6 hf, kn hl6 hf⟩
end MK
end
section
/-! StreamDesk.take; the constructors of the class -/
theorem wn4 (i : Nat) : sd_wn 4 i = 0 := by
  match i with
  | 0 | 1 | 2 | 3 | 4 | 5 | 6 | 7 => rfl
  | _ + 8 => rfl
theorem wn5 (i : Nat) : sd_wn 5 i = 0 := by
  match i with
  | 0 | 1 | 2 => rfl
  | _ + 3 => rfl
theorem wn3 (i : Nat) : ((i = 1 ∨ i = 2 ∨ i = 3) ∧ sd_wn 3 i = 1) ∨ (sd_wn 3 i = 0) := by
  match i with
  | 0 => exact Or.inr rfl
  | 1 => exact Or.inl ⟨by omega, rfl⟩
  | 2 => exact Or.inl ⟨by omega, rfl⟩
  | 3 => exact Or.inl ⟨by omega, rfl⟩
  | 4 | 5 | 6 | 7 => exact Or.inr rfl
  | _ + 8 => exact Or.inr rfl
theorem wn6 (i : Nat) : (i = 0 ∧ sd_wn 6 i = 2) ∨ ((i = 2 ∨ i = 3 ∨ i = 4) ∧ sd_wn 6 i = 1) ∨ (sd_wn 6 i = 0) := by
  match i with
  | 0 => exact Or.inl ⟨rfl, rfl⟩
  | 1 => exact Or.inr (Or.inr rfl)
  | 2 => exact Or.inr (Or.inl ⟨by omega, rfl⟩)
  | 3 => exact Or.inr (Or.inl ⟨by omega, rfl⟩)
  | 4 => exact Or.inr (Or.inl ⟨by omega, rfl⟩)
  | 5 | 6 | 7 | 8 => exact Or.inr (Or.inr rfl)
  | _ + 9 => exact Or.inr (Or.inr rfl)
theorem dk_new_r3 {h : sd_H} {sn k i : Nat} {b q : Int32} (hC : SC h sn) (hk : k ≠ sn) : (dk_new h sn b q).2.2.1 3 k i = h.2.2.1 3 k i := by
  obtain ⟨s3, s4, s5, s6, s16, s17, s18, -⟩ := hC
  simp [dk_new, sn_new, pl_new, sd_pi, sd_pr, sd_nw, sd_ri, s3, hk]
theorem dk_new_r6 {h : sd_H} {sn k i : Nat} {b q : Int32} (hC : SC h sn) (hk : k ≠ sn) : (dk_new h sn b q).2.2.1 6 k i = h.2.2.1 6 k i := by
  obtain ⟨s3, s4, s5, s6, s16, s17, s18, -⟩ := hC
  simp [dk_new, sn_new, pl_new, sd_pi, sd_pr, sd_nw, sd_ri, s6, hk]
theorem dk_new_n3 {h : sd_H} {sn : Nat} {b q : Int32} (hC : SC h sn) : (dk_new h sn b q).2.2.1 3 sn 1 = some sn ∧ (dk_new h sn b q).2.2.1 3 sn 2 = some sn ∧ (dk_new h sn b q).2.2.1 3 sn 3 = some sn := by
  obtain ⟨s3, s4, s5, s6, s16, s17, s18, -⟩ := hC
  simp [dk_new, sn_new, pl_new, sd_pi, sd_pr, sd_nw, sd_ri, s3, s4, s5, s6]
theorem dk_new_n6 {h : sd_H} {sn : Nat} {b q : Int32} (hC : SC h sn) : (dk_new h sn b q).2.2.1 6 sn 0 = some 0 ∧ (dk_new h sn b q).2.2.1 6 sn 2 = some sn ∧ (dk_new h sn b q).2.2.1 6 sn 3 = some sn ∧ (dk_new h sn b q).2.2.1 6 sn 4 = some sn := by
  obtain ⟨s3, s4, s5, s6, s16, s17, s18, -⟩ := hC
  simp [dk_new, sn_new, pl_new, sd_pi, sd_pr, sd_nw, sd_ri, s6, s16, s17, s18]
theorem dk_new_c {h : sd_H} {sn : Nat} {b q : Int32} (hC : SC h sn) : SC (dk_new h sn b q) (sn + 1) := by
  obtain ⟨s3, s4, s5, s6, s16, s17, s18, s0, s1, s2⟩ := hC
  unfold SC
  simp [dk_new, sn_new, pl_new, sd_pi, sd_pr, sd_nw, sd_ri, s3, s4, s5, s6, s16, s17, s18, s0, s1, s2]
theorem dk_new_ok {h : sd_H} {sn : Nat} {b q : Int32} (hok : sd_OK h) (hC : SC h sn) : sd_OK (dk_new h sn b q) := by
  have c' := dk_new_c (b := b) (q := q) hC
  intro T k i hT hk
  rcases (show T = 0 ∨ T = 1 ∨ T = 2 ∨ T = 3 ∨ T = 4 ∨ T = 5 ∨ T = 6 ∨ T = 7 by omega) with rfl | rfl | rfl | rfl | rfl | rfl | rfl | rfl
  · exact hok 0 k i (by decide) hk
  · exact hok 1 k i (by decide) hk
  · exact hok 2 k i (by decide) hk
  · by_cases he : k = sn
    · subst he
      obtain ⟨n1, n2, n3⟩ := dk_new_n3 (b := b) (q := q) hC
      rcases wn3 i with ⟨q1, q2⟩ | q
      · refine ⟨fun _ => ?_, fun z => (by rw [q2] at z; cases z)⟩
        rcases q1 with rfl | rfl | rfl
        · exact n1
        · exact n2
        · exact n3
      · exact ⟨fun z => (by rw [q] at z; cases z), fun z => (by rw [q] at z; cases z)⟩
    · rw [dk_new_r3 hC he]
      exact hok 3 k i (by decide) (by rw [c'.1] at hk; rw [hC.1]; omega)
  · exact ⟨fun z => (by rw [wn4] at z; cases z), fun z => (by rw [wn4] at z; cases z)⟩
  · exact ⟨fun z => (by rw [wn5] at z; cases z), fun z => (by rw [wn5] at z; cases z)⟩
  · by_cases he : k = sn
    · subst he
      obtain ⟨n0, n1, n2, n3⟩ := dk_new_n6 (b := b) (q := q) hC
      rcases wn6 i with ⟨rfl, q2⟩ | ⟨q1, q2⟩ | q
      · exact ⟨fun z => (by rw [q2] at z; cases z), fun _ => n0⟩
      · refine ⟨fun _ => ?_, fun z => (by rw [q2] at z; cases z)⟩
        rcases q1 with rfl | rfl | rfl
        · exact n1
        · exact n2
        · exact n3
      · exact ⟨fun z => (by rw [q] at z; cases z), fun z => (by rw [q] at z; cases z)⟩
    · rw [dk_new_r6 hC he]
      exact hok 6 k i (by decide) (by rw [c'.2.2.2.1] at hk; rw [hC.2.2.2.1]; omega)
  · exact hok 7 k i (by decide) hk
def dk_rcv (h : sd_H) (s e : Nat) : Int32 × sd_H := sn_rcv h s e (pk_2 h 2) (pk_4 h 4) (dk_rt h) (h.1 0 0 6) (h.1 0 0 7)
def dk_take (h : sd_H) (s e : Nat) : Int32 × sd_H := if (dk_rcv h s e).1 = 0 then (0, sd_pi (dk_rcv h s e).2 0 0 9 ((dk_rcv h s e).2.1 0 0 9 + 1)) else (1, sd_pi (dk_rcv h s e).2 0 0 8 ((dk_rcv h s e).2.1 0 0 8 + 1))
section TK
variable {l : Launch} {Q : Option sd_V → sd_H → Prop} {sn : Nat} {h : sd_H}
theorem sp_take {e : Nat} (hN : SN h sn) (hC : SC h sn) (he : h.1 2 0 4 = nI e) (hb : e + 3000 < 2 ^ 31) (kf : ¬ dk_fault h sn = 0 → Q (some (v_i (-10 - dk_fault h sn))) (sd_pi h 0 0 10 (h.1 0 0 10 + 1)))
    (ky : dk_fault h sn = 0 → ∀ (h1 : sd_H) (s : Nat), ((dk_find h (pk_4 h 8) 0 sn = some s ∧ h1 = h) ∨ (dk_find h (pk_4 h 8) 0 sn = none ∧ sn < 6 ∧ s = sn ∧ h1 = dk_new h sn (pk_4 h 8) (pk_2 h 2))) → Q (some (v_i (dk_take h1 s e).1)) (dk_take h1 s e).2) : sd_E1 l y_X8_take [v_r 0 0] h Q := by
  intro hok
  revert hok
  show sd_E1 l y_X8_take [v_r 0 0] h Q
  intro hok
  refine sd_e1 (Q := Q) [18] 80 (cd := cd_X8_take) (by decide) rfl (Nat.le_of_ble_eq_true rfl) ?_ hok
  refine sp_dataFault hN ?_
  refine ⟨fun c1 => ?_, fun c1 => ?_⟩
  · refine sd_go [] 80 (cd := cd_X8_take) (by decide) rfl ?_
    exact ⟨fun n c => (by cases c), fun _ => kf c1⟩
  · have ky := ky c1
    refine ⟨by decide, ?_⟩
    have rest : ∀ (h1 : sd_H) (s : Nat), h1.1 2 0 4 = nI e → Q (some (v_i (dk_take h1 s e).1)) (dk_take h1 s e).2 → sd_Wq l none y_X8_take true Q 18 [some (v_r 0 0), some (v_i (dk_fault h sn)), some (v_r 3 s), none] [] h1 7 100 := by
      intro h1 s he1 k
      refine sd_go [] 80 (cd := cd_X8_take) (by decide) rfl ?_
      refine ⟨fun n _ => ?_, fun c => (by cases c)⟩
      refine sp_dsort ?_
      refine sp_rateOf ?_
      refine sp_number ?_
      refine sp_stamp ?_
      refine sp_receive (e := e) he1 hb ?_
      unfold dk_take at k
      refine ⟨fun (c2 : (dk_rcv h1 s e).1 = 0) => ?_, fun (c2 : ¬ (dk_rcv h1 s e).1 = 0) => ?_⟩
      · rw [if_pos c2] at k; exact k
      · rw [if_neg c2] at k; exact k
    have hlt : sn < 6 ∨ ∃ s, dk_find h (pk_4 h 8) 0 sn = some s := by
      unfold dk_fault at c1
      split at c1
      · split at c1
        · exact absurd c1 (by decide)
        · split at c1
          · next q => exact Or.inl q
          · split at c1
            · exact absurd c1 (by decide)
            · next q =>
              cases hf : dk_find h (pk_4 h 8) 0 sn with
              | none => exact absurd hf q
              | some s => exact Or.inr ⟨s, rfl⟩
      · next q => exact absurd c1 q
    refine sp_sent hN hC hlt (fun _ _ => dk_new_ok hok hC) (fun s hf => ?_) (fun hl hf => ?_)
    · exact rest h s he (ky h s (Or.inl ⟨hf, rfl⟩))
    · exact rest _ sn he (ky _ sn (Or.inr ⟨hf, hl, rfl, rfl⟩))
/-! constructors of the class -/
def pk_ini (h : sd_H) (p : Nat) : sd_H := sd_pr (sd_nw h 11) 1 p 0 (some (h.2.2.2 11))
theorem sp_pkinit {p : Nat} (k : Q none (pk_ini h p)) : sd_E l y_X4_init [v_r 1 p] h Q := by
  refine sd_e0 [] 60 (cd := cd_X4_init) (by decide) rfl (Nat.le_of_ble_eq_true rfl) ?_
  refine ⟨rfl, ?_⟩
  exact k
def ev_ini (h : sd_H) (p : Nat) : sd_H := sd_pr (sd_nw (sd_pr (sd_nw (sd_pr (sd_nw (sd_pr (sd_nw h 12) 2 p 0 (some (h.2.2.2 12))) 13) 2 p 1 (some (h.2.2.2 13))) 14) 2 p 2 (some (h.2.2.2 14))) 15) 2 p 3 (some (h.2.2.2 15))
theorem sp_evinit {p : Nat} (k : Q none (ev_ini h p)) : sd_E l y_X1_init [v_r 2 p] h Q := by
  refine sd_e0 [] 60 (cd := cd_X1_init) (by decide) rfl (Nat.le_of_ble_eq_true rfl) ?_
  refine ⟨rfl, ?_⟩
  refine ⟨rfl, ?_⟩
  refine ⟨rfl, ?_⟩
  refine ⟨rfl, ?_⟩
  exact k
end TK
end
section
/-! the reference (tag 7): in, put, putAll, type, clear, alter, at, rate, delay, two, four, heard, count -/
theorem i2l_lt {a b : Int32} : a.toInt64 < b.toInt64 ↔ a < b := by
  rw [Int64.lt_iff_toInt_lt, Int32.lt_iff_toInt_lt, Int32.toInt_toInt64, Int32.toInt_toInt64]
section M1
variable {l : Launch} {Q : Option sd_V → sd_H → Prop}
theorem sm_in {h : sd_H} {x lo hi : Int32} {lo' hi' : Int64} (e1 : lo' = lo.toInt64) (e2 : hi' = hi.toInt64) (kn : ¬ (lo ≤ x ∧ x ≤ hi) → Q (some (v_i 0)) h) (ky : lo ≤ x ∧ x ≤ hi → Q (some (v_i 1)) h) : sd_E1 l y_X9_in [v_l x.toInt64, v_l lo', v_l hi'] h Q := by
  subst e1; subst e2
  refine sd_e1 [] 40 (cd := cd_X9_in) (by decide) rfl (Nat.le_of_ble_eq_true rfl) ?_
  refine ⟨fun c1 => ?_, fun c1 => ?_⟩
  · have c1 := i2l_lt.mp (lc_lt.mp c1)
    exact ⟨Or.inl rfl, kn fun q => absurd c1 (Int32.not_lt.mpr q.1)⟩
  · have c1 : ¬ x < lo := fun q => c1 (lc_lt.mpr (i2l_lt.mpr q))
    refine ⟨fun c2 => ?_, fun c2 => ?_⟩
    · have c2 := i2l_lt.mp (lc_gt.mp c2)
      exact ⟨Or.inl rfl, kn fun q => absurd c2 (Int32.not_lt.mpr q.2)⟩
    · have c2 : ¬ hi < x := fun q => c2 (lc_gt.mpr (i2l_lt.mpr q))
      exact ⟨Or.inr rfl, ky ⟨i_nlt c1, i_nlt c2⟩⟩
def mp_put (h : sd_H) (sz : Nat) (v : Int32) : sd_H := sd_pi (sd_pi h 19 0 sz (v &&& 255)) 7 0 2 (nI (sz + 1))
theorem sm_put {h : sd_H} {sz : Nat} {v : Int32} (hz : h.1 7 0 2 = nI sz) (hs : sz < 300) (k : Q none (mp_put h sz v)) : sd_E1 l y_X9_put [v_r 7 0, v_i v] h Q := by
  refine sd_e1 [] 40 (cd := cd_X9_put) (by decide) rfl (Nat.le_of_ble_eq_true rfl) ?_
  refine ⟨sz, ⟨hs, hz⟩, ?_⟩
  show Q none (sd_pi (sd_pi h 19 0 sz (v &&& 255)) 7 0 2 (h.1 7 0 2 + 1))
  rw [hz, nI_1]
  exact k
/-- bytes put one behind the other: b (n - 1), .., b 0 -/
def mp_all (b : Nat → Int32) : Nat → sd_H → Nat → sd_H
  | 0, h, _ => h
  | n + 1, h, sz => mp_all b n (sd_pi (sd_pi h 19 0 sz (b n)) 7 0 2 (nI (sz + 1))) (sz + 1)
def mb (v : Int32) (k : Nat) : Int32 := (v >>> (((8 : Int32) * nI k) &&& 31)) &&& 255
def mt (v : Int64) (k : Nat) : Int32 := (v >>> (((8 : Int32) * nI k).toInt64 &&& 63)).toInt32 &&& 255
theorem sq_putAll {v nn : Int32} : ∀ (m : Nat) (h : sd_H) (sz : Nat), h.1 7 0 2 = nI sz → sz + m ≤ 300 → Q none (mp_all (mb v) m h sz) → sd_Wq l none y_X9_putAll true Q 4 [some (v_r 7 0), some (v_i v), some (v_i nn), some (v_i (nI m - 1))] [] h 0 0
  | 0, h, sz, hz, hle, k => by
    refine sd_go [4] 60 (cd := cd_X9_putAll) (by decide) rfl ?_
    exact ⟨fun _ => k, fun c => absurd (show nI 0 - 1 < 0 by decide) c⟩
  | m + 1, h, sz, hz, hle, k => by
    refine sd_go [4] 60 (cd := cd_X9_putAll) (by decide) rfl ?_
    have em : nI (m + 1) - 1 = nI m := nI_pred m
    refine ⟨fun c => absurd c (by rw [em]; exact nI_pos (by omega)), fun _ => ?_⟩
    refine sm_put hz (by omega) ?_
    show sd_Wq l none y_X9_putAll true Q 4 [some (v_r 7 0), some (v_i v), some (v_i nn), some (v_i (nI (m + 1) - 1 + (-1)))] [] (sd_pi (sd_pi h 19 0 sz ((v >>> (((8 : Int32) * (nI (m + 1) - 1)) &&& 31)) &&& 255)) 7 0 2 (nI (sz + 1))) 0 0
    rw [em, i_m1]
    exact sq_putAll m _ (sz + 1) rfl (by omega) k
theorem sm_putAll {h : sd_H} {v : Int32} {m sz : Nat} (hz : h.1 7 0 2 = nI sz) (hle : sz + m ≤ 300) (k : Q none (mp_all (mb v) m h sz)) : sd_E1 l y_X9_putAll [v_r 7 0, v_i v, v_i (nI m)] h Q := by
  refine sd_e1 [4] 60 (cd := cd_X9_putAll) (by decide) rfl (Nat.le_of_ble_eq_true rfl) ?_
  exact sq_putAll m h sz hz hle k
theorem mp_all_s {b : Nat → Int32} : ∀ (m : Nat) (h : sd_H) (sz : Nat), h.1 7 0 2 = nI sz → (mp_all b m h sz).1 7 0 2 = nI (sz + m)
  | 0, _, _, hz => hz
  | m + 1, h, sz, hz => by rw [show sz + (m + 1) = sz + 1 + m by omega]; exact mp_all_s m _ _ rfl
theorem sq_mtype {v : Int64} {nn : Int32} : ∀ (m : Nat) (h : sd_H) (sz : Nat), h.1 7 0 2 = nI sz → sz + m ≤ 300 → Q (some (v_i (nI (sz + m)))) (mp_all (mt v) m h sz) → sd_Wq l none y_X9_type true Q 35 [some (v_r 7 0), some (v_l v), none, some (v_i nn), some (v_i (nI m - 1))] [] h 0 0
  | 0, h, sz, hz, hle, k => by
    refine sd_go [35] 60 (cd := cd_X9_type) (by decide) rfl ?_
    refine ⟨fun _ => ?_, fun c => absurd (show nI 0 - 1 < 0 by decide) c⟩
    show Q (some (v_i (h.1 7 0 2))) h
    rw [hz]; exact k
  | m + 1, h, sz, hz, hle, k => by
    refine sd_go [35] 60 (cd := cd_X9_type) (by decide) rfl ?_
    have em : nI (m + 1) - 1 = nI m := nI_pred m
    refine ⟨fun c => absurd c (by rw [em]; exact nI_pos (by omega)), fun _ => ?_⟩
    refine sm_put hz (by omega) ?_
    show sd_Wq l none y_X9_type true Q 35 [some (v_r 7 0), some (v_l v), none, some (v_i nn), some (v_i (nI (m + 1) - 1 + (-1)))] [] (sd_pi (sd_pi h 19 0 sz ((v >>> (((8 : Int32) * (nI (m + 1) - 1)).toInt64 &&& 63)).toInt32 &&& 255)) 7 0 2 (nI (sz + 1))) 0 0
    rw [em, i_m1]
    refine sq_mtype m _ (sz + 1) rfl (by omega) ?_
    rw [show sz + 1 + m = sz + (m + 1) by omega]
    exact k
variable {h : sd_H}
theorem sm_type {v : Int64} {n : Int32} {sz : Nat} (hz : h.1 7 0 2 = nI sz) (hs : sz ≤ 300) (kb : (n < 0 ∨ 8 < n) → Q (some (v_i (-2))) h) (kf : ∀ m : Nat, m ≤ 8 → n = nI m → 300 < sz + m → Q (some (v_i (-3))) h) (ky : ∀ m : Nat, m ≤ 8 → n = nI m → sz + m ≤ 300 → Q (some (v_i (nI (sz + m)))) (mp_all (mt v) m h sz)) : sd_E1 l y_X9_type [v_r 7 0, v_l v, v_i n] h Q := by
  refine sd_e1 [35] 60 (cd := cd_X9_type) (by decide) rfl (Nat.le_of_ble_eq_true rfl) ?_
  refine sm_in (lo := 0) (hi := 8) (by decide) (by decide) (fun c => ?_) (fun c => ?_)
  · refine ⟨fun q => absurd rfl q, fun _ => kb ?_⟩
    by_cases c1 : n < 0
    · exact Or.inl c1
    · exact Or.inr (i_nle fun q => c ⟨i_nlt c1, q⟩)
  · refine ⟨fun _ => ?_, fun q => absurd q (by decide)⟩
    obtain ⟨m, hm, rfl⟩ := nI_of2 (M := 8) (n := 8) rfl (Int32.not_lt.mpr c.1) c.2
    refine ⟨fun c3 => ?_, fun c3 => ?_⟩
    · rw [hz, nI_add] at c3
      have c3 := (nI_leI (a := sz + m) (b := 300) (by omega) (by decide)).mp c3
      exact sq_mtype m h sz hz c3 (ky m hm rfl c3)
    · rw [hz, nI_add] at c3
      have c3 : ¬ sz + m ≤ 300 := fun q => c3 ((nI_leI (a := sz + m) (b := 300) (by omega) (by decide)).mpr q)
      exact kf m hm rfl (by omega)
theorem sm_clear (k : Q (some (v_i (h.1 7 0 2))) (sd_pi h 7 0 2 0)) : sd_E1 l y_X9_clear [v_r 7 0] h Q := by
  refine sd_e1 [] 60 (cd := cd_X9_clear) (by decide) rfl (Nat.le_of_ble_eq_true rfl) ?_
  exact k
theorem m_ix {i : Int32} {sz : Nat} (hz : h.1 7 0 2 = nI sz) (hs : sz ≤ 300) (c : 0 ≤ i ∧ i ≤ h.1 7 0 2 - 1) : ∃ j, j < sz ∧ i = nI j := by
  obtain ⟨j, hj, rfl⟩ := nI_of (Int32.not_lt.mpr c.1)
  refine ⟨j, ?_, rfl⟩
  have c2 := c.2
  rw [hz] at c2
  rcases Nat.eq_zero_or_pos sz with q | q
  · subst q
    exact absurd (show nI j ≤ -1 from c2) (Int32.not_le.mpr (by
      have := nI_pos' hj
      rw [Int32.le_iff_toInt_le] at this
      rw [Int32.lt_iff_toInt_lt]
      have e0 : (0 : Int32).toInt = 0 := rfl
      have e1 : (-1 : Int32).toInt = -1 := rfl
      omega))
  · rw [show nI sz - 1 = nI (sz - 1) by rw [show sz = (sz - 1) + 1 by omega, nI_pred]; rfl] at c2
    have := (nI_leI hj (by omega)).mp c2
    omega
theorem m_ix2 {i : Int32} {sz j : Nat} (hz : h.1 7 0 2 = nI sz) (hs : sz ≤ 300) (hj : j < sz) (hi : i = nI j) : 0 ≤ i ∧ i ≤ h.1 7 0 2 - 1 := by
  subst hi
  refine ⟨nI_pos' (by omega), ?_⟩
  rw [hz, show nI sz - 1 = nI (sz - 1) by rw [show sz = (sz - 1) + 1 by omega, nI_pred]; rfl]
  exact nI_le (by omega) (by omega)
theorem sm_at {i : Int32} {sz : Nat} (hz : h.1 7 0 2 = nI sz) (hs : sz ≤ 300) (kn : (∀ j, j < sz → ¬ i = nI j) → Q (some (v_i (-2))) h) (ky : ∀ j, j < sz → i = nI j → Q (some (v_i (h.1 19 0 j))) h) : sd_E1 l y_X9_at [v_r 7 0, v_i i] h Q := by
  refine sd_e1 [] 60 (cd := cd_X9_at) (by decide) rfl (Nat.le_of_ble_eq_true rfl) ?_
  refine sm_in (lo := 0) (hi := h.1 7 0 2 - 1) (by decide) rfl (fun c => ?_) (fun c => ?_)
  · exact ⟨fun _ => kn fun j hj e => c (m_ix2 hz hs hj e), fun q => absurd rfl q⟩
  · obtain ⟨j, hj, e⟩ := m_ix hz hs c
    refine ⟨fun q => absurd q (by decide), fun _ => ?_⟩
    exact ⟨j, ⟨show j < 300 by omega, e⟩, ky j hj e⟩
theorem sm_alter {i v : Int32} {sz : Nat} (hz : h.1 7 0 2 = nI sz) (hs : sz ≤ 300) (kn : (∀ j, j < sz → i = nI j → ¬ (0 ≤ v ∧ v ≤ 255)) → Q (some (v_i (-2))) h) (ky : ∀ j, j < sz → i = nI j → 0 ≤ v ∧ v ≤ 255 → Q (some (v_i (h.1 19 0 j))) (sd_pi h 19 0 j v)) : sd_E1 l y_X9_alter [v_r 7 0, v_i i, v_i v] h Q := by
  refine sd_e1 [] 60 (cd := cd_X9_alter) (by decide) rfl (Nat.le_of_ble_eq_true rfl) ?_
  refine sm_in (lo := 0) (hi := h.1 7 0 2 - 1) (by decide) rfl (fun c => ?_) (fun c => ?_)
  · exact ⟨fun _ => kn fun j hj e => absurd (m_ix2 hz hs hj e) c, fun q => absurd rfl q⟩
  · obtain ⟨j, hj, e⟩ := m_ix hz hs c
    refine ⟨fun q => absurd q (by decide), fun _ => ?_⟩
    refine sm_in (lo := 0) (hi := 255) (by decide) (by decide) (fun c2 => ?_) (fun c2 => ?_)
    · exact ⟨fun q => absurd rfl q, fun _ => kn fun _ _ _ => c2⟩
    · refine ⟨fun _ => ?_, fun q => absurd q (by decide)⟩
      exact ⟨j, ⟨show j < 300 by omega, e⟩, j, ⟨show j < 300 by omega, e⟩, ky j hj e c2⟩
theorem sm_rate {i v : Int32} (kn : ¬ (0 ≤ i ∧ i < 128 ∧ 0 ≤ v ∧ v ≤ 200000) → Q (some (v_i (-2))) h) (ky : 0 ≤ i ∧ i < 128 ∧ 0 ≤ v ∧ v ≤ 200000 → Q (some (v_i (h.1 20 0 i.toNatClampNeg))) (sd_pi h 20 0 i.toNatClampNeg v)) : sd_E1 l y_X9_rate [v_r 7 0, v_i i, v_i v] h Q := by
  refine sd_e1 [] 60 (cd := cd_X9_rate) (by decide) rfl (Nat.le_of_ble_eq_true rfl) ?_
  have hi : i ≤ 127 ↔ i < 128 := by
    rw [Int32.le_iff_toInt_le, Int32.lt_iff_toInt_lt]
    have e0 : (127 : Int32).toInt = 127 := rfl
    have e1 : (128 : Int32).toInt = 128 := rfl
    omega
  refine sm_in (lo := 0) (hi := 127) (by decide) (by decide) (fun c => ?_) (fun c => ?_)
  · exact ⟨fun _ => kn fun q => c ⟨q.1, hi.mpr q.2.1⟩, fun q => absurd rfl q⟩
  · refine ⟨fun q => absurd q (by decide), fun _ => ?_⟩
    obtain ⟨i1, i2⟩ := i_ix (N := 128) (Int32.not_lt.mpr c.1) (hi.mp c.2) (by decide)
    refine sm_in (lo := 0) (hi := 200000) (by decide) (by decide) (fun c2 => ?_) (fun c2 => ?_)
    · exact ⟨fun q => absurd rfl q, fun _ => kn fun q => c2 q.2.2⟩
    · refine ⟨fun _ => ?_, fun q => absurd q (by decide)⟩
      exact ⟨_, ⟨i1, i2⟩, _, ⟨i1, i2⟩, ky ⟨c.1, hi.mp c.2, c2⟩⟩
theorem sm_delay {v : Int32} (kn : ¬ (0 ≤ v ∧ v ≤ 5000) → Q (some (v_i (-2))) h) (ky : 0 ≤ v ∧ v ≤ 5000 → Q (some (v_i (h.1 7 0 1))) (sd_pi h 7 0 1 v)) : sd_E1 l y_X9_delay [v_r 7 0, v_i v] h Q := by
  refine sd_e1 [] 60 (cd := cd_X9_delay) (by decide) rfl (Nat.le_of_ble_eq_true rfl) ?_
  refine sm_in (lo := 0) (hi := 5000) (by decide) (by decide) (fun c => ?_) (fun c => ?_)
  · exact ⟨fun q => absurd rfl q, fun _ => kn c⟩
  · exact ⟨fun _ => ky c, fun q => absurd q (by decide)⟩
theorem sm_heard {w : Int32} (k : Q (some (v_i (if w < 0 then -2 else if 7 ≤ w then -2 else h.1 45 0 w.toNatClampNeg))) h) : sd_E1 l y_X9_heard [v_r 7 0, v_i w] h Q := by
  refine sd_e1 [] 60 (cd := cd_X9_heard) (by decide) rfl (Nat.le_of_ble_eq_true rfl) ?_
  have hi : w ≤ 6 ↔ w < 7 := by
    rw [Int32.le_iff_toInt_le, Int32.lt_iff_toInt_lt]
    have e0 : (6 : Int32).toInt = 6 := rfl
    have e1 : (7 : Int32).toInt = 7 := rfl
    omega
  refine sm_in (lo := 0) (hi := 6) (by decide) (by decide) (fun c => ?_) (fun c => ?_)
  · refine ⟨fun _ => ?_, fun q => absurd rfl q⟩
    by_cases c1 : w < 0
    · rw [if_pos c1] at k; exact k
    · rw [if_neg c1, if_pos (i_nlt fun q => c ⟨i_nlt c1, hi.mpr q⟩)] at k; exact k
  · refine ⟨fun q => absurd q (by decide), fun _ => ?_⟩
    have c1 : ¬ w < 0 := Int32.not_lt.mpr c.1
    have c2 := hi.mp c.2
    rw [if_neg c1, if_neg (Int32.not_le.mpr c2)] at k
    obtain ⟨i1, i2⟩ := i_ix (N := 7) c1 c2 (by decide)
    exact ⟨_, ⟨i1, i2⟩, k⟩
def md_count (h : sd_H) (w : Int32) : Int32 := if w = 0 then h.1 7 0 2 else if w = 1 then h.1 7 0 8 else if w = 2 then h.1 7 0 0 else if w = 3 then h.1 7 0 35 else if w = 4 then h.1 7 0 32 else if w = 5 then h.1 7 0 33 else if w = 6 then h.1 7 0 34 else if w = 7 then h.1 7 0 39 else if w = 8 then h.1 7 0 1 else -2
theorem sm_count {w : Int32} (k : Q (some (v_i (md_count h w))) h) : sd_E1 l y_X9_count [v_r 7 0, v_i w] h Q := by
  refine sd_e1 [] 60 (cd := cd_X9_count) (by decide) rfl (Nat.le_of_ble_eq_true rfl) ?_
  unfold md_count at k
  refine ⟨fun (c : w = 0) => ?_, fun (c : ¬ w = 0) => ?_⟩
  · rw [if_pos c] at k; exact k
  rw [if_neg c] at k
  refine ⟨fun (c : w = 1) => ?_, fun (c : ¬ w = 1) => ?_⟩
  · rw [if_pos c] at k; exact k
  rw [if_neg c] at k
  refine ⟨fun (c : w = 2) => ?_, fun (c : ¬ w = 2) => ?_⟩
  · rw [if_pos c] at k; exact k
  rw [if_neg c] at k
  refine ⟨fun (c : w = 3) => ?_, fun (c : ¬ w = 3) => ?_⟩
  · rw [if_pos c] at k; exact k
  rw [if_neg c] at k
  refine ⟨fun (c : w = 4) => ?_, fun (c : ¬ w = 4) => ?_⟩
  · rw [if_pos c] at k; exact k
  rw [if_neg c] at k
  refine ⟨fun (c : w = 5) => ?_, fun (c : ¬ w = 5) => ?_⟩
  · rw [if_pos c] at k; exact k
  rw [if_neg c] at k
  refine ⟨fun (c : w = 6) => ?_, fun (c : ¬ w = 6) => ?_⟩
  · rw [if_pos c] at k; exact k
  rw [if_neg c] at k
  refine ⟨fun (c : w = 7) => ?_, fun (c : ¬ w = 7) => ?_⟩
  · rw [if_pos c] at k; exact k
  rw [if_neg c] at k
  refine ⟨fun (c : w = 8) => ?_, fun (c : ¬ w = 8) => ?_⟩
  · rw [if_pos c] at k; exact k
  rw [if_neg c] at k
  exact k
def m2 (h : sd_H) (j : Nat) : Int32 := 256 * h.1 19 0 j + h.1 19 0 (j + 1)
def m4 (h : sd_H) (j : Nat) : Int32 := h.1 19 0 j <<< 24 ||| h.1 19 0 (j + 1) <<< 16 ||| h.1 19 0 (j + 2) <<< 8 ||| h.1 19 0 (j + 3)
theorem sm_two {j : Nat} {x : Int32} (hj : j + 1 < 300) (hx : x = nI j) (k : Q (some (v_i (m2 h j))) h) : sd_E1 l y_X9_two [v_r 7 0, v_i x] h Q := by
  refine sd_e1 [] 60 (cd := cd_X9_two) (by decide) rfl (Nat.le_of_ble_eq_true rfl) ?_
  refine ⟨j, ⟨show j < 300 by omega, hx⟩, ?_⟩
  exact ⟨j + 1, ⟨hj, by rw [hx, nI_1]⟩, k⟩
theorem sm_four {j : Nat} {x : Int32} (hj : j + 3 < 300) (hx : x = nI j) (k : Q (some (v_i (m4 h j))) h) : sd_E1 l y_X9_four [v_r 7 0, v_i x] h Q := by
  refine sd_e1 [] 60 (cd := cd_X9_four) (by decide) rfl (Nat.le_of_ble_eq_true rfl) ?_
  refine ⟨j, ⟨show j < 300 by omega, hx⟩, ?_⟩
  refine ⟨j + 1, ⟨show j + 1 < 300 by omega, by rw [hx, nI_1]⟩, ?_⟩
  refine ⟨j + 2, ⟨show j + 2 < 300 by omega, by rw [hx, show (2 : Int32) = nI 2 from rfl, nI_add]⟩, ?_⟩
  exact ⟨j + 3, ⟨hj, by rw [hx, show (3 : Int32) = nI 3 from rfl, nI_add]⟩, k⟩
end M1
end
section
/-! what a call may change; the bytes of THE PACKET on both sides -/
def Fx (P : Nat → Nat → Nat → Prop) (h h' : sd_H) : Prop := (∀ T k i, ¬ P T k i → h'.1 T k i = h.1 T k i) ∧ (∀ T k i, ¬ P T k i → h'.2.1 T k i = h.2.1 T k i) ∧ h'.2.2 = h.2.2
section FX
variable {P P' : Nat → Nat → Nat → Prop} {h g g' : sd_H} {T k i : Nat}
theorem Fx.rf : Fx P h h := ⟨fun _ _ _ _ => rfl, fun _ _ _ _ => rfl, rfl⟩
theorem Fx.pi {v : Int32} (x : Fx P h g) (p : P T k i) : Fx P h (sd_pi g T k i v) :=
  ⟨fun T' k' i' q => by rw [sd_pi_ne (fun e => q (by obtain ⟨rfl, rfl, rfl⟩ := e; exact p))]; exact x.1 T' k' i' q, x.2.1, x.2.2⟩
theorem Fx.pl {v : Int64} (x : Fx P h g) (p : P T k i) : Fx P h (sd_pl g T k i v) :=
  ⟨x.1, fun T' k' i' q => by rw [sd_pl_ne (fun e => q (by obtain ⟨rfl, rfl, rfl⟩ := e; exact p))]; exact x.2.1 T' k' i' q, x.2.2⟩
theorem sd_ri_ne {f : Nat → Int32} {T' k' : Nat} (hn : ¬ (T' = T ∧ k' = k)) : (sd_ri g T k f).1 T' k' = g.1 T' k' := by
  unfold sd_ri
  dsimp only
  by_cases h1 : T' = T
  · subst h1
    rw [if_pos rfl, if_neg (fun q => hn ⟨rfl, q⟩)]
  · rw [if_neg h1]
theorem Fx.ri {f : Nat → Int32} (x : Fx P h g) (p : ∀ i, P T k i) : Fx P h (sd_ri g T k f) :=
  ⟨fun T' k' i' q => by rw [sd_ri_ne (fun e => q (by obtain ⟨rfl, rfl⟩ := e; exact p i'))]; exact x.1 T' k' i' q, x.2.1, x.2.2⟩
theorem Fx.mono (x : Fx P h g) (m : ∀ T k i, P T k i → P' T k i) : Fx P' h g :=
  ⟨fun T k i q => x.1 T k i fun z => q (m T k i z), fun T k i q => x.2.1 T k i fun z => q (m T k i z), x.2.2⟩
theorem Fx.tr (x : Fx P h g) (z : Fx P g g') : Fx P h g' :=
  ⟨fun T k i q => (z.1 T k i q).trans (x.1 T k i q), fun T k i q => (z.2.1 T k i q).trans (x.2.1 T k i q), z.2.2.trans x.2.2⟩
end FX
theorem nb_or {a b : Nat} (k : Nat) (hb : b < 2 ^ k) (h : a * 2 ^ k + b < 2 ^ 32) : nI (a * 2 ^ k) ||| nI b = nI (a * 2 ^ k + b) := by
  apply Int32.toBitVec_inj.mp
  apply BitVec.eq_of_toNat_eq
  rw [Int32.toBitVec_or, BitVec.toNat_or, pk_tn (by omega), pk_tn (by omega), pk_tn h]
  have := Nat.shiftLeft_add_eq_or_of_lt hb a
  rw [Nat.shiftLeft_eq] at this
  exact this.symm
def g2 (g : Nat → Nat) (j : Nat) : Nat := 256 * g j + g (j + 1)
def g4 (g : Nat → Nat) (j : Nat) : Nat := 16777216 * g j + 65536 * g (j + 1) + 256 * g (j + 2) + g (j + 3)
theorem by_2 {a b : Nat} (ha : a < 256) (hb : b < 256) : nI a <<< 8 ||| nI b = nI (256 * a + b) := by
  rw [pk_shlN 8 8 (by decide) (by omega)]
  have := nb_or (a := a) (b := b) 8 (by omega) (by omega)
  rw [this, show a * 2 ^ 8 + b = 256 * a + b by omega]
theorem by_4 {a b : Nat} (ha : a < 65536) (hb : b < 65536) : nI a <<< 16 ||| nI b = nI (65536 * a + b) := by
  rw [pk_shlN 16 16 (by decide) (by omega)]
  have := nb_or (a := a) (b := b) 16 (by omega) (by omega)
  rw [this, show a * 2 ^ 16 + b = 65536 * a + b by omega]
theorem by_m4 {a b c d : Nat} (ha : a < 256) (hb : b < 256) (hc : c < 256) (hd : d < 256) : nI a <<< 24 ||| nI b <<< 16 ||| nI c <<< 8 ||| nI d = nI (16777216 * a + 65536 * b + 256 * c + d) := by
  rw [pk_shlN 24 24 (by decide) (by omega), pk_shlN 16 16 (by decide) (by omega), pk_shlN 8 8 (by decide) (by omega)]
  have e1 := nb_or (a := a) (b := b * 2 ^ 16) 24 (by omega) (by omega)
  have e2 := nb_or (a := a * 2 ^ 8 + b) (b := c * 2 ^ 8) 16 (by omega) (by omega)
  have e3 := nb_or (a := a * 2 ^ 16 + b * 2 ^ 8 + c) (b := d) 8 (by omega) (by omega)
  rw [e1, show a * 2 ^ 24 + b * 2 ^ 16 = (a * 2 ^ 8 + b) * 2 ^ 16 by omega, e2, show (a * 2 ^ 8 + b) * 2 ^ 16 + c * 2 ^ 8 = (a * 2 ^ 16 + b * 2 ^ 8 + c) * 2 ^ 8 by omega, e3]
  congr 1
  omega
/-- THE PACKET: size and bytes on both sides -/
def PK (hc hm : sd_H) (sz : Nat) (g : Nat → Nat) : Prop := hc.1 1 0 1 = nI sz ∧ hm.1 7 0 2 = nI sz ∧ sz ≤ 300 ∧ ∀ i, i < 300 → hm.1 19 0 i = nI (g i) ∧ hc.1 11 0 i = nI (g i) ∧ g i < 256
section PKL
variable {hc hm : sd_H} {sz : Nat} {g : Nat → Nat}
theorem PK.b (hp : PK hc hm sz g) {j : Nat} (hj : j < sz) : pk_b hc (nI j) = nI (g j) := by
  obtain ⟨p1, p2, p3, p4⟩ := hp
  unfold pk_b
  rw [if_pos ⟨nI_pos' (by omega), by rw [p1]; exact nI_lt hj (by omega), nI_lt (a := j) (b := 300) (by omega) (by decide)⟩, nI_clamp (by omega)]
  exact (p4 j (by omega)).2.1
theorem PK.z (hp : PK hc hm sz g) {j : Nat} (hj : sz ≤ j) (hb : j < 2 ^ 31) : pk_b hc (nI j) = 0 := by
  obtain ⟨p1, p2, p3, p4⟩ := hp
  unfold pk_b
  rw [if_neg]
  intro q
  have := q.2.1
  rw [p1] at this
  exact nI_nlt hj hb this
theorem PK.lt (hp : PK hc hm sz g) {j : Nat} (hj : j < sz) : g j < 256 := (hp.2.2.2 j (by have := hp.2.2.1; omega)).2.2
theorem PK.b0 (hp : PK hc hm sz g) {j : Nat} (hb : j < 2 ^ 31) : ∃ b, b < 256 ∧ pk_b hc (nI j) = nI b ∧ (j < sz → b = g j) := by
  rcases Nat.lt_or_ge j sz with q | q
  · exact ⟨g j, hp.lt q, hp.b q, fun _ => rfl⟩
  · exact ⟨0, by omega, hp.z q hb, fun z => by omega⟩
theorem PK.h0 (hp : PK hc hm sz g) {j : Nat} (hb : j + 1 < 2 ^ 31) : ∃ b, b < 65536 ∧ pk_2 hc (nI j) = nI b ∧ (j + 1 < sz → b = g2 g j) := by
  obtain ⟨b1, a1, a2, a3⟩ := hp.b0 (j := j) (by omega)
  obtain ⟨b2, c1, c2, c3⟩ := hp.b0 (j := j + 1) hb
  refine ⟨256 * b1 + b2, by omega, ?_, fun q => ?_⟩
  · unfold pk_2
    rw [nI_1, a2, c2, by_2 a1 c1]
  · rw [a3 (by omega), c3 q]; rfl
theorem PK.h (hp : PK hc hm sz g) {j : Nat} (hj : j + 1 < sz) : pk_2 hc (nI j) = nI (g2 g j) := by
  obtain ⟨b, b1, b2, b3⟩ := hp.h0 (j := j) (by have := hp.2.2.1; omega)
  rw [b2, b3 hj]
theorem PK.w (hp : PK hc hm sz g) {j : Nat} (hj : j + 3 < sz) : pk_4 hc (nI j) = nI (g4 g j) := by
  have h1 := hp.lt (j := j) (by omega)
  have h2 := hp.lt (j := j + 1) (by omega)
  have h3 := hp.lt (j := j + 2) (by omega)
  have h4 := hp.lt (j := j + 3) (by omega)
  unfold pk_4
  rw [show (2 : Int32) = nI 2 from rfl, nI_add, hp.h (j := j) (by omega), hp.h (j := j + 2) (by omega)]
  unfold g2
  rw [show j + 2 + 1 = j + 3 from rfl, by_4 (by omega) (by omega)]
  unfold g4
  congr 1
  omega
theorem PK.m (hp : PK hc hm sz g) {j : Nat} (hj : j < 300) : hm.1 19 0 j = nI (g j) := (hp.2.2.2 j hj).1
theorem PK.l3 (hp : PK hc hm sz g) {j : Nat} (hj : j < 300) : g j < 256 := (hp.2.2.2 j hj).2.2
theorem PK.mm2 (hp : PK hc hm sz g) {j : Nat} (hj : j + 1 < 300) : m2 hm j = nI (g2 g j) := by
  unfold m2 g2
  rw [hp.m (j := j) (by omega), hp.m hj, show (256 : Int32) = nI 256 from rfl, pk_mul, nI_add]
theorem PK.mm4 (hp : PK hc hm sz g) {j : Nat} (hj : j + 3 < 300) : m4 hm j = nI (g4 g j) := by
  unfold m4 g4
  rw [hp.m (j := j) (by omega), hp.m (j := j + 1) (by omega), hp.m (j := j + 2) (by omega), hp.m hj]
  exact by_m4 (hp.l3 (by omega)) (hp.l3 (by omega)) (hp.l3 (by omega)) (hp.l3 (by omega))
theorem PK.two (hp : PK hc hm sz g) {j : Nat} (hj : j + 1 < sz) : m2 hm j = pk_2 hc (nI j) := by rw [hp.mm2 (by have := hp.2.2.1; omega), hp.h hj]
theorem PK.four (hp : PK hc hm sz g) {j : Nat} (hj : j + 3 < sz) : m4 hm j = pk_4 hc (nI j) := by rw [hp.mm4 (by have := hp.2.2.1; omega), hp.w hj]
theorem PK.fx {P : Nat → Nat → Nat → Prop} {hm' : sd_H} (hp : PK hc hm sz g) (x : Fx P hm hm') (n1 : ¬ P 7 0 2) (n2 : ∀ i, ¬ P 19 0 i) : PK hc hm' sz g :=
  ⟨hp.1, by rw [x.1 _ _ _ n1]; exact hp.2.1, hp.2.2.1, fun i hi => by rw [x.1 _ _ _ (n2 i)]; exact hp.2.2.2 i hi⟩
end PKL
theorem by_15 : ∀ b, b < 256 → nI b &&& 15 = nI (b % 16) := fun b hb => pk_andN (by omega) 4 (by decide)
theorem by_16 : ∀ b, b < 256 → ((nI b >>> 4 &&& 1 = 1) ↔ ¬ (nI b &&& 16 = 0)) := by decide +kernel
theorem by_32 : ∀ b, b < 256 → ((nI b >>> 5 &&& 1 = 1) ↔ ¬ (nI b &&& 32 = 0)) := by decide +kernel
end
section
/-! the reference: formOf, senderOf, faultOf, data -/
section FO
variable {l : Launch} {Q : Option sd_V → sd_H → Prop} {hc hm : sd_H} {sz : Nat} {g : Nat → Nat}
theorem sm_formOf (hp : PK hc hm sz g) (k : ∀ hm', Fx (fun T _ i => T = 7 ∧ 5 ≤ i ∧ i ≤ 7) hm hm' → (df_shape hc = 0 → 12 ≤ sz ∧ hm'.1 7 0 5 = df_pay hc ∧ hm'.1 7 0 6 = pk_s hc - df_pay hc - df_fill hc ∧ hm'.1 7 0 7 = (if df_has hc 16 = 0 then 0 else pk_2 hc (df_we hc))) → Q (some (v_i (df_shape hc))) hm') : sd_E1 l y_X9_formOf [v_r 7 0] hm Q := by
  have hp' := hp
  obtain ⟨p1, p2, p3, p4⟩ := hp
  have kE : ∀ (n : Int32) hm', df_shape hc = n → ¬ n = 0 → Fx (fun T _ i => T = 7 ∧ 5 ≤ i ∧ i ≤ 7) hm hm' → Q (some (v_i n)) hm' := fun n hm' e z f => by
    rw [← e]; exact k hm' f (fun q => absurd (e.symm.trans q) z)
  refine sd_e1 [139] 80 (cd := cd_X9_formOf) (by decide) rfl (Nat.le_of_ble_eq_true rfl) ?_
  refine ⟨fun (c1 : 12 ≤ hm.1 7 0 2) => ?_, fun (c1 : ¬ 12 ≤ hm.1 7 0 2) => ?_⟩
  rotate_left
  · rw [p2, ← p1] at c1
    exact kE 1 hm (by unfold df_shape; rw [if_neg c1]) (by decide) .rf
  rw [p2, ← p1] at c1
  have hs : 12 ≤ sz := by
    have := c1; rw [p1] at this
    exact (nI_leI (a := 12) (by decide) (by omega)).mp this
  have hb0 := hp'.b (j := 0) (by omega)
  have hb0 : pk_b hc 0 = nI (g 0) := hb0
  have hm0 := hp'.m (j := 0) (by omega)
  have hl0 := hp'.lt (j := 0) (by omega)
  refine ⟨0, ⟨show 0 < 300 by decide, rfl⟩, ?_⟩
  refine ⟨fun (c2 : hm.1 19 0 0 >>> 6 = 2) => ?_, fun (c2 : ¬ hm.1 19 0 0 >>> 6 = 2) => ?_⟩
  rotate_left
  · rw [hm0, ← hb0] at c2
    exact kE 2 hm (by unfold df_shape; rw [if_pos c1, if_neg c2]) (by decide) .rf
  rw [hm0, ← hb0] at c2
  refine ⟨0, ⟨show 0 < 300 by decide, rfl⟩, ?_⟩
  have eW : 12 + 4 * (hm.1 19 0 0 &&& 15) = df_we hc := by unfold df_we df_wd; rw [hm0, hb0]
  have eW2 : df_we hc = nI (12 + 4 * (g 0 % 16)) := by
    unfold df_we df_wd
    rw [hb0, by_15 _ hl0, show (4 : Int32) = nI 4 from rfl, pk_mul, show (12 : Int32) = nI 12 from rfl, nI_add]
  have hW : 12 + 4 * (g 0 % 16) ≤ 72 := by omega
  generalize hWn : 12 + 4 * (g 0 % 16) = W at eW2 hW
  refine ⟨fun (c3 : 12 + 4 * (hm.1 19 0 0 &&& 15) ≤ hm.1 7 0 2) => ?_, fun (c3 : ¬ 12 + 4 * (hm.1 19 0 0 &&& 15) ≤ hm.1 7 0 2) => ?_⟩
  rotate_left
  · rw [p2, ← p1, eW] at c3
    exact kE 3 _ (by unfold df_shape; rw [if_pos c1, if_pos c2, if_neg c3]) (by decide) ((Fx.rf.pi (by decide)).pi (by decide))
  rw [p2, ← p1, eW] at c3
  have hWs : W ≤ sz := by rw [p1, eW2] at c3; exact (nI_leI (by omega) (by omega)).mp c3
  have rest : ∀ hm1, Fx (fun T _ i => T = 7 ∧ 5 ≤ i ∧ i ≤ 7) hm hm1 → hm1.1 7 0 5 = df_pay hc → df_pay hc ≤ pk_s hc → hm1.1 7 0 7 = (if df_has hc 16 = 0 then 0 else pk_2 hc (df_we hc)) → sd_Wq l none y_X9_formOf true Q 139 [some (v_r 7 0), none] [] hm1 0 0 := by
    intro hm1 f1 e5 c4 e7
    have f19 : ∀ i, hm1.1 19 0 i = hm.1 19 0 i := fun i => f1.1 19 0 i (by omega)
    have f2 : hm1.1 7 0 2 = hm.1 7 0 2 := f1.1 7 0 2 (by omega)
    refine sd_go [] 80 (cd := cd_X9_formOf) (by decide) rfl ?_
    refine ⟨0, ⟨show 0 < 300 by decide, rfl⟩, ?_⟩
    have h5 := by_32 (g 0) hl0
    have eh : df_has hc 32 = if nI (g 0) &&& 32 = 0 then 0 else 1 := by unfold df_has; rw [hb0]
    refine ⟨fun (c5 : ¬ hm1.1 19 0 0 >>> 5 &&& 1 = 1) => ?_, fun (c5 : hm1.1 19 0 0 >>> 5 &&& 1 = 1) => ?_⟩
    · rw [f19, hm0, h5, Classical.not_not] at c5
      rw [if_pos c5] at eh
      have es : df_shape hc = 0 := by unfold df_shape; rw [if_pos c1, if_pos c2, if_pos c3, if_pos c4, if_pos eh]
      have ef : df_fill hc = 0 := by unfold df_fill; rw [if_pos eh]
      have := k (sd_pi hm1 7 0 6 (hm1.1 7 0 2 - hm1.1 7 0 5)) (f1.pi (by decide)) (fun _ => ⟨hs, e5, ?_, e7⟩)
      · rw [es] at this; exact this
      · show hm1.1 7 0 2 - hm1.1 7 0 5 = _
        rw [f2, p2, ← p1, e5, ef]; exact (Int32.sub_zero _).symm
    · rw [f19, hm0, h5] at c5
      rw [if_neg c5] at eh
      have eh1 : ¬ df_has hc 32 = 0 := by rw [eh]; decide
      refine ⟨sz - 1, ⟨show sz - 1 < 300 by omega, ?_⟩, ?_⟩
      · show hm1.1 7 0 2 - 1 = nI (sz - 1)
        rw [f2, p2, show (1 : Int32) = nI 1 from rfl, pk_sub (by omega)]
      have ef : df_fill hc = nI (g (sz - 1)) := by
        unfold df_fill
        rw [if_neg eh1, show pk_s hc - 1 = nI (sz - 1) by show hc.1 1 0 1 - 1 = _; rw [p1, show (1 : Int32) = nI 1 from rfl, pk_sub (by omega)]]
        exact hp'.b (by omega)
      have em : hm1.1 19 0 (sz - 1) = df_fill hc := by rw [f19, hp'.m (by omega), ef]
      have hlt := hp'.lt (j := sz - 1) (by omega)
      have ep : hm1.1 7 0 2 - hm1.1 7 0 5 = pk_s hc - df_pay hc := by rw [f2, p2, ← p1, e5]
      have F2 := (f1.pi (T := 7) (k := 0) (i := 6) (v := hm1.1 7 0 2 - hm1.1 7 0 5) (by decide))
      refine ⟨fun (c6 : hm1.1 19 0 (sz - 1) = 0) => ?_, fun (c6 : ¬ hm1.1 19 0 (sz - 1) = 0) => ?_⟩
      · rw [em] at c6
        exact kE 5 _ (by unfold df_shape; rw [if_pos c1, if_pos c2, if_pos c3, if_pos c4, if_neg eh1, if_pos (by rw [c6]; decide)]) (by decide) F2
      rw [em] at c6
      have c6' : ¬ df_fill hc ≤ 0 := by
        rw [ef] at c6 ⊢
        intro q
        have := (nI_leI (a := g (sz - 1)) (b := 0) (by omega) (by decide)).mp q
        exact c6 (by rw [show g (sz - 1) = 0 by omega]; rfl)
      refine ⟨fun (c7 : hm1.1 19 0 (sz - 1) ≤ hm1.1 7 0 2 - hm1.1 7 0 5) => ?_, fun (c7 : ¬ hm1.1 19 0 (sz - 1) ≤ hm1.1 7 0 2 - hm1.1 7 0 5) => ?_⟩
      · rw [em, ep] at c7
        have es : df_shape hc = 0 := by unfold df_shape; rw [if_pos c1, if_pos c2, if_pos c3, if_pos c4, if_neg eh1, if_neg c6', if_neg (Int32.not_lt.mpr c7)]
        have := k (sd_pi (sd_pi hm1 7 0 6 (hm1.1 7 0 2 - hm1.1 7 0 5)) 7 0 6 (hm1.1 7 0 2 - hm1.1 7 0 5 - hm1.1 19 0 (sz - 1))) (F2.pi (by decide)) (fun _ => ⟨hs, e5, ?_, e7⟩)
        · rw [es] at this; exact this
        · show hm1.1 7 0 2 - hm1.1 7 0 5 - hm1.1 19 0 (sz - 1) = _
          rw [ep, em]
      · rw [em, ep] at c7
        exact kE 5 _ (by unfold df_shape; rw [if_pos c1, if_pos c2, if_pos c3, if_pos c4, if_neg eh1, if_neg c6', if_pos (i_nle c7)]) (by decide) F2
  refine ⟨0, ⟨show 0 < 300 by decide, rfl⟩, ?_⟩
  have h4 := by_16 (g 0) hl0
  have eh : df_has hc 16 = if nI (g 0) &&& 16 = 0 then 0 else 1 := by unfold df_has; rw [hb0]
  have F1 : Fx (fun T _ i => T = 7 ∧ 5 ≤ i ∧ i ≤ 7) hm (sd_pi (sd_pi hm 7 0 5 (12 + 4 * (hm.1 19 0 0 &&& 15))) 7 0 7 0) := (Fx.rf.pi (by decide)).pi (by decide)
  refine ⟨fun (c4 : ¬ hm.1 19 0 0 >>> 4 &&& 1 = 1) => ?_, fun (c4 : hm.1 19 0 0 >>> 4 &&& 1 = 1) => ?_⟩
  · rw [hm0, h4, Classical.not_not] at c4
    rw [if_pos c4] at eh
    have epay : df_pay hc = df_we hc := by unfold df_pay; rw [if_pos eh]
    refine rest _ F1 ?_ ?_ ?_
    · show 12 + 4 * (hm.1 19 0 0 &&& 15) = _
      rw [eW, epay]
    · rw [epay]; exact c3
    · rw [if_pos eh]; rfl
  · rw [hm0, h4] at c4
    rw [if_neg c4] at eh
    have eh1 : ¬ df_has hc 16 = 0 := by rw [eh]; decide
    have epay : df_pay hc = df_we hc + 4 + 4 * pk_2 hc (df_we hc + 2) := by unfold df_pay; rw [if_neg eh1]
    refine ⟨fun (c5 : 12 + 4 * (hm.1 19 0 0 &&& 15) + 4 ≤ hm.1 7 0 2) => ?_, fun (c5 : ¬ 12 + 4 * (hm.1 19 0 0 &&& 15) + 4 ≤ hm.1 7 0 2) => ?_⟩
    rotate_left
    · rw [p2, eW, eW2, show (4 : Int32) = nI 4 from rfl, nI_add] at c5
      have c5 : ¬ W + 4 ≤ sz := fun q => c5 (nI_le q (by omega))
      refine kE 4 _ ?_ (by decide) F1
      obtain ⟨b, b1, b2, -⟩ := hp'.h0 (j := W + 2) (by omega)
      unfold df_shape
      rw [if_pos c1, if_pos c2, if_pos c3, if_neg]
      rw [epay, eW2, show (2 : Int32) = nI 2 from rfl, nI_add, b2, show (4 : Int32) = nI 4 from rfl, pk_mul, nI_add, nI_add]
      show ¬ nI _ ≤ hc.1 1 0 1
      rw [p1]
      intro q
      have := (nI_leI (by omega) (by omega)).mp q
      omega
    · rw [p2, eW, eW2, show (4 : Int32) = nI 4 from rfl, nI_add] at c5
      have c5 : W + 4 ≤ sz := (nI_leI (by omega) (by omega)).mp c5
      have eF : (sd_pi (sd_pi hm 7 0 5 (12 + 4 * (hm.1 19 0 0 &&& 15))) 7 0 7 0).1 7 0 5 = nI W := by
        show 12 + 4 * (hm.1 19 0 0 &&& 15) = _
        rw [eW, eW2]
      refine sm_two (j := W) (by omega) eF ?_
      refine sm_two (j := W + 2) (by omega) ?_ ?_
      · show 12 + 4 * (hm.1 19 0 0 &&& 15) + 2 = _
        rw [eW, eW2, show (2 : Int32) = nI 2 from rfl, nI_add]
      have t1 : m2 (sd_pi (sd_pi hm 7 0 5 (12 + 4 * (hm.1 19 0 0 &&& 15))) 7 0 7 0) W = pk_2 hc (df_we hc) := by
        show m2 hm W = _
        rw [hp'.two (by omega), eW2]
      have t2 : ∀ v, m2 (sd_pi (sd_pi (sd_pi hm 7 0 5 (12 + 4 * (hm.1 19 0 0 &&& 15))) 7 0 7 0) 7 0 7 v) (W + 2) = pk_2 hc (df_we hc + 2) := by
        intro v
        show m2 hm (W + 2) = _
        rw [hp'.two (by omega), eW2, show (2 : Int32) = nI 2 from rfl, nI_add]
      have t3 : 12 + 4 * (hm.1 19 0 0 &&& 15) + (4 + 4 * m2 (sd_pi (sd_pi (sd_pi hm 7 0 5 (12 + 4 * (hm.1 19 0 0 &&& 15))) 7 0 7 0) 7 0 7 (m2 (sd_pi (sd_pi hm 7 0 5 (12 + 4 * (hm.1 19 0 0 &&& 15))) 7 0 7 0) W)) (W + 2)) = df_pay hc := by
        rw [t2, eW, epay, Int32.add_assoc]
      refine ⟨fun c6 => ?_, fun c6 => ?_⟩
      · have c6 : 12 + 4 * (hm.1 19 0 0 &&& 15) + (4 + 4 * m2 (sd_pi (sd_pi (sd_pi hm 7 0 5 (12 + 4 * (hm.1 19 0 0 &&& 15))) 7 0 7 0) 7 0 7 (m2 (sd_pi (sd_pi hm 7 0 5 (12 + 4 * (hm.1 19 0 0 &&& 15))) 7 0 7 0) W)) (W + 2)) ≤ hm.1 7 0 2 := c6
        rw [t3, p2, ← p1] at c6
        refine rest _ ((F1.pi (by decide)).pi (by decide)) t3 c6 ?_
        rw [if_neg eh1]
        exact t1
      · have c6 : ¬ 12 + 4 * (hm.1 19 0 0 &&& 15) + (4 + 4 * m2 (sd_pi (sd_pi (sd_pi hm 7 0 5 (12 + 4 * (hm.1 19 0 0 &&& 15))) 7 0 7 0) 7 0 7 (m2 (sd_pi (sd_pi hm 7 0 5 (12 + 4 * (hm.1 19 0 0 &&& 15))) 7 0 7 0) W)) (W + 2)) ≤ hm.1 7 0 2 := c6
        rw [t3, p2, ← p1] at c6
        exact kE 4 _ (by unfold df_shape; rw [if_pos c1, if_pos c2, if_pos c3, if_neg c6]) (by decide) ((F1.pi (by decide)).pi (by decide))
/-- the reference's answer for a sender -/
def m_o (o : Option Nat) : Int32 := match o with
  | some s => nI s
  | none => -1
theorem sq_senderOf {b : Int32} {sn : Nat} (hN : hm.1 7 0 8 = nI sn) (hn6 : sn ≤ 6) (hn : ∀ s, s < sn → hm.1 21 0 s = hc.1 3 s 0) : ∀ (n i : Nat), i + n = sn → Q (some (v_i (m_o (dk_find hc b i n)))) hm → sd_Wq l none y_X9_senderOf true Q 2 [some (v_r 7 0), some (v_i b), some (v_i (nI i))] [] hm 0 0
  | 0, i, hi, k => by
    refine sd_go [2] 60 (cd := cd_X9_senderOf) (by decide) rfl ?_
    refine ⟨fun _ => k, fun c => absurd ?_ c⟩
    show hm.1 7 0 8 ≤ nI i
    rw [hN, show sn = i by omega]
    exact Int32.le_refl _
  | n + 1, i, hi, k => by
    refine sd_go [2] 60 (cd := cd_X9_senderOf) (by decide) rfl ?_
    refine ⟨fun c => absurd c ?_, fun _ => ?_⟩
    · show ¬ hm.1 7 0 8 ≤ nI i
      rw [hN]
      exact nI_ge (by omega) (by omega)
    refine ⟨i, ⟨show i < 6 by omega, rfl⟩, ?_⟩
    unfold dk_find at k
    refine ⟨fun (c2 : ¬ hm.1 21 0 i = b) => ?_, fun (c2 : hm.1 21 0 i = b) => ?_⟩
    · rw [hn i (by omega)] at c2
      rw [if_neg c2] at k
      show sd_Wq l none y_X9_senderOf true Q 2 [some (v_r 7 0), some (v_i b), some (v_i (nI i + 1))] [] hm 0 0
      rw [nI_1]
      exact sq_senderOf hN hn6 hn n (i + 1) (by omega) k
    · rw [hn i (by omega)] at c2
      rw [if_pos c2] at k
      exact k
theorem sm_senderOf {b : Int32} {sn : Nat} (hN : hm.1 7 0 8 = nI sn) (hn6 : sn ≤ 6) (hn : ∀ s, s < sn → hm.1 21 0 s = hc.1 3 s 0) (k : Q (some (v_i (m_o (dk_find hc b 0 sn)))) hm) : sd_E1 l y_X9_senderOf [v_r 7 0, v_i b] hm Q := by
  refine sd_e1 [2] 60 (cd := cd_X9_senderOf) (by decide) rfl (Nat.le_of_ble_eq_true rfl) ?_
  exact sq_senderOf hN hn6 hn sn 0 (by omega) k
end FO
end
section
/-! the reference: faultOf, data -/
theorem df_shape_c (h : sd_H) : df_shape h = 0 ∨ df_shape h = 1 ∨ df_shape h = 2 ∨ df_shape h = 3 ∨ df_shape h = 4 ∨ df_shape h = 5 := by
  unfold df_shape
  split
  · split
    · split
      · split
        · split
          · exact Or.inl rfl
          · split
            · exact Or.inr (Or.inr (Or.inr (Or.inr (Or.inr rfl))))
            · split
              · exact Or.inr (Or.inr (Or.inr (Or.inr (Or.inr rfl))))
              · exact Or.inl rfl
        · exact Or.inr (Or.inr (Or.inr (Or.inr (Or.inl rfl))))
      · exact Or.inr (Or.inr (Or.inr (Or.inl rfl)))
    · exact Or.inr (Or.inr (Or.inl rfl))
  · exact Or.inr (Or.inl rfl)
theorem dk_fault_c (h : sd_H) (sn : Nat) : (dk_fault h sn = df_shape h ∧ ¬ df_shape h = 0) ∨ (df_shape h = 0 ∧ (dk_fault h sn = 0 ∨ dk_fault h sn = 6 ∨ dk_fault h sn = 7)) := by
  unfold dk_fault
  split
  · next q =>
    refine Or.inr ⟨q, ?_⟩
    split
    · exact Or.inr (Or.inl rfl)
    · split
      · exact Or.inl rfl
      · split
        · exact Or.inr (Or.inr rfl)
        · exact Or.inl rfl
  · next q => exact Or.inl ⟨rfl, q⟩
section FA
variable {l : Launch} {Q : Option sd_V → sd_H → Prop} {hc hm : sd_H} {sz sn : Nat} {g : Nat → Nat}
theorem PK.sort (hp : PK hc hm sz g) (hs : 12 ≤ sz) : df_sort hc = nI (g 1 % 128) ∧ hm.1 19 0 1 &&& 127 = nI (g 1 % 128) ∧ dk_rt hc = hc.1 8 0 (g 1 % 128) := by
  have hl := hp.lt (j := 1) (by omega)
  have e1 : df_sort hc = nI (g 1 % 128) := by
    unfold df_sort
    rw [show pk_b hc 1 = nI (g 1) from hp.b (j := 1) (by omega)]
    exact pk_andN (by omega) 7 (by decide)
  refine ⟨e1, ?_, ?_⟩
  · rw [hp.m (j := 1) (by omega)]
    exact pk_andN (by omega) 7 (by decide)
  · unfold dk_rt
    rw [e1, if_neg (nI_pos (by omega)), if_neg (show ¬ (128 : Int32) ≤ nI (g 1 % 128) from nI_ge (a := g 1 % 128) (b := 128) (by omega) (by decide)), nI_clamp (by omega)]
theorem m_o_n {o : Option Nat} (h6 : ∀ s, o = some s → s < 6) : m_o o = -1 ↔ o = none := by
  cases o with
  | none => exact ⟨fun _ => rfl, fun _ => rfl⟩
  | some s =>
    refine ⟨fun q => ?_, fun q => by cases q⟩
    have h := h6 s rfl
    exact absurd (show nI s < 0 by rw [show nI s = -1 from q]; decide) (nI_pos (by omega))
theorem sm_faultOf (hp : PK hc hm sz g) (hN : hm.1 7 0 8 = nI sn) (hn6 : sn ≤ 6) (hn : ∀ s, s < sn → hm.1 21 0 s = hc.1 3 s 0) (hr : ∀ i, i < 128 → hm.1 20 0 i = hc.1 8 0 i) (k : ∀ hm', Fx (fun T _ i => T = 7 ∧ 5 ≤ i ∧ i ≤ 7) hm hm' → (df_shape hc = 0 → 12 ≤ sz ∧ hm'.1 7 0 5 = df_pay hc ∧ hm'.1 7 0 6 = pk_s hc - df_pay hc - df_fill hc ∧ hm'.1 7 0 7 = (if df_has hc 16 = 0 then 0 else pk_2 hc (df_we hc))) → Q (some (v_i (dk_fault hc sn))) hm') : sd_E1 l y_X9_faultOf [v_r 7 0] hm Q := by
  refine sd_e1 [] 80 (cd := cd_X9_faultOf) (by decide) rfl (Nat.le_of_ble_eq_true rfl) ?_
  refine sm_formOf hp (fun hm' f v => ?_)
  have k := k hm' f v
  unfold dk_fault at k
  have hp' := hp.fx f (by omega) (by omega)
  refine ⟨fun (c1 : df_shape hc ≤ 0) => ?_, fun (c1 : ¬ df_shape hc ≤ 0) => ?_⟩
  rotate_left
  · rw [if_neg (fun q => c1 (by rw [q]; decide))] at k
    exact k
  have c1 : df_shape hc = 0 := by
    rcases df_shape_c hc with q | q | q | q | q | q
    · exact q
    all_goals (rw [q] at c1; exact absurd c1 (by decide))
  rw [if_pos c1] at k
  obtain ⟨hs, -⟩ := v c1
  obtain ⟨s1, s2, s3⟩ := hp'.sort hs
  rw [s3] at k
  refine ⟨1, ⟨show 1 < 300 by decide, rfl⟩, ?_⟩
  refine ⟨g 1 % 128, ⟨show g 1 % 128 < 128 by omega, s2⟩, ?_⟩
  have e20 : hm'.1 20 0 (g 1 % 128) = hc.1 8 0 (g 1 % 128) := by rw [f.1 20 0 _ (by omega), hr _ (by omega)]
  refine ⟨fun (c2 : ¬ hm'.1 20 0 (g 1 % 128) = 0) => ?_, fun (c2 : hm'.1 20 0 (g 1 % 128) = 0) => ?_⟩
  rotate_left
  · rw [e20] at c2
    rw [if_pos c2] at k
    exact k
  rw [e20] at c2
  rw [if_neg c2] at k
  refine sm_four (j := 8) (by decide) rfl ?_
  rw [hp'.four (j := 8) (by omega)]
  have hN' : hm'.1 7 0 8 = nI sn := by rw [f.1 7 0 8 (by omega), hN]
  refine sm_senderOf (hc := hc) (sn := sn) hN' hn6 (fun s hs => by rw [f.1 21 0 s (by omega), hn s hs]) ?_
  have hfl : ∀ s, dk_find hc (pk_4 hc 8) 0 sn = some s → s < 6 := fun s q => by have := dk_find_lt _ _ _ q; omega
  show (¬ m_o (dk_find hc (pk_4 hc 8) 0 sn) = -1 → _) ∧ (m_o (dk_find hc (pk_4 hc 8) 0 sn) = -1 → _)
  rw [m_o_n hfl]
  refine ⟨fun c3 => ?_, fun c3 => ?_⟩
  · by_cases c4 : sn < 6
    · rw [if_pos c4] at k; exact k
    · rw [if_neg c4, if_neg c3] at k; exact k
  · refine ⟨fun (c4 : ¬ hm'.1 7 0 8 = 6) => ?_, fun (c4 : hm'.1 7 0 8 = 6) => ?_⟩
    · rw [hN'] at c4
      rw [if_pos (show sn < 6 by
        rcases Nat.lt_or_ge sn 6 with q | q
        · exact q
        · exact absurd (by rw [show sn = 6 by omega]; rfl) c4)] at k
      exact k
    · rw [hN'] at c4
      have : sn = 6 := (nI_eq (b := 6) (by omega) (by decide)).mp c4
      rw [if_neg (by omega), if_pos c3] at k
      exact k
theorem sm_data {w : Int32} (hp : PK hc hm sz g) (hN : hm.1 7 0 8 = nI sn) (hn6 : sn ≤ 6) (hn : ∀ s, s < sn → hm.1 21 0 s = hc.1 3 s 0) (hr : ∀ i, i < 128 → hm.1 20 0 i = hc.1 8 0 i) (k : ∀ hm', Fx (fun T _ i => T = 7 ∧ 5 ≤ i ∧ i ≤ 7) hm hm' → Q (some (v_i (if w < 0 then -2 else if w ≤ 9 then (if w = 0 then dk_fault hc sn else if df_shape hc = 0 then df_field hc w else 0) else -2))) hm') : sd_E1 l y_X9_data [v_r 7 0, v_i w] hm Q := by
  refine sd_e1 [] 80 (cd := cd_X9_data) (by decide) rfl (Nat.le_of_ble_eq_true rfl) ?_
  refine sm_in (lo := 0) (hi := 9) (by decide) (by decide) (fun c => ?_) (fun c => ?_)
  · refine ⟨fun q => absurd rfl q, fun _ => ?_⟩
    have k := k hm .rf
    by_cases c1 : w < 0
    · rw [if_pos c1] at k; exact k
    · rw [if_neg c1, if_neg (fun q => c ⟨i_nlt c1, q⟩)] at k; exact k
  refine ⟨fun _ => ?_, fun q => absurd q (by decide)⟩
  rw [if_neg (Int32.not_lt.mpr c.1), if_pos c.2] at k
  refine sm_faultOf hp hN hn6 hn hr (fun hm' f v => ?_)
  have k := k hm' f
  refine ⟨fun (c1 : ¬ w = 0) => ?_, fun (c1 : w = 0) => ?_⟩
  rotate_left
  · rw [if_pos c1] at k; exact k
  rw [if_neg c1] at k
  have hp' := hp.fx f (by omega) (by omega)
  have hcs : (1 ≤ dk_fault hc sn ∧ dk_fault hc sn ≤ 5) ↔ ¬ df_shape hc = 0 := by
    rcases dk_fault_c hc sn with ⟨e, z⟩ | ⟨e, z⟩
    · rw [e]
      rcases df_shape_c hc with q | q | q | q | q | q
      · exact absurd q z
      all_goals (rw [q]; decide)
    · rw [e]
      rcases z with q | q | q <;> rw [q] <;> decide
  refine sm_in (lo := 1) (hi := 5) (by decide) (by decide) (fun c2 => ?_) (fun c2 => ?_)
  rotate_left
  · refine ⟨fun q => absurd q (by decide), fun _ => ?_⟩
    rw [if_neg (hcs.mp c2)] at k; exact k
  refine ⟨fun _ => ?_, fun q => absurd rfl q⟩
  have c2 : df_shape hc = 0 := Classical.not_not.mp fun q => c2 (hcs.mpr q)
  rw [if_pos c2] at k
  obtain ⟨hs, v5, v6, v7⟩ := v c2
  have hb0 : hm'.1 19 0 0 = pk_b hc 0 := by rw [hp'.m (j := 0) (by omega)]; exact (hp'.b (j := 0) (by omega)).symm
  have hb1 : hm'.1 19 0 1 = pk_b hc 1 := by rw [hp'.m (j := 1) (by omega)]; exact (hp'.b (j := 1) (by omega)).symm
  unfold df_field at k
  refine ⟨fun (c : w = 1) => ?_, fun (c : ¬ w = 1) => ?_⟩
  · rw [if_pos c, ← hb1] at k; exact ⟨1, ⟨show 1 < 300 by decide, rfl⟩, k⟩
  rw [if_neg c] at k
  refine ⟨fun (c : w = 2) => ?_, fun (c : ¬ w = 2) => ?_⟩
  · rw [if_pos c] at k; unfold df_sort at k; rw [← hb1] at k; exact ⟨1, ⟨show 1 < 300 by decide, rfl⟩, k⟩
  rw [if_neg c] at k
  refine ⟨fun (c : w = 3) => ?_, fun (c : ¬ w = 3) => ?_⟩
  · rw [if_pos c] at k
    refine sm_two (j := 2) (by decide) rfl ?_
    rw [hp'.two (j := 2) (by omega)]; exact k
  rw [if_neg c] at k
  refine ⟨fun (c : w = 4) => ?_, fun (c : ¬ w = 4) => ?_⟩
  · rw [if_pos c] at k
    refine sm_four (j := 4) (by decide) rfl ?_
    rw [hp'.four (j := 4) (by omega)]; exact k
  rw [if_neg c] at k
  refine ⟨fun (c : w = 5) => ?_, fun (c : ¬ w = 5) => ?_⟩
  · rw [if_pos c] at k
    refine sm_four (j := 8) (by decide) rfl ?_
    rw [hp'.four (j := 8) (by omega)]; exact k
  rw [if_neg c] at k
  refine ⟨fun (c : w = 6) => ?_, fun (c : ¬ w = 6) => ?_⟩
  · rw [if_pos c] at k; unfold df_wd at k; rw [← hb0] at k; exact ⟨0, ⟨show 0 < 300 by decide, rfl⟩, k⟩
  rw [if_neg c] at k
  refine ⟨fun (c : w = 7) => ?_, fun (c : ¬ w = 7) => ?_⟩
  · rw [if_pos c, ← v5] at k; exact k
  rw [if_neg c] at k
  refine ⟨fun (c : w = 8) => ?_, fun (c : ¬ w = 8) => ?_⟩
  · rw [if_pos c, ← v6] at k; exact k
  rw [if_neg c] at k
  have w9 : w = 9 := by
    rename_i c00 cc1 cc2 cc3 cc4 cc5 cc6 cc7
    obtain ⟨j, hj, rfl⟩ := nI_of2 (M := 9) (n := 9) rfl (Int32.not_lt.mpr ‹0 ≤ w ∧ w ≤ 9›.1) ‹0 ≤ w ∧ w ≤ 9›.2
    have e0 : ∀ n : Nat, n < 10 → j = n → nI j = nI n := fun n _ q => by rw [q]
    rcases (show j = 0 ∨ j = 1 ∨ j = 2 ∨ j = 3 ∨ j = 4 ∨ j = 5 ∨ j = 6 ∨ j = 7 ∨ j = 8 ∨ j = 9 by omega) with q | q | q | q | q | q | q | q | q | q
    · exact absurd (e0 0 (by decide) q) c1
    · exact absurd (e0 1 (by decide) q) (by assumption)
    · exact absurd (e0 2 (by decide) q) (by assumption)
    · exact absurd (e0 3 (by decide) q) (by assumption)
    · exact absurd (e0 4 (by decide) q) (by assumption)
    · exact absurd (e0 5 (by decide) q) (by assumption)
    · exact absurd (e0 6 (by decide) q) (by assumption)
    · exact absurd (e0 7 (by decide) q) (by assumption)
    · exact absurd (e0 8 (by decide) q) (by assumption)
    · exact e0 9 (by decide) q
  rw [if_pos w9, ← v7] at k
  exact k
end FA
end
section
/-! EVENTS on both sides -/
def EV (hc hm : sd_H) (e : Nat) : Prop := hc.1 2 0 4 = nI e ∧ hm.1 7 0 35 = nI e ∧ ∀ j, j < 64 → hm.2.1 44 0 (4 * j) = (hc.1 12 0 j).toInt64 ∧ hm.2.1 44 0 (4 * j + 1) = (hc.1 13 0 j).toInt64 ∧ hm.2.1 44 0 (4 * j + 2) = hc.2.1 14 0 j ∧ hm.2.1 44 0 (4 * j + 3) = (hc.1 15 0 j).toInt64
def mh (h : sd_H) (e c s : Nat) (n : Int64) : sd_H := sd_pi (sd_pl (sd_pl (sd_pl (sd_pl h 44 0 (4 * (e % 64)) (nI c).toInt64) 44 0 (4 * (e % 64) + 1) (nI s).toInt64) 44 0 (4 * (e % 64) + 2) n) 44 0 (4 * (e % 64) + 3) (h.1 7 0 0).toInt64) 7 0 35 (nI (e + 1))
def mh2 (h : sd_H) (e c s : Nat) (n : Int64) : sd_H := if c ≤ 5 then sd_pi (mh h e c s n) 43 0 (6 * s + c) (h.1 43 0 (6 * s + c) + 1) else mh h e c s n
section EVS
variable {l : Launch} {Q : Option sd_V → sd_H → Prop} {hc hm : sd_H} {e : Nat}
theorem ix6 (s c : Nat) : (6 : Int32) * nI s + nI c = nI (6 * s + c) := by rw [show (6 : Int32) = nI 6 from rfl, pk_mul, nI_add]
theorem ix32 (s c : Nat) : (32 : Int32) * nI s + nI c = nI (32 * s + c) := by rw [show (32 : Int32) = nI 32 from rfl, pk_mul, nI_add]
theorem sm_happens {c s : Nat} {n : Int64} (he : hm.1 7 0 35 = nI e) (hb : e < 2 ^ 30) (hs : s < 6) (hc8 : c < 8) (k : Q none (mh2 hm e c s n)) : sd_E1 l y_X9_happens [v_r 7 0, v_i (nI c), v_i (nI s), v_l n] hm Q := by
  refine sd_e1 [] 80 (cd := cd_X9_happens) (by decide) rfl (Nat.le_of_ble_eq_true rfl) ?_
  refine ⟨by decide, ?_⟩
  have hm64 : e % 64 < 64 := Nat.mod_lt _ (by decide)
  have e4 : (4 : Int32) * (hm.1 7 0 35 - hm.1 7 0 35 / 64 * 64) = nI (4 * (e % 64)) := by
    rw [he, show nI e - nI e / 64 * 64 = nI (e % 64) from pk_rem (d := 64) (by omega) (by decide) (by decide), show (4 : Int32) = nI 4 from rfl, pk_mul]
  refine ⟨4 * (e % 64), ⟨show 4 * (e % 64) < 256 by omega, e4⟩, ?_⟩
  refine ⟨4 * (e % 64) + 1, ⟨show 4 * (e % 64) + 1 < 256 by omega, by rw [e4, nI_1]⟩, ?_⟩
  refine ⟨4 * (e % 64) + 2, ⟨show 4 * (e % 64) + 2 < 256 by omega, by rw [e4, show (2 : Int32) = nI 2 from rfl, nI_add]⟩, ?_⟩
  refine ⟨4 * (e % 64) + 3, ⟨show 4 * (e % 64) + 3 < 256 by omega, by rw [e4, show (3 : Int32) = nI 3 from rfl, nI_add]⟩, ?_⟩
  have eh : sd_pi (sd_pl (sd_pl (sd_pl (sd_pl hm 44 0 (4 * (e % 64)) (nI c).toInt64) 44 0 (4 * (e % 64) + 1) (nI s).toInt64) 44 0 (4 * (e % 64) + 2) n) 44 0 (4 * (e % 64) + 3) (hm.1 7 0 0).toInt64) 7 0 35 (hm.1 7 0 35 + 1) = mh hm e c s n := by
    unfold mh; rw [he, nI_1]
  unfold mh2 at k
  refine ⟨fun (c1 : (5 : Int32) < nI c) => ?_, fun (c1 : ¬ (5 : Int32) < nI c) => ?_⟩
  · have c1 := (nI_ltI (a := 5) (by decide) (by omega)).mp c1
    rw [if_neg (by omega), ← eh] at k
    exact k
  · have c1 : ¬ 5 < c := fun q => c1 (nI_lt (a := 5) q (by omega))
    rw [if_pos (by omega), ← eh] at k
    refine ⟨6 * s + c, ⟨show 6 * s + c < 36 by omega, ix6 s c⟩, ?_⟩
    exact ⟨6 * s + c, ⟨show 6 * s + c < 36 by omega, ix6 s c⟩, k⟩
theorem mh2_fx {c s : Nat} {n : Int64} : Fx (fun T _ i => T = 44 ∨ (T = 7 ∧ i = 35) ∨ (T = 43 ∧ i = 6 * s + c)) hm (mh2 hm e c s n) := by
  have f : Fx (fun T _ i => T = 44 ∨ (T = 7 ∧ i = 35) ∨ (T = 43 ∧ i = 6 * s + c)) hm (mh hm e c s n) := by
    unfold mh
    exact ((((Fx.rf.pl (Or.inl rfl)).pl (Or.inl rfl)).pl (Or.inl rfl)).pl (Or.inl rfl)).pi (Or.inr (Or.inl ⟨rfl, rfl⟩))
  unfold mh2
  split
  · exact f.pi (Or.inr (Or.inr ⟨rfl, rfl⟩))
  · exact f
theorem mh2_43 {c s : Nat} {n : Int64} (h5 : c ≤ 5) : (mh2 hm e c s n).1 43 0 (6 * s + c) = hm.1 43 0 (6 * s + c) + 1 := by
  unfold mh2
  rw [if_pos h5]
  exact sd_pi_eq
theorem mh2_35 {c s : Nat} {n : Int64} : (mh2 hm e c s n).1 7 0 35 = nI (e + 1) := by
  unfold mh2
  split <;> rfl
theorem mh2_l {c s : Nat} {n : Int64} : (mh2 hm e c s n).2 = (mh hm e c s n).2 := by
  unfold mh2
  split <;> rfl
theorem mh_44 {c s i : Nat} {n : Int64} : (mh hm e c s n).2.1 44 0 i = if i = 4 * (e % 64) + 3 then (hm.1 7 0 0).toInt64 else if i = 4 * (e % 64) + 2 then n else if i = 4 * (e % 64) + 1 then (nI s).toInt64 else if i = 4 * (e % 64) then (nI c).toInt64 else hm.2.1 44 0 i := by
  simp [mh, sd_pi, sd_pl]
theorem EV.add {c s : Nat} {n : Int64} {nw kd : Int32} (v : EV hc hm e) (hnw : hm.1 7 0 0 = nw) : EV (ev_add hc e (nI c) (nI s) n nw) (mh2 hm e c s n) (e + 1) := by
  obtain ⟨v1, v2, v3⟩ := v
  refine ⟨rfl, mh2_35, fun j hj => ?_⟩
  have hm64 : e % 64 < 64 := Nat.mod_lt _ (by decide)
  rw [mh2_l, mh_44, mh_44, mh_44, mh_44]
  obtain ⟨w0, w1, w2, w3⟩ := v3 j hj
  by_cases hq : j = e % 64
  · subst hq
    refine ⟨?_, ?_, ?_, ?_⟩
    · rw [if_neg (by omega), if_neg (by omega), if_neg (by omega), if_pos rfl]; simp [ev_add, sd_pi, sd_pl]
    · rw [if_neg (by omega), if_neg (by omega), if_pos rfl]; simp [ev_add, sd_pi, sd_pl]
    · rw [if_neg (by omega), if_pos rfl]; simp [ev_add, sd_pi, sd_pl]
    · rw [if_pos rfl, hnw]; simp [ev_add, sd_pi, sd_pl]
  · refine ⟨?_, ?_, ?_, ?_⟩
    · rw [if_neg (by omega), if_neg (by omega), if_neg (by omega), if_neg (by omega), w0]; simp [ev_add, sd_pi, sd_pl, hq]
    · rw [if_neg (by omega), if_neg (by omega), if_neg (by omega), if_neg (by omega), w1]; simp [ev_add, sd_pi, sd_pl, hq]
    · rw [if_neg (by omega), if_neg (by omega), if_neg (by omega), if_neg (by omega), w2]; simp [ev_add, sd_pi, sd_pl, hq]
    · rw [if_neg (by omega), if_neg (by omega), if_neg (by omega), if_neg (by omega), w3]; simp [ev_add, sd_pi, sd_pl, hq]
theorem EV.cg {hc' hm' : sd_H} (v : EV hc hm e) (c2 : hc'.1 2 0 4 = hc.1 2 0 4) (c12 : ∀ j, hc'.1 12 0 j = hc.1 12 0 j) (c13 : ∀ j, hc'.1 13 0 j = hc.1 13 0 j) (c14 : ∀ j, hc'.2.1 14 0 j = hc.2.1 14 0 j) (c15 : ∀ j, hc'.1 15 0 j = hc.1 15 0 j) (m : hm'.1 7 0 35 = hm.1 7 0 35) (m44 : ∀ j, hm'.2.1 44 0 j = hm.2.1 44 0 j) : EV hc' hm' e := by
  obtain ⟨v1, v2, v3⟩ := v
  refine ⟨by rw [c2, v1], by rw [m, v2], fun j hj => ?_⟩
  rw [m44, m44, m44, m44, c12, c13, c14, c15]
  exact v3 j hj
end EVS
/-! PLAYING on both sides, in the middle of a turn: the class has gone j steps -/
def wc (w : Nat → Int32) : Nat → Nat → Nat
  | _, 0 => 0
  | i, n + 1 => (if w i = 0 then 0 else 1) + wc w (i + 1) n
theorem wc_le (w : Nat → Int32) : ∀ n i, wc w i n ≤ n
  | 0, _ => Nat.le_refl _
  | n + 1, i => by
    have := wc_le w n (i + 1)
    unfold wc
    split <;> omega
theorem wc_cg {w w' : Nat → Int32} : ∀ (n i i' : Nat), (∀ k, k < n → w (i + k) = w' (i' + k)) → wc w i n = wc w' i' n
  | 0, _, _, _ => rfl
  | n + 1, i, i', h => by
    unfold wc
    rw [show w i = w' i' from h 0 (by omega), wc_cg n (i + 1) (i' + 1) (fun k hk => by
      have := h (k + 1) (by omega)
      rw [show i + 1 + k = i + (k + 1) by omega, show i' + 1 + k = i' + (k + 1) by omega]; exact this)]
theorem wc_app (w : Nat → Int32) : ∀ (n i m : Nat), wc w i (n + m) = wc w i n + wc w (i + n) m
  | 0, i, m => by simp [wc]
  | n + 1, i, m => by
    rw [show n + 1 + m = (n + m) + 1 by omega]
    show (if w i = 0 then 0 else 1) + wc w (i + 1) (n + m) = ((if w i = 0 then 0 else 1) + wc w (i + 1) n) + wc w (i + (n + 1)) m
    rw [wc_app w n (i + 1) m, show i + 1 + n = i + (n + 1) by omega]
    omega
theorem wc_z {w : Nat → Int32} : ∀ (n i : Nat), (∀ k, k < n → w (i + k) = 0) → wc w i n = 0
  | 0, _, _ => rfl
  | n + 1, i, h => by
    unfold wc
    rw [if_pos (show w i = 0 from h 0 (by omega)), wc_z n (i + 1) (fun k hk => by rw [show i + 1 + k = i + (k + 1) by omega]; exact h (k + 1) (by omega))]
def PM (hc hm : sd_H) (s e j : Nat) : Prop :=
  hc.1 6 s 1 = nI s ∧ hc.2.1 6 s 6 = hm.2.1 38 0 s + lN j ∧
  (∀ k, k < 32 → hc.1 18 s (sl (hm.2.1 38 0 s + lN k)) = if k < j then 0 else hm.1 41 0 (32 * s + k)) ∧
  (∀ k, k < 32 → j ≤ k → ¬ hm.1 41 0 (32 * s + k) = 0 → hm.2.1 42 0 (32 * s + k) = hc.2.1 17 s (sl (hm.2.1 38 0 s + lN k))) ∧
  (∀ k, k < 32 → hm.1 41 0 (32 * s + k) = 0 ∨ hm.1 41 0 (32 * s + k) = 1) ∧
  hc.1 6 s 5 = nI (wc (fun k => hm.1 41 0 (32 * s + k)) j (32 - j)) ∧
  (∀ c, 1 ≤ c → c ≤ 5 → hm.1 43 0 (6 * s + c) = hc.1 16 s c) ∧
  hm.2.1 39 0 s = hc.2.1 6 s 7 ∧ hm.1 40 0 s = hc.1 6 s 8 ∧
  0 ≤ (hm.2.1 38 0 s).toInt ∧ (hm.2.1 38 0 s).toInt + j ≤ 1099511627776 + e
theorem sl_add (n : Int64) (k : Nat) (hk : k < 2 ^ 31) : sl (n + lN k) = (sl n + k) % 32 := by
  have h1 : (n + lN k).toInt = (n.toInt + k).bmod (2 ^ 64) := by rw [Int64.toInt_add, lN_toInt hk]
  have h2 : (n.toInt + k).bmod (2 ^ 64) % 32 = (n.toInt + k) % 32 := by
    have := Int.bmod_emod (x := n.toInt + k) (m := 2 ^ 64)
    omega
  unfold sl
  rw [h1, h2]
  have h0 := Int.emod_nonneg n.toInt (show (32 : Int) ≠ 0 by decide)
  omega
end
section
/-! a step of the class and an EVENT of the reference -/
section ST
variable {hc hm : sd_H} {e s j : Nat}
theorem sl_ne {n : Int64} {k j : Nat} (hk : k < 32) (hj : j < 32) (h : k ≠ j) : sl (n + lN k) ≠ sl (n + lN j) := by
  rw [sl_add n k (by omega), sl_add n j (by omega)]
  omega
theorem PM.step {c : Nat} {nw : Int32} (p : PM hc hm s e j) (v : EV hc hm e) (hj : j < 32) (hs : s < 6) (h1 : 1 ≤ c) (h5 : c ≤ 5) (hnw : hm.1 7 0 0 = nw) : PM (pl_step hc s e c nw) (mh2 hm e c s (hm.2.1 38 0 s + lN j)) s (e + 1) (j + 1) ∧ EV (pl_step hc s e c nw) (mh2 hm e c s (hm.2.1 38 0 s + lN j)) (e + 1) := by
  obtain ⟨a1, a2, a3, a4, a5, a6, a7, a8, a9, a10, a11⟩ := p
  have f := mh2_fx (hm := hm) (e := e) (c := c) (s := s) (n := hm.2.1 38 0 s + lN j)
  generalize hm2 : mh2 hm e c s (hm.2.1 38 0 s + lN j) = hm' at f ⊢
  have f38 : hm'.2.1 38 0 s = hm.2.1 38 0 s := f.2.1 38 0 s (by omega)
  have f41 : ∀ i, hm'.1 41 0 i = hm.1 41 0 i := fun i => f.1 41 0 i (by omega)
  have f42 : ∀ i, hm'.2.1 42 0 i = hm.2.1 42 0 i := fun i => f.2.1 42 0 i (by omega)
  have e18 : ∀ x, (pl_step hc s e c nw).1 18 s x = if x = sl (hc.2.1 6 s 6) then 0 else hc.1 18 s x := by
    intro x
    show (sd_pi (sd_pi hc 6 s 5 (hc.1 6 s 5 - if hc.1 18 s (sl (hc.2.1 6 s 6)) = 0 then 0 else 1)) 18 s (sl (hc.2.1 6 s 6)) 0).1 18 s x = _
    by_cases q : x = sl (hc.2.1 6 s 6)
    · rw [if_pos q, q, sd_pi_eq]
    · rw [if_neg q, sd_pi_ne (fun z => q z.2.2)]
      rfl
  have hh : hc.1 18 s (sl (hc.2.1 6 s 6)) = hm.1 41 0 (32 * s + j) := by
    rw [a2, a3 j hj, if_neg (by omega)]
  refine ⟨⟨?_, ?_, ?_, ?_, ?_, ?_, ?_, ?_, ?_, ?_, ?_⟩, ?_⟩
  · have : (pl_step hc s e c nw).1 6 s 1 = hc.1 6 s 1 := by
      show (sd_pi hc 6 s 5 _).1 6 s 1 = _
      exact sd_pi_ne (by omega)
    rw [this, a1]
  · have : (pl_step hc s e c nw).2.1 6 s 6 = hc.2.1 6 s 6 + 1 := sd_pl_eq
    rw [this, a2, f38, Int64.add_assoc, lN_1]
  · intro k hk
    rw [f38, e18, a2, f41]
    by_cases q : k = j
    · subst q
      rw [if_pos rfl, if_pos (by omega)]
    · rw [if_neg (sl_ne hk hj q), a3 k hk]
      by_cases q2 : k < j
      · rw [if_pos q2, if_pos (by omega)]
      · rw [if_neg q2, if_neg (by omega)]
  · intro k hk hjk hw
    rw [f41] at hw
    rw [f42, f38, a4 k hk (by omega) hw]
    rfl
  · intro k hk
    rw [f41]; exact a5 k hk
  · have : (pl_step hc s e c nw).1 6 s 5 = hc.1 6 s 5 - if hc.1 18 s (sl (hc.2.1 6 s 6)) = 0 then 0 else 1 := by
      show (sd_pi hc 6 s 5 _).1 6 s 5 = _
      exact sd_pi_eq
    rw [this, a6, hh]
    have ew : wc (fun k => hm.1 41 0 (32 * s + k)) j (32 - j) = (if hm.1 41 0 (32 * s + j) = 0 then 0 else 1) + wc (fun k => hm.1 41 0 (32 * s + k)) (j + 1) (32 - (j + 1)) := by
      rw [show 32 - j = (32 - (j + 1)) + 1 by omega]; rfl
    rw [ew]
    have e2 : wc (fun k => hm'.1 41 0 (32 * s + k)) (j + 1) (32 - (j + 1)) = wc (fun k => hm.1 41 0 (32 * s + k)) (j + 1) (32 - (j + 1)) := wc_cg _ _ _ (fun k _ => f41 _)
    rw [e2]
    by_cases q : hm.1 41 0 (32 * s + j) = 0
    · rw [if_pos q, if_pos q, Nat.zero_add]; exact Int32.sub_zero _
    · rw [if_neg q, if_neg q, show (1 : Int32) = nI 1 from rfl, pk_sub (by omega)]
      congr 1; omega
  · intro c' hc1 hc5
    have e16 : (pl_step hc s e c nw).1 16 s c' = (sd_pi (sd_pi (sd_pi hc 6 s 5 (hc.1 6 s 5 - if hc.1 18 s (sl (hc.2.1 6 s 6)) = 0 then 0 else 1)) 18 s (sl (hc.2.1 6 s 6)) 0) 16 s c (hc.1 16 s c + 1)).1 16 s c' := rfl
    rw [e16]
    by_cases q : c' = c
    · rw [q, sd_pi_eq, ← hm2, mh2_43 h5, a7 c h1 h5]
    · rw [sd_pi_ne (fun z => q z.2.2), f.1 43 0 _ (by omega)]
      exact a7 c' hc1 hc5
  · rw [f.2.1 39 0 s (by omega), a8]
    show _ = (sd_pl _ 6 s 6 _).2.1 6 s 7
    rw [sd_pl_ne (by omega)]
    rfl
  · rw [f.1 40 0 s (by omega), a9]
    show _ = (sd_pi hc 6 s 5 _).1 6 s 8
    rw [sd_pi_ne (by omega)]
  · rw [f38]; exact a10
  · rw [f38]; omega
  · have v' : EV (sd_pi (sd_pi (sd_pi hc 6 s 5 (hc.1 6 s 5 - if hc.1 18 s (sl (hc.2.1 6 s 6)) = 0 then 0 else 1)) 18 s (sl (hc.2.1 6 s 6)) 0) 16 s c (hc.1 16 s c + 1)) hm e := v.cg rfl (fun _ => rfl) (fun _ => rfl) (fun _ => rfl) (fun _ => rfl) rfl (fun _ => rfl)
    have v2 := v'.add (c := c) (s := s) (n := hm.2.1 38 0 s + lN j) (nw := nw) (kd := 0) hnw
    rw [hm2] at v2
    have e1 : ∀ x, (sd_pi hc 6 s 5 x).1 6 s 1 = nI s := fun x => by rw [sd_pi_ne (by omega), a1]
    have e13 : pl_step hc s e c nw = sd_pl (ev_add (sd_pi (sd_pi (sd_pi hc 6 s 5 (hc.1 6 s 5 - if hc.1 18 s (sl (hc.2.1 6 s 6)) = 0 then 0 else 1)) 18 s (sl (hc.2.1 6 s 6)) 0) 16 s c (hc.1 16 s c + 1)) e (nI c) (nI s) (hm.2.1 38 0 s + lN j) nw) 6 s 6 (hc.2.1 6 s 6 + 1) := by
      rw [← a2, ← e1 (hc.1 6 s 5 - if hc.1 18 s (sl (hc.2.1 6 s 6)) = 0 then 0 else 1)]
      rfl
    rw [e13]
    exact v2.cg rfl (fun _ => rfl) (fun _ => rfl) (fun _ => rfl) (fun _ => rfl) rfl (fun _ => rfl)
end ST
end
section
/-! the reference: shift, plays -/
def SH (hm hx : sd_H) (s b i : Nat) : Prop :=
  Fx (fun T _ x => (T = 41 ∨ T = 42) ∧ 32 * s ≤ x ∧ x < 32 * s + 32) hm hx ∧
  (∀ k, k < i → hx.1 41 0 (32 * s + k) = if k + b < 32 then hm.1 41 0 (32 * s + (k + b)) else 0) ∧
  (∀ k, k < i → k + b < 32 → hx.2.1 42 0 (32 * s + k) = hm.2.1 42 0 (32 * s + (k + b))) ∧
  (∀ k, i ≤ k → k < 32 → hx.1 41 0 (32 * s + k) = hm.1 41 0 (32 * s + k) ∧ hx.2.1 42 0 (32 * s + k) = hm.2.1 42 0 (32 * s + k))
theorem SH.step {hm hx : sd_H} {s b i : Nat} {w : Int32} {t : Int64} (x : SH hm hx s b i) (hi : i < 32) (hw : w = if i + b < 32 then hm.1 41 0 (32 * s + (i + b)) else 0) (ht : i + b < 32 → t = hm.2.1 42 0 (32 * s + (i + b))) : SH hm (sd_pl (sd_pi hx 41 0 (32 * s + i) w) 42 0 (32 * s + i) t) s b (i + 1) := by
  obtain ⟨x1, x2, x3, x4⟩ := x
  have e41 : ∀ y, (sd_pl (sd_pi hx 41 0 (32 * s + i) w) 42 0 (32 * s + i) t).1 41 0 y = (sd_pi hx 41 0 (32 * s + i) w).1 41 0 y := fun y => rfl
  have e42 : ∀ y, (sd_pl (sd_pi hx 41 0 (32 * s + i) w) 42 0 (32 * s + i) t).2.1 42 0 y = (sd_pl hx 42 0 (32 * s + i) t).2.1 42 0 y := fun y => rfl
  refine ⟨(x1.pi ⟨Or.inl rfl, by omega, by omega⟩).pl ⟨Or.inr rfl, by omega, by omega⟩, fun k hk => ?_, fun k hk hkb => ?_, fun k hk hk2 => ?_⟩
  · rw [e41]
    by_cases q : k = i
    · subst q; rw [sd_pi_eq]; exact hw
    · rw [sd_pi_ne (fun z => q (by omega))]; exact x2 k (by omega)
  · rw [e42]
    by_cases q : k = i
    · subst q; rw [sd_pl_eq]; exact ht hkb
    · rw [sd_pl_ne (fun z => q (by omega))]; exact x3 k (by omega) hkb
  · rw [e41, e42, sd_pi_ne (by omega), sd_pl_ne (by omega)]
    exact x4 k (by omega) hk2
def PSh (s : Nat) (T _k i : Nat) : Prop := ((T = 41 ∨ T = 42) ∧ 32 * s ≤ i ∧ i < 32 * s + 32) ∨ (T = 38 ∧ i = s)
def PPm (s : Nat) (T _k i : Nat) : Prop := T = 44 ∨ (T = 7 ∧ i = 35) ∨ (T = 43 ∧ 6 * s ≤ i ∧ i < 6 * s + 6) ∨ ((T = 41 ∨ T = 42) ∧ 32 * s ≤ i ∧ i < 32 * s + 32) ∨ (T = 38 ∧ i = s)
section SF
variable {l : Launch} {Q : Option sd_V → sd_H → Prop} {s b : Nat} {hm : sd_H}
theorem sq_shift (hs : s < 6) (h1 : 1 ≤ b) (hb : b ≤ 32) (hz : ∀ k, k < 32 → hm.1 41 0 (32 * s + k) = 0 ∨ hm.1 41 0 (32 * s + k) = 1) (k : ∀ hm', Fx (PSh s) hm hm' → (∀ k, k < 32 → hm'.1 41 0 (32 * s + k) = if k + b < 32 then hm.1 41 0 (32 * s + (k + b)) else 0) → (∀ k, k + b < 32 → hm'.2.1 42 0 (32 * s + k) = hm.2.1 42 0 (32 * s + (k + b))) → hm'.2.1 38 0 s = hm.2.1 38 0 s + lN b → Q none hm') : ∀ (n : Nat) (hx : sd_H) (j4 : Option sd_V), n ≤ 32 → SH hm hx s b (32 - n) → sd_Wq l none y_X9_shift true Q 2 [some (v_r 7 0), some (v_i (nI s)), some (v_i (nI b)), some (v_i (nI (32 - n))), j4] [] hx 0 0
  | 0, hx, j4, hn, x => by
    refine sd_go [2] 80 (cd := cd_X9_shift) (by decide) rfl ?_
    refine ⟨fun _ => ?_, fun c => absurd (show (32 : Int32) ≤ nI 32 by decide) c⟩
    refine ⟨s, ⟨show s < 6 by omega, rfl⟩, s, ⟨show s < 6 by omega, rfl⟩, ?_⟩
    obtain ⟨x1, x2, x3, x4⟩ := x
    refine k (sd_pl hx 38 0 s (hx.2.1 38 0 s + (nI b).toInt64)) ((x1.mono (fun T k i q => Or.inl q)).pl (Or.inr ⟨rfl, rfl⟩)) (fun k hk => x2 k (by omega)) (fun k hk => x3 k (by omega) hk) ?_
    rw [sd_pl_eq, nI_l (by omega), x1.2.1 38 0 s (by omega)]
  | n + 1, hx, j4, hn, x => by
    refine sd_go [2] 80 (cd := cd_X9_shift) (by decide) rfl ?_
    generalize hi : 32 - (n + 1) = i at x ⊢
    have hi2 : i < 32 := by omega
    refine ⟨fun c => absurd c (nI_ge (b := 32) hi2 (by decide)), fun _ => ?_⟩
    have nxt : ∀ (w : Int32) (t : Int64) j, (w = if i + b < 32 then hm.1 41 0 (32 * s + (i + b)) else 0) → (i + b < 32 → t = hm.2.1 42 0 (32 * s + (i + b))) → sd_Wq l none y_X9_shift true Q 2 [some (v_r 7 0), some (v_i (nI s)), some (v_i (nI b)), some (v_i (nI i + 1)), j] [] (sd_pl (sd_pi hx 41 0 (32 * s + i) w) 42 0 (32 * s + i) t) 0 0 := by
      intro w t j hw ht
      have := x.step hi2 hw ht
      rw [nI_1]
      rw [show i + 1 = 32 - n by omega] at this ⊢
      exact sq_shift hs h1 hb hz k n _ j (by omega) this
    have I : 32 * s + i < 192 := by omega
    refine ⟨fun (c1 : (32 : Int32) ≤ nI i + nI b) => ?_, fun (c1 : ¬ (32 : Int32) ≤ nI i + nI b) => ?_⟩
    · rw [nI_add] at c1
      have c1 := (nI_leI (a := 32) (by decide) (by omega)).mp c1
      refine ⟨fun _ => ?_, fun c => absurd rfl c⟩
      refine ⟨32 * s + i, ⟨I, ix32 s i, Or.inl rfl⟩, ?_⟩
      refine ⟨fun _ => ?_, fun c => absurd rfl c⟩
      refine ⟨32 * s, ⟨show 32 * s < 192 by omega, ix32 s 0⟩, ?_⟩
      refine ⟨32 * s + i, ⟨I, ix32 s i⟩, ?_⟩
      exact nxt 0 _ _ (by rw [if_neg (by omega)]) (fun q => by omega)
    · rw [nI_add] at c1
      have c1 : i + b < 32 := by
        rcases Nat.lt_or_ge (i + b) 32 with q | q
        · exact q
        · exact absurd (nI_le (a := 32) q (by omega)) c1
      have ei : (32 : Int32) * nI s + (nI i + nI b) = nI (32 * s + (i + b)) := by rw [nI_add, ix32]
      have I2 : 32 * s + (i + b) < 192 := by omega
      refine ⟨fun c => absurd c (by decide), fun _ => ?_⟩
      refine ⟨fun c => absurd c (by decide), fun _ => ?_⟩
      refine ⟨32 * s + (i + b), ⟨I2, ei⟩, ?_⟩
      have o1 := x.2.2.2 (i + b) (by omega) c1
      have o42 : ∀ w, (sd_pi hx 41 0 (32 * s + i) w).2.1 42 0 (32 * s + (i + b)) = hm.2.1 42 0 (32 * s + (i + b)) := fun w => o1.2
      refine ⟨fun (c2 : hx.1 41 0 (32 * s + (i + b)) = 0) => ?_, fun (c2 : ¬ hx.1 41 0 (32 * s + (i + b)) = 0) => ?_⟩
      · refine ⟨32 * s + i, ⟨I, ix32 s i, Or.inl rfl⟩, ?_⟩
        refine ⟨fun c => absurd c (by decide), fun _ => ?_⟩
        refine ⟨32 * s + (i + b), ⟨I2, ei⟩, ?_⟩
        refine ⟨32 * s + i, ⟨I, ix32 s i⟩, ?_⟩
        exact nxt 0 _ _ (by rw [if_pos c1, ← o1.1, c2]) (fun _ => o42 0)
      · refine ⟨32 * s + i, ⟨I, ix32 s i, Or.inr rfl⟩, ?_⟩
        refine ⟨fun c => absurd c (by decide), fun _ => ?_⟩
        refine ⟨32 * s + (i + b), ⟨I2, ei⟩, ?_⟩
        refine ⟨32 * s + i, ⟨I, ix32 s i⟩, ?_⟩
        refine nxt 1 _ _ ?_ (fun _ => o42 1)
        rw [if_pos c1]
        rcases hz (i + b) c1 with q | q
        · exact absurd (o1.1.trans q) c2
        · exact q.symm
theorem sm_shift (hs : s < 6) (h1 : 1 ≤ b) (hb : b ≤ 32) (hz : ∀ k, k < 32 → hm.1 41 0 (32 * s + k) = 0 ∨ hm.1 41 0 (32 * s + k) = 1) (k : ∀ hm', Fx (PSh s) hm hm' → (∀ k, k < 32 → hm'.1 41 0 (32 * s + k) = if k + b < 32 then hm.1 41 0 (32 * s + (k + b)) else 0) → (∀ k, k + b < 32 → hm'.2.1 42 0 (32 * s + k) = hm.2.1 42 0 (32 * s + (k + b))) → hm'.2.1 38 0 s = hm.2.1 38 0 s + lN b → Q none hm') : sd_E1 l y_X9_shift [v_r 7 0, v_i (nI s), v_i (nI b)] hm Q := by
  refine sd_e1 [2] 80 (cd := cd_X9_shift) (by decide) rfl (Nat.le_of_ble_eq_true rfl) ?_
  exact sq_shift hs h1 hb hz k 32 hm _ (Nat.le_refl _) ⟨.rf, fun k hk => by omega, fun k hk => by omega, fun k _ _ => ⟨rfl, rfl⟩⟩
end SF
section PS
variable {hc hm hm' : sd_H} {e s b : Nat}
theorem PM.shift (p : PM hc hm s e b) (h1 : 1 ≤ b) (hb : b ≤ 32) (f : Fx (PSh s) hm hm') (w1 : ∀ k, k < 32 → hm'.1 41 0 (32 * s + k) = if k + b < 32 then hm.1 41 0 (32 * s + (k + b)) else 0) (w2 : ∀ k, k + b < 32 → hm'.2.1 42 0 (32 * s + k) = hm.2.1 42 0 (32 * s + (k + b))) (w3 : hm'.2.1 38 0 s = hm.2.1 38 0 s + lN b) (he : e < 2 ^ 40) : PM hc hm' s e 0 ∧ wc (fun k => hm'.1 41 0 (32 * s + k)) 0 32 = wc (fun k => hm.1 41 0 (32 * s + k)) b (32 - b) := by
  obtain ⟨a1, a2, a3, a4, a5, a6, a7, a8, a9, a10, a11⟩ := p
  have ew : wc (fun k => hm'.1 41 0 (32 * s + k)) 0 32 = wc (fun k => hm.1 41 0 (32 * s + k)) b (32 - b) := by
    have e1 := wc_app (fun k => hm'.1 41 0 (32 * s + k)) (32 - b) 0 b
    rw [show 32 - b + b = 32 by omega] at e1
    rw [e1, wc_z b (0 + (32 - b)) (fun k hk => by
      show hm'.1 41 0 (32 * s + (0 + (32 - b) + k)) = 0
      rw [w1 _ (by omega), if_neg (by omega)])]
    rw [Nat.add_zero]
    refine wc_cg _ _ _ (fun k hk => ?_)
    show hm'.1 41 0 (32 * s + (0 + k)) = hm.1 41 0 (32 * s + (b + k))
    rw [w1 _ (by omega), if_pos (by omega), show 0 + k + b = b + k by omega]
  have hN : (hm.2.1 38 0 s + lN b).toInt = (hm.2.1 38 0 s).toInt + b := by
    rw [Int64.toInt_add, lN_toInt (by omega)]
    exact Int.bmod_eq_of_le (by omega) (by omega)
  have es : ∀ k, hm'.2.1 38 0 s + lN k = hm.2.1 38 0 s + lN (b + k) := fun k => by rw [w3, Int64.add_assoc, lN_add]
  refine ⟨⟨a1, ?_, ?_, ?_, ?_, ?_, ?_, ?_, ?_, ?_, ?_⟩, ew⟩
  · rw [a2, w3, Int64.add_assoc, lN_add]; rfl
  · intro k hk
    rw [es, if_neg (by omega), w1 k hk]
    by_cases q : k + b < 32
    · rw [if_pos q, show b + k = k + b by omega, a3 (k + b) q, if_neg (by omega)]
    · rw [if_neg q]
      have e2 : sl (hm.2.1 38 0 s + lN (b + k)) = sl (hm.2.1 38 0 s + lN (b + k - 32)) := by
        rw [sl_add _ _ (by omega), sl_add _ _ (by omega)]; omega
      rw [e2, a3 (b + k - 32) (by omega), if_pos (by omega)]
  · intro k hk _ hw
    rw [w1 k hk] at hw
    by_cases q : k + b < 32
    · rw [if_pos q] at hw
      rw [w2 k q, es, show b + k = k + b by omega]
      exact a4 (k + b) q (by omega) hw
    · rw [if_neg q] at hw; exact absurd rfl hw
  · intro k hk
    rw [w1 k hk]
    by_cases q : k + b < 32
    · rw [if_pos q]; exact a5 _ q
    · rw [if_neg q]; exact Or.inl rfl
  · rw [a6, ew]
  · intro c h1 h5
    rw [f.1 43 0 _ (by unfold PSh; omega)]; exact a7 c h1 h5
  · rw [f.2.1 39 0 s (by unfold PSh; omega)]; exact a8
  · rw [f.1 40 0 s (by unfold PSh; omega)]; exact a9
  · rw [w3, hN]; omega
  · rw [w3, hN]; omega
end PS
end
section
/-! the reference's plays goes as the class's playDue -/
section PG
variable {h : sd_H} {s : Nat} {nw : Int32}
theorem pl_gap_hit : ∀ (n g : Nat), n ≤ 32 → pl_gap h s nw n = g → g < 32 → 32 - n ≤ g ∧ ¬ h.1 18 s (sl (h.2.1 6 s 6 + (nI g).toInt64)) = 0 ∧ ¬ nw.toInt64 < h.2.1 17 s (sl (h.2.1 6 s 6 + (nI g).toInt64))
  | 0, g, _, e, hg => by unfold pl_gap at e; omega
  | n + 1, g, hn, e, hg => by
    unfold pl_gap at e
    split at e
    · obtain ⟨b1, b2⟩ := pl_gap_hit n g (by omega) e hg
      exact ⟨by omega, b2⟩
    · split at e
      · obtain ⟨b1, b2⟩ := pl_gap_hit n g (by omega) e hg
        exact ⟨by omega, b2⟩
      · next q1 q2 =>
        subst e
        exact ⟨Nat.le_refl _, q1, q2⟩
theorem pl_gap_no : ∀ (n : Nat), n ≤ 32 → pl_gap h s nw n = 32 → ∀ g, 32 - n ≤ g → g < 32 → h.1 18 s (sl (h.2.1 6 s 6 + (nI g).toInt64)) = 0 ∨ nw.toInt64 < h.2.1 17 s (sl (h.2.1 6 s 6 + (nI g).toInt64))
  | 0, _, _, g, h1, h2 => by omega
  | n + 1, hn, e, g, h1, h2 => by
    unfold pl_gap at e
    split at e
    · next q =>
      by_cases z : g = 32 - (n + 1)
      · rw [z]; exact Or.inl q
      · exact pl_gap_no n (by omega) e g (by omega) h2
    · split at e
      · next q =>
        by_cases z : g = 32 - (n + 1)
        · rw [z]; exact Or.inr q
        · exact pl_gap_no n (by omega) e g (by omega) h2
      · omega
theorem pl_gap_z (hz : ∀ g, g < 32 → h.1 18 s (sl (h.2.1 6 s 6 + (nI g).toInt64)) = 0) : ∀ n, n ≤ 32 → pl_gap h s nw n = 32
  | 0, _ => rfl
  | n + 1, hn => by
    unfold pl_gap
    rw [if_pos (hz (32 - (n + 1)) (by omega))]
    exact pl_gap_z hz n (by omega)
end PG
theorem wc_0 {w : Nat → Int32} : ∀ (n i : Nat), wc w i n = 0 → ∀ k, k < n → w (i + k) = 0
  | 0, _, _, k, hk => by omega
  | n + 1, i, h, k, hk => by
    have h : (if w i = 0 then 0 else 1) + wc w (i + 1) n = 0 := h
    have h1 : w i = 0 := by
      by_cases q : w i = 0
      · exact q
      · rw [if_neg q] at h; omega
    cases k with
    | zero => exact h1
    | succ k =>
      rw [show i + (k + 1) = i + 1 + k by omega]
      exact wc_0 n (i + 1) (by omega) k (by omega)
/-- none that waits is due -/
def ND (hm : sd_H) (s : Nat) (nw : Int32) : Prop := ∀ k, k < 32 → ¬ hm.1 41 0 (32 * s + k) = 0 → nw.toInt64 < hm.2.1 42 0 (32 * s + k)
section PY2
variable {l : Launch} {Q : Option sd_V → sd_H → Prop} {s : Nat} {nw : Int32}
theorem PM.g {hc hm : sd_H} {e g : Nat} (p : PM hc hm s e 0) (hg : g < 32) : hc.1 18 s (sl (hc.2.1 6 s 6 + (nI g).toInt64)) = hm.1 41 0 (32 * s + g) ∧ (¬ hm.1 41 0 (32 * s + g) = 0 → hc.2.1 17 s (sl (hc.2.1 6 s 6 + (nI g).toInt64)) = hm.2.1 42 0 (32 * s + g)) := by
  obtain ⟨a1, a2, a3, a4, a5, a6, a7, a8, a9, a10, a11⟩ := p
  have e2 : hc.2.1 6 s 6 = hm.2.1 38 0 s := by rw [a2]; exact Int64.add_zero _
  rw [e2, nI_l (by omega)]
  refine ⟨?_, fun q => (a4 g hg (by omega) q).symm⟩
  rw [a3 g hg, if_neg (by omega)]
theorem sq_scan {hc hm : sd_H} {e : Nat} {d : Int32} (p : PM hc hm s e 0) (hs : s < 6) (hnw : hm.1 7 0 0 = nw) : ∀ (n : Nat) (j4 : Option sd_V), n ≤ 32 → (pl_gap hc s nw n = 32 → Q (some (v_i d)) hm) → (∀ g, pl_gap hc s nw n = g → g < 32 → sd_Wq l none y_X9_plays true Q 47 [some (v_r 7 0), some (v_i (nI s)), some (v_i d), some (v_i (nI g)), some (v_i 0)] [] hm 0 0) → sd_Wq l none y_X9_plays true Q 4 [some (v_r 7 0), some (v_i (nI s)), some (v_i d), some (v_i (nI (32 - n))), j4] [] hm 0 0
  | 0, j4, hn, k1, k2 => by
    refine sd_go [4, 47, 75] 60 (cd := cd_X9_plays) (by decide) rfl ?_
    exact ⟨fun _ => k1 rfl, fun c => absurd (show (32 : Int32) ≤ nI 32 by decide) c⟩
  | n + 1, j4, hn, k1, k2 => by
    refine sd_go [4, 47, 75] 60 (cd := cd_X9_plays) (by decide) rfl ?_
    unfold pl_gap at k1 k2
    generalize hi : 32 - (n + 1) = i at k1 k2 ⊢
    have hi2 : i < 32 := by omega
    refine ⟨fun c => absurd c (nI_ge (b := 32) hi2 (by decide)), fun _ => ?_⟩
    obtain ⟨g1, g2⟩ := p.g hi2
    have I : 32 * s + i < 192 := by omega
    refine ⟨32 * s + i, ⟨I, ix32 s i⟩, ?_⟩
    have nxt : (pl_gap hc s nw n = 32 → Q (some (v_i d)) hm) → (∀ g, pl_gap hc s nw n = g → g < 32 → sd_Wq l none y_X9_plays true Q 47 [some (v_r 7 0), some (v_i (nI s)), some (v_i d), some (v_i (nI g)), some (v_i 0)] [] hm 0 0) → ∀ j, sd_Wq l none y_X9_plays true Q 4 [some (v_r 7 0), some (v_i (nI s)), some (v_i d), some (v_i (nI i + 1)), j] [] hm 0 0 := by
      intro k1 k2 j
      rw [nI_1, show i + 1 = 32 - n by omega]
      exact sq_scan p hs hnw n j (by omega) k1 k2
    refine ⟨fun (c1 : hm.1 41 0 (32 * s + i) = 0) => ?_, fun (c1 : ¬ hm.1 41 0 (32 * s + i) = 0) => ?_⟩
    · rw [← g1] at c1
      rw [if_pos c1] at k1 k2
      exact nxt k1 k2 _
    have g2 := g2 c1
    rw [← g1] at c1
    rw [if_neg c1] at k1 k2
    refine ⟨32 * s + i, ⟨I, ix32 s i⟩, ?_⟩
    refine ⟨fun c2 => ?_, fun c2 => ?_⟩
    · have c2 := lc_gt.mp c2
      rw [hnw, ← g2] at c2
      rw [if_pos c2] at k1 k2
      exact nxt k1 k2 _
    · have c2 : ¬ (hm.1 7 0 0).toInt64 < hm.2.1 42 0 (32 * s + i) := fun q => c2 (lc_gt.mpr q)
      rw [hnw, ← g2] at c2
      rw [if_neg c2] at k1 k2
      exact k2 i rfl hi2
theorem mh2_pp {hm : sd_H} {e c : Nat} {n : Int64} (h5 : c ≤ 5) : Fx (PPm s) hm (mh2 hm e c s n) :=
  (mh2_fx (hm := hm) (e := e) (c := c) (s := s) (n := n)).mono (fun T k i q => by unfold PPm; omega)
theorem sq_lost {g : Nat} {d : Int32} (hs : s < 6) (hg : g < 32) : ∀ (m : Nat) (hc hm : sd_H) (e : Nat), m ≤ g → PM hc hm s e (g - m) → EV hc hm e → hm.1 7 0 0 = nw → e + m < 2 ^ 30 → (∀ hm', PM (pl_steps s nw m hc e) hm' s (e + m) g → EV (pl_steps s nw m hc e) hm' (e + m) → Fx (PPm s) hm hm' → (∀ i, hm'.1 41 0 i = hm.1 41 0 i) → sd_Wq l none y_X9_plays true Q 75 [some (v_r 7 0), some (v_i (nI s)), some (v_i d), some (v_i (nI g)), some (v_i (nI g))] [] hm' 0 0) → sd_Wq l none y_X9_plays true Q 47 [some (v_r 7 0), some (v_i (nI s)), some (v_i d), some (v_i (nI g)), some (v_i (nI (g - m)))] [] hm 0 0
  | 0, hc, hm, e, hm0, p, v, hnw, hb, k => by
    refine sd_go [4, 47, 75] 60 (cd := cd_X9_plays) (by decide) rfl ?_
    exact ⟨fun _ => k hm p v .rf (fun _ => rfl), fun c => absurd (nI_le (Nat.le_refl g) (by omega)) c⟩
  | m + 1, hc, hm, e, hm0, p, v, hnw, hb, k => by
    refine sd_go [4, 47, 75] 60 (cd := cd_X9_plays) (by decide) rfl ?_
    refine ⟨fun c => absurd c (nI_ge (by omega) (by omega)), fun _ => ?_⟩
    refine ⟨s, ⟨show s < 6 by omega, rfl⟩, ?_⟩
    refine sm_happens (e := e) (c := 2) (s := s) v.2.1 (by omega) hs (by decide) ?_
    rw [nI_l (n := g - (m + 1)) (by omega)]
    have st := p.step (c := 2) (nw := nw) v (by omega) hs (by decide) (by decide) hnw
    have fx := mh2_pp (s := s) (hm := hm) (e := e) (c := 2) (n := hm.2.1 38 0 s + lN (g - (m + 1))) (by decide)
    show sd_Wq l none y_X9_plays true Q 47 [some (v_r 7 0), some (v_i (nI s)), some (v_i d), some (v_i (nI g)), some (v_i (nI (g - (m + 1)) + 1))] [] (mh2 hm e 2 s (hm.2.1 38 0 s + lN (g - (m + 1)))) 0 0
    rw [nI_1]
    have f2 := mh2_fx (hm := hm) (e := e) (c := 2) (s := s) (n := hm.2.1 38 0 s + lN (g - (m + 1)))
    generalize mh2 hm e 2 s (hm.2.1 38 0 s + lN (g - (m + 1))) = hm1 at st fx f2 ⊢
    rw [show g - (m + 1) + 1 = g - m by omega] at st ⊢
    refine sq_lost hs hg m (pl_step hc s e 2 nw) hm1 (e + 1) (by omega) st.1 st.2 (by rw [fx.1 7 0 0 (by unfold PPm; omega), hnw]) (by omega) (fun hm' p' v' f' w' => ?_)
    rw [show e + 1 + m = e + (m + 1) by omega] at p' v'
    exact k hm' p' v' (fx.tr f') (fun i => (w' i).trans (f2.1 41 0 i (by omega)))
theorem sq_plays (hs : s < 6) : ∀ (n : Nat) (hc hm : sd_H) (e : Nat) (d : Int32) (j4 : Option sd_V), PM hc hm s e 0 → EV hc hm e → hm.1 7 0 0 = nw → e + 33 * n < 2 ^ 30 → wc (fun k => hm.1 41 0 (32 * s + k)) 0 32 ≤ n → (∀ hm', PM (pl_play s nw n hc e d).2.1 hm' s (pl_play s nw n hc e d).2.2 0 → EV (pl_play s nw n hc e d).2.1 hm' (pl_play s nw n hc e d).2.2 → Fx (PPm s) hm hm' → ND hm' s nw → Q (some (v_i (pl_play s nw n hc e d).1)) hm') → sd_Wq l none y_X9_plays true Q 4 [some (v_r 7 0), some (v_i (nI s)), some (v_i d), some (v_i (nI (32 - 32))), j4] [] hm 0 0 := by
  intro n
  induction n with
  | zero =>
    intro hc hm e d j4 p v hnw hb hw k
    have hz : ∀ g, g < 32 → hm.1 41 0 (32 * s + g) = 0 := fun g hg => by
      have := wc_0 (w := fun k => hm.1 41 0 (32 * s + k)) 32 0 (by omega) g hg
      rw [Nat.zero_add] at this
      exact this
    have g32 : pl_gap hc s nw 32 = 32 := pl_gap_z (fun g hg => by rw [(p.g hg).1]; exact hz g hg) 32 (Nat.le_refl _)
    refine sq_scan p hs hnw 32 j4 (Nat.le_refl _) (fun _ => k hm p v .rf (fun g hg q => absurd (hz g hg) q)) (fun g e2 hg => by omega)
  | succ n ih =>
    intro hc hm e d j4 p v hnw hb hw k
    unfold pl_play at k
    have nd : pl_gap hc s nw 32 = 32 → ND hm s nw := fun q g hg hw => by
      have := pl_gap_no 32 (Nat.le_refl _) q g (by omega) hg
      obtain ⟨g1, g2⟩ := p.g hg
      rw [g1, g2 hw] at this
      rcases this with z | z
      · exact absurd z hw
      · exact z
    by_cases c1 : hc.1 6 s 5 ≤ 0
    · rw [if_pos c1] at k
      have e6 := p.2.2.2.2.2.1
      rw [e6] at c1
      have hw0 : wc (fun k => hm.1 41 0 (32 * s + k)) 0 32 = 0 := by
        have hle := wc_le (fun k => hm.1 41 0 (32 * s + k)) 32 0
        have := (nI_leI (a := wc (fun k => hm.1 41 0 (32 * s + k)) 0 32) (b := 0) (by omega) (by decide)).mp c1
        omega
      have hz : ∀ g, g < 32 → hm.1 41 0 (32 * s + g) = 0 := fun g hg => by
        have := wc_0 32 0 hw0 g hg
        rw [Nat.zero_add] at this
        exact this
      have g32 : pl_gap hc s nw 32 = 32 := pl_gap_z (fun g hg => by rw [(p.g hg).1]; exact hz g hg) 32 (Nat.le_refl _)
      exact sq_scan p hs hnw 32 j4 (Nat.le_refl _) (fun _ => k hm p v .rf (nd g32)) (fun g e2 hg => by omega)
    rw [if_neg c1] at k
    by_cases c2 : pl_gap hc s nw 32 = 32
    · rw [if_pos c2] at k
      exact sq_scan p hs hnw 32 j4 (Nat.le_refl _) (fun _ => k hm p v .rf (nd c2)) (fun g e2 hg => by omega)
    rw [if_neg c2] at k
    refine sq_scan p hs hnw 32 j4 (Nat.le_refl _) (fun q => absurd q c2) (fun g eg hg => ?_)
    obtain ⟨-, b2, -⟩ := pl_gap_hit 32 g (Nat.le_refl _) eg hg
    rw [(p.g hg).1] at b2
    rw [eg] at k
    have L := sq_lost (l := l) (Q := Q) (s := s) (nw := nw) (g := g) (d := d) hs hg g hc hm e (Nat.le_refl _) (by rw [Nat.sub_self]; exact p) v hnw (by omega) (fun hm1 p1 v1 f1 w1 => ?_)
    · rw [Nat.sub_self] at L; exact L
    refine sd_go [4, 47] 60 (cd := cd_X9_plays) (by decide) rfl ?_
    refine ⟨s, ⟨show s < 6 by omega, rfl⟩, ?_⟩
    refine sm_happens (e := e + g) (c := 1) (s := s) v1.2.1 (by omega) hs (by decide) ?_
    rw [nI_l (n := g) (by omega)]
    have hnw1 : hm1.1 7 0 0 = nw := by rw [f1.1 7 0 0 (by unfold PPm; omega), hnw]
    have st := p1.step (c := 1) (nw := nw) v1 hg hs (by decide) (by decide) hnw1
    have fx := mh2_pp (s := s) (hm := hm1) (e := e + g) (c := 1) (n := hm1.2.1 38 0 s + lN g) (by decide)
    have f2 := mh2_fx (hm := hm1) (e := e + g) (c := 1) (s := s) (n := hm1.2.1 38 0 s + lN g)
    generalize mh2 hm1 (e + g) 1 s (hm1.2.1 38 0 s + lN g) = hm2 at st fx f2 ⊢
    show sd_E1 l y_X9_shift [v_r 7 0, v_i (nI s), v_i (nI g + 1)] hm2 _
    rw [nI_1]
    refine sm_shift hs (by omega) (by omega) st.1.2.2.2.2.1 (fun hm3 f3 w3 w4 w5 => ?_)
    obtain ⟨p3, ew⟩ := st.1.shift (by omega) (by omega) f3 w3 w4 w5 (by omega)
    have v3 : EV (pl_step (pl_steps s nw g hc e) s (e + g) 1 nw) hm3 (e + g + 1) := st.2.cg rfl (fun _ => rfl) (fun _ => rfl) (fun _ => rfl) (fun _ => rfl) (f3.1 7 0 35 (by unfold PSh; omega)) (fun i => f3.2.1 44 0 i (by unfold PSh; omega))
    have F := (f1.tr fx).tr (f3.mono (P' := PPm s) (fun T k i q => by unfold PSh at q; unfold PPm; omega))
    show sd_Wq l none y_X9_plays true Q 4 [some (v_r 7 0), some (v_i (nI s)), some (v_i (d + nI (g + 1))), some (v_i (nI (32 - 32))), some (v_i (nI g))] [] hm3 0 0
    rw [← nI_1 g]
    refine ih (pl_turn hc s e nw g) hm3 (e + g + 1) (d + (nI g + 1)) _ p3 v3 ?_ (by omega) ?_ (fun hm' p' v' f' n' => k hm' p' v' (F.tr f') n')
    · rw [F.1 7 0 0 (by unfold PPm; omega), hnw]
    · rw [ew]
      have e1 : wc (fun k => hm2.1 41 0 (32 * s + k)) (g + 1) (32 - (g + 1)) = wc (fun k => hm.1 41 0 (32 * s + k)) (g + 1) (32 - (g + 1)) := wc_cg _ _ _ (fun k _ => (f2.1 41 0 _ (by omega)).trans (w1 _))
      have e2 := wc_app (fun k => hm.1 41 0 (32 * s + k)) g 0 (32 - g)
      have e3 : wc (fun k => hm.1 41 0 (32 * s + k)) (0 + g) (32 - g) = 1 + wc (fun k => hm.1 41 0 (32 * s + k)) (g + 1) (32 - (g + 1)) := by
        rw [Nat.zero_add, show 32 - g = (32 - (g + 1)) + 1 by omega]
        show (if hm.1 41 0 (32 * s + g) = 0 then 0 else 1) + _ = _
        rw [if_neg b2]
      rw [show g + (32 - g) = 32 by omega] at e2
      omega
theorem sm_plays {hc hm : sd_H} {e : Nat} (hs : s < 6) (p : PM hc hm s e 0) (v : EV hc hm e) (hnw : hm.1 7 0 0 = nw) (hb : e + 2000 < 2 ^ 30) (k : ∀ hm', PM (pl_play s nw 32 hc e 0).2.1 hm' s (pl_play s nw 32 hc e 0).2.2 0 → EV (pl_play s nw 32 hc e 0).2.1 hm' (pl_play s nw 32 hc e 0).2.2 → Fx (PPm s) hm hm' → ND hm' s nw → Q (some (v_i (pl_play s nw 32 hc e 0).1)) hm') : sd_E1 l y_X9_plays [v_r 7 0, v_i (nI s)] hm Q := by
  refine sd_e1 [4, 47, 75] 60 (cd := cd_X9_plays) (by decide) rfl (Nat.le_of_ble_eq_true rfl) ?_
  exact sq_plays hs 32 hc hm e 0 _ p v hnw (by omega) (wc_le _ _ _) k
end PY2
end
section
/-! note, hold, forget, begin on both sides -/
section NT
variable {hc hm hm' : sd_H} {e s : Nat}
theorem PM.note {c j : Nat} {nw : Int32} {n : Int64} (p : PM hc hm s e j) (v : EV hc hm e) (h1 : 1 ≤ c) (hnw : hm.1 7 0 0 = nw) (hs : s < 6) (h8 : c < 8) (h56 : c ≤ 5 ∨ 6 ≤ c) : PM (pl_note hc s e c n nw) (mh2 hm e c s n) s (e + 1) j ∧ EV (pl_note hc s e c n nw) (mh2 hm e c s n) (e + 1) := by
  obtain ⟨a1, a2, a3, a4, a5, a6, a7, a8, a9, a10, a11⟩ := p
  have v' : EV (sd_pi hc 16 s c (hc.1 16 s c + 1)) hm e := v.cg rfl (fun _ => rfl) (fun _ => rfl) (fun _ => rfl) (fun _ => rfl) rfl (fun _ => rfl)
  have v2 := v'.add (c := c) (s := s) (n := n) (nw := nw) (kd := 0) hnw
  rw [← a1] at v2
  have f := mh2_fx (hm := hm) (e := e) (c := c) (s := s) (n := n)
  refine ⟨⟨a1, ?_, ?_, ?_, ?_, ?_, ?_, ?_, ?_, ?_, ?_⟩, v2⟩
  · rw [f.2.1 38 0 s (by omega)]; exact a2
  · intro k hk
    rw [f.2.1 38 0 s (by omega), f.1 41 0 _ (by omega)]; exact a3 k hk
  · intro k hk hj
    rw [f.2.1 38 0 s (by omega), f.1 41 0 _ (by omega), f.2.1 42 0 _ (by omega)]; exact a4 k hk hj
  · intro k hk
    rw [f.1 41 0 _ (by omega)]; exact a5 k hk
  · rw [show wc (fun k => (mh2 hm e c s n).1 41 0 (32 * s + k)) j (32 - j) = wc (fun k => hm.1 41 0 (32 * s + k)) j (32 - j) from wc_cg _ _ _ (fun k _ => f.1 41 0 _ (by omega))]
    exact a6
  · intro c' hc1 hc5
    have e16 : (pl_note hc s e c n nw).1 16 s c' = (sd_pi hc 16 s c (hc.1 16 s c + 1)).1 16 s c' := rfl
    rw [e16]
    by_cases q : c' = c
    · rw [q, sd_pi_eq, mh2_43 (by omega), a7 c h1 (by omega)]
    · rw [sd_pi_ne (fun z => q z.2.2), f.1 43 0 _ (by omega)]
      exact a7 c' hc1 hc5
  · rw [f.2.1 39 0 s (by omega)]; exact a8
  · rw [f.1 40 0 s (by omega)]; exact a9
  · rw [f.2.1 38 0 s (by omega)]; exact a10
  · rw [f.2.1 38 0 s (by omega)]; omega
theorem wc_set {w w' : Nat → Int32} {k : Nat} (h0 : w k = 0) (h1 : ¬ w' k = 0) (hn : ∀ j, j ≠ k → w' j = w j) : ∀ (n i : Nat), i ≤ k → k < i + n → wc w' i n = wc w i n + 1
  | 0, i, _, h => by omega
  | n + 1, i, hi, h => by
    show (if w' i = 0 then 0 else 1) + wc w' (i + 1) n = (if w i = 0 then 0 else 1) + wc w (i + 1) n + 1
    by_cases q : i = k
    · subst q
      rw [if_pos h0, if_neg h1, wc_cg (w := w') (w' := w) n (i + 1) (i + 1) (fun k _ => hn _ (by omega))]
      omega
    · rw [hn i q, wc_set h0 h1 hn n (i + 1) (by omega) (by omega)]
      omega
theorem PM.hold {k : Nat} {t : Int64} (p : PM hc hm s e 0) (hk : k < 32) (hw : hm.1 41 0 (32 * s + k) = 0) : PM (pl_hold hc s (hm.2.1 38 0 s + lN k) t) (sd_pl (sd_pi hm 41 0 (32 * s + k) 1) 42 0 (32 * s + k) t) s e 0 := by
  obtain ⟨a1, a2, a3, a4, a5, a6, a7, a8, a9, a10, a11⟩ := p
  have e18 : ∀ x, (pl_hold hc s (hm.2.1 38 0 s + lN k) t).1 18 s x = if x = sl (hm.2.1 38 0 s + lN k) then 1 else hc.1 18 s x := by
    intro x
    show (sd_pi hc 18 s (sl (hm.2.1 38 0 s + lN k)) 1).1 18 s x = _
    by_cases q : x = sl (hm.2.1 38 0 s + lN k)
    · rw [if_pos q, q, sd_pi_eq]
    · rw [if_neg q, sd_pi_ne (fun z => q z.2.2)]
  have e17 : ∀ x, (pl_hold hc s (hm.2.1 38 0 s + lN k) t).2.1 17 s x = if x = sl (hm.2.1 38 0 s + lN k) then t else hc.2.1 17 s x := by
    intro x
    show (sd_pl hc 17 s (sl (hm.2.1 38 0 s + lN k)) t).2.1 17 s x = _
    by_cases q : x = sl (hm.2.1 38 0 s + lN k)
    · rw [if_pos q, q, sd_pl_eq]
    · rw [if_neg q, sd_pl_ne (fun z => q z.2.2)]
  have e41 : ∀ i, (sd_pl (sd_pi hm 41 0 (32 * s + k) 1) 42 0 (32 * s + k) t).1 41 0 (32 * s + i) = if i = k then 1 else hm.1 41 0 (32 * s + i) := by
    intro i
    show (sd_pi hm 41 0 (32 * s + k) 1).1 41 0 (32 * s + i) = _
    by_cases q : i = k
    · rw [if_pos q, q, sd_pi_eq]
    · rw [if_neg q, sd_pi_ne (by omega)]
  have e42 : ∀ i, (sd_pl (sd_pi hm 41 0 (32 * s + k) 1) 42 0 (32 * s + k) t).2.1 42 0 (32 * s + i) = if i = k then t else hm.2.1 42 0 (32 * s + i) := by
    intro i
    show (sd_pl hm 42 0 (32 * s + k) t).2.1 42 0 (32 * s + i) = _
    by_cases q : i = k
    · rw [if_pos q, q, sd_pl_eq]
    · rw [if_neg q, sd_pl_ne (by omega)]
  refine ⟨?_, a2, ?_, ?_, ?_, ?_, a7, a8, ?_, a10, a11⟩
  · show (sd_pi hc 6 s 5 _).1 6 s 1 = _
    rw [sd_pi_ne (by omega), a1]
  · intro i hi
    rw [e41, if_neg (by omega)]
    show (pl_hold hc s (hm.2.1 38 0 s + lN k) t).1 18 s (sl (hm.2.1 38 0 s + lN i)) = _
    rw [e18]
    by_cases q : i = k
    · subst q; rw [if_pos rfl, if_pos rfl]
    · rw [if_neg (sl_ne hi hk q), if_neg q, a3 i hi, if_neg (by omega)]
  · intro i hi _ hw'
    rw [e41] at hw'
    rw [e42]
    show _ = (pl_hold hc s (hm.2.1 38 0 s + lN k) t).2.1 17 s (sl (hm.2.1 38 0 s + lN i))
    rw [e17]
    by_cases q : i = k
    · subst q; rw [if_pos rfl, if_pos rfl]
    · rw [if_neg q] at hw'
      rw [if_neg (sl_ne hi hk q), if_neg q]; exact a4 i hi (by omega) hw'
  · intro i hi
    rw [e41]
    by_cases q : i = k
    · rw [if_pos q]; exact Or.inr rfl
    · rw [if_neg q]; exact a5 i hi
  · show (sd_pi _ 6 s 5 (hc.1 6 s 5 + 1)).1 6 s 5 = _
    rw [sd_pi_eq, a6, nI_1, wc_set (w := fun k => hm.1 41 0 (32 * s + k)) (w' := fun i => (sd_pl (sd_pi hm 41 0 (32 * s + k) 1) 42 0 (32 * s + k) t).1 41 0 (32 * s + i)) (k := k) hw (by rw [e41, if_pos rfl]; decide) (fun j hj => by rw [e41, if_neg hj]) (32 - 0) 0 (by omega) (by omega)]
  · show _ = (sd_pi hc 6 s 5 _).1 6 s 8
    rw [sd_pi_ne (by omega)]; exact a9
theorem PM.forget (p : PM hc hm s e 0) (f : Fx (fun T _ i => T = 41 ∧ 32 * s ≤ i ∧ i < 32 * s + 32) hm hm') (hz : ∀ k, k < 32 → hm'.1 41 0 (32 * s + k) = 0) : PM (pl_forget hc s) hm' s e 0 ∧ ∀ x, x < 32 → (pl_forget hc s).1 18 s x = 0 := by
  obtain ⟨a1, a2, a3, a4, a5, a6, a7, a8, a9, a10, a11⟩ := p
  have e18 : ∀ x, x < 32 → (pl_forget hc s).1 18 s x = 0 := by
    intro x hx
    show (sd_ri hc 18 s (fz (hc.1 18 s) 32)).1 18 s x = _
    rw [sd_ri_at]
    unfold fz
    rw [if_pos hx]
  refine ⟨⟨?_, ?_, ?_, ?_, ?_, ?_, ?_, ?_, ?_, ?_, ?_⟩, e18⟩
  · show (sd_pi (sd_ri hc 18 s _) 6 s 5 _).1 6 s 1 = _
    rw [sd_pi_ne (by omega)]; exact a1
  · rw [f.2.1 38 0 s (by omega)]; exact a2
  · intro k hk
    rw [e18 _ (sl_lt _), if_neg (by omega), hz k hk]
  · intro k hk _ hw
    exact absurd (hz k hk) hw
  · intro k hk
    exact Or.inl (hz k hk)
  · show (sd_pi _ 6 s 5 0).1 6 s 5 = _
    rw [sd_pi_eq, wc_z _ _ (fun k hk => by rw [Nat.zero_add]; exact hz k (by omega))]
    rfl
  · intro c h1 h5
    rw [f.1 43 0 _ (by omega)]; exact a7 c h1 h5
  · rw [f.2.1 39 0 s (by omega)]; exact a8
  · rw [f.1 40 0 s (by omega)]
    show _ = (sd_pi (sd_ri hc 18 s _) 6 s 5 _).1 6 s 8
    rw [sd_pi_ne (by omega)]; exact a9
  · rw [f.2.1 38 0 s (by omega)]; exact a10
  · rw [f.2.1 38 0 s (by omega)]; omega
theorem PM.anew {n T : Int64} {st : Int32} (p : PM hc hm s e 0) (hx : ∀ x, x < 32 → hc.1 18 s x = 0) (hz : ∀ k, k < 32 → hm.1 41 0 (32 * s + k) = 0) (n1 : 0 ≤ n.toInt) (n2 : n.toInt ≤ 1099511627776) : PM (sd_pi (sd_pl (sd_pl hc 6 s 6 n) 6 s 7 T) 6 s 8 st) (sd_pi (sd_pl (sd_pl (sd_pi hm 37 0 s 1) 38 0 s n) 39 0 s T) 40 0 s st) s e 0 := by
  obtain ⟨a1, a2, a3, a4, a5, a6, a7, a8, a9, a10, a11⟩ := p
  have e38 : (sd_pi (sd_pl (sd_pl (sd_pi hm 37 0 s 1) 38 0 s n) 39 0 s T) 40 0 s st).2.1 38 0 s = n := by
    show (sd_pl (sd_pi hm 37 0 s 1) 38 0 s n).2.1 38 0 s = n
    exact sd_pl_eq
  refine ⟨?_, ?_, ?_, ?_, ?_, ?_, a7, ?_, ?_, ?_, ?_⟩
  · show (sd_pi _ 6 s 8 _).1 6 s 1 = _
    rw [sd_pi_ne (by omega)]; exact a1
  · rw [e38]
    show (sd_pl (sd_pl hc 6 s 6 n) 6 s 7 T).2.1 6 s 6 = _
    rw [sd_pl_ne (by omega), sd_pl_eq]
    exact (Int64.add_zero _).symm
  · intro k hk
    rw [if_neg (by omega)]
    show hc.1 18 s _ = hm.1 41 0 _
    rw [hx _ (sl_lt _), hz k hk]
  · intro k hk _ hw
    exact absurd (hz k hk) hw
  · intro k hk
    exact Or.inl (hz k hk)
  · show (sd_pi _ 6 s 8 _).1 6 s 5 = _
    rw [sd_pi_ne (by omega)]; exact a6
  · show (sd_pl _ 39 0 s T).2.1 39 0 s = (sd_pl _ 6 s 7 T).2.1 6 s 7
    rw [sd_pl_eq, sd_pl_eq]
  · rw [sd_pi_eq, sd_pi_eq]
  · rw [e38]; exact n1
  · rw [e38]; omega
end NT
section LY
variable {l : Launch} {Q : Option sd_V → sd_H → Prop} {hc hm : sd_H} {e s : Nat}
theorem sq_mforget (hs : s < 6) (k : ∀ hm', Fx (fun T _ i => T = 41 ∧ 32 * s ≤ i ∧ i < 32 * s + 32) hm hm' → (∀ k, k < 32 → hm'.1 41 0 (32 * s + k) = 0) → Q none hm') : ∀ (n : Nat) (hx : sd_H), n ≤ 32 → Fx (fun T _ i => T = 41 ∧ 32 * s ≤ i ∧ i < 32 * s + 32) hm hx → (∀ k, k < 32 - n → hx.1 41 0 (32 * s + k) = 0) → sd_Wq l none y_X9_forget true Q 2 [some (v_r 7 0), some (v_i (nI s)), some (v_i (nI (32 - n)))] [] hx 0 0
  | 0, hx, hn, f, z => by
    refine sd_go [2] 60 (cd := cd_X9_forget) (by decide) rfl ?_
    exact ⟨fun _ => k hx f (fun k hk => z k (by omega)), fun c => absurd (show (32 : Int32) ≤ nI 32 by decide) c⟩
  | n + 1, hx, hn, f, z => by
    refine sd_go [2] 60 (cd := cd_X9_forget) (by decide) rfl ?_
    generalize hi : 32 - (n + 1) = i at z ⊢
    have hi2 : i < 32 := by omega
    refine ⟨fun c => absurd c (nI_ge (b := 32) hi2 (by decide)), fun _ => ?_⟩
    refine ⟨32 * s + i, ⟨show 32 * s + i < 192 by omega, ix32 s i, Or.inl rfl⟩, ?_⟩
    show sd_Wq l none y_X9_forget true Q 2 [some (v_r 7 0), some (v_i (nI s)), some (v_i (nI i + 1))] [] (sd_pi hx 41 0 (32 * s + i) 0) 0 0
    rw [nI_1, show i + 1 = 32 - n by omega]
    refine sq_mforget hs k n _ (by omega) (f.pi ⟨rfl, by omega, by omega⟩) (fun k hk => ?_)
    by_cases q : k = i
    · rw [q, sd_pi_eq]
    · rw [sd_pi_ne (by omega)]; exact z k (by omega)
theorem sm_forget (hs : s < 6) (k : ∀ hm', Fx (fun T _ i => T = 41 ∧ 32 * s ≤ i ∧ i < 32 * s + 32) hm hm' → (∀ k, k < 32 → hm'.1 41 0 (32 * s + k) = 0) → Q none hm') : sd_E1 l y_X9_forget [v_r 7 0, v_i (nI s)] hm Q := by
  refine sd_e1 [2] 60 (cd := cd_X9_forget) (by decide) rfl (Nat.le_of_ble_eq_true rfl) ?_
  exact sq_mforget hs k 32 hm (Nat.le_refl _) .rf (fun k hk => by omega)
theorem sq_waiting (hs : s < 6) : ∀ (n m : Nat), n ≤ 32 → Q (some (v_i (nI (m + wc (fun k => hm.1 41 0 (32 * s + k)) (32 - n) n)))) hm → sd_Wq l none y_X9_waiting true Q 4 [some (v_r 7 0), some (v_i (nI s)), some (v_i (nI m)), some (v_i (nI (32 - n)))] [] hm 0 0
  | 0, m, hn, k => by
    refine sd_go [4] 60 (cd := cd_X9_waiting) (by decide) rfl ?_
    exact ⟨fun _ => k, fun c => absurd (show (32 : Int32) ≤ nI 32 by decide) c⟩
  | n + 1, m, hn, k => by
    refine sd_go [4] 60 (cd := cd_X9_waiting) (by decide) rfl ?_
    have k : Q (some (v_i (nI (m + ((if hm.1 41 0 (32 * s + (32 - (n + 1))) = 0 then 0 else 1) + wc (fun k => hm.1 41 0 (32 * s + k)) (32 - (n + 1) + 1) n))))) hm := k
    generalize hi : 32 - (n + 1) = i at k ⊢
    have hi2 : i < 32 := by omega
    refine ⟨fun c => absurd c (nI_ge (b := 32) hi2 (by decide)), fun _ => ?_⟩
    refine ⟨32 * s + i, ⟨show 32 * s + i < 192 by omega, ix32 s i⟩, ?_⟩
    rw [show i + 1 = 32 - n by omega] at k
    refine ⟨fun (c1 : hm.1 41 0 (32 * s + i) = 0) => ?_, fun (c1 : ¬ hm.1 41 0 (32 * s + i) = 0) => ?_⟩
    · rw [if_pos c1] at k
      show sd_Wq l none y_X9_waiting true Q 4 [some (v_r 7 0), some (v_i (nI s)), some (v_i (nI m + nI 0)), some (v_i (nI i + 1))] [] hm 0 0
      rw [nI_1, nI_add, show i + 1 = 32 - n by omega]
      refine sq_waiting hs n (m + 0) (by omega) ?_
      rw [show m + 0 + wc (fun k => hm.1 41 0 (32 * s + k)) (32 - n) n = m + (0 + wc (fun k => hm.1 41 0 (32 * s + k)) (32 - n) n) by omega]
      exact k
    · rw [if_neg c1] at k
      show sd_Wq l none y_X9_waiting true Q 4 [some (v_r 7 0), some (v_i (nI s)), some (v_i (nI m + nI 1)), some (v_i (nI i + 1))] [] hm 0 0
      rw [nI_1, nI_add, show i + 1 = 32 - n by omega]
      refine sq_waiting hs n (m + 1) (by omega) ?_
      rw [show m + 1 + wc (fun k => hm.1 41 0 (32 * s + k)) (32 - n) n = m + (1 + wc (fun k => hm.1 41 0 (32 * s + k)) (32 - n) n) by omega]
      exact k
theorem sm_waiting (hs : s < 6) (k : Q (some (v_i (nI (wc (fun k => hm.1 41 0 (32 * s + k)) 0 32)))) hm) : sd_E1 l y_X9_waiting [v_r 7 0, v_i (nI s)] hm Q := by
  refine sd_e1 [4] 60 (cd := cd_X9_waiting) (by decide) rfl (Nat.le_of_ble_eq_true rfl) ?_
  refine sq_waiting hs 32 0 (Nat.le_refl _) ?_
  rw [Nat.zero_add]; exact k
theorem ix320 (s : Nat) : (32 : Int32) * nI s = nI (32 * s + 0) := by rw [show (32 : Int32) = nI 32 from rfl, pk_mul]; rfl
theorem mh2_fxn {c : Nat} {n : Int64} (h : ¬ c ≤ 5) : Fx (fun T _ i => T = 44 ∨ (T = 7 ∧ i = 35)) hm (mh2 hm e c s n) := by
  unfold mh2
  rw [if_neg h]
  unfold mh
  exact ((((Fx.rf.pl (Or.inl rfl)).pl (Or.inl rfl)).pl (Or.inl rfl)).pl (Or.inl rfl)).pi (Or.inr ⟨rfl, rfl⟩)
/-- what lays may change -/
def PLm (s : Nat) (T k i : Nat) : Prop := PPm s T k i ∨ ((T = 37 ∨ T = 39 ∨ T = 40) ∧ i = s)
theorem sm_begins {n : Int64} {st nw dl : Int32} (hs : s < 6) (p : PM hc hm s e 0) (v : EV hc hm e) (hnw : hm.1 7 0 0 = nw) (hdl : hm.1 7 0 1 = dl) (hb : e < 2 ^ 30) (n1 : 0 ≤ n.toInt) (n2 : n.toInt ≤ 1099511627776) (k : ∀ hm', PM (pl_begin hc s e n st nw dl) hm' s (e + 1) 0 → EV (pl_begin hc s e n st nw dl) hm' (e + 1) → Fx (PLm s) hm hm' → hm'.1 37 0 s = 1 → Q none hm') : sd_E1 l y_X9_begins [v_r 7 0, v_i (nI s), v_l n, v_i st] hm Q := by
  refine sd_e1 [] 60 (cd := cd_X9_begins) (by decide) rfl (Nat.le_of_ble_eq_true rfl) ?_
  refine sm_forget hs (fun hm1 f1 z1 => ?_)
  have s6 : s < 6 := hs
  refine ⟨s, ⟨s6, rfl, Or.inr rfl⟩, s, ⟨s6, rfl⟩, s, ⟨s6, rfl⟩, s, ⟨s6, rfl⟩, ?_⟩
  obtain ⟨p1, x1⟩ := p.forget f1 z1
  have v1 : EV (pl_forget hc s) hm1 e := v.cg rfl (fun _ => rfl) (fun _ => rfl) (fun _ => rfl) (fun _ => rfl) (f1.1 7 0 35 (by omega)) (fun i => f1.2.1 44 0 i (by omega))
  have g0 : hm1.1 7 0 0 = nw := by rw [f1.1 7 0 0 (by omega), hnw]
  have g1 : hm1.1 7 0 1 = dl := by rw [f1.1 7 0 1 (by omega), hdl]
  have p2 := p1.anew (n := n) (T := nw.toInt64 + dl.toInt64) (st := st) x1 z1 n1 n2
  have v2 : EV (sd_pi (sd_pl (sd_pl (pl_forget hc s) 6 s 6 n) 6 s 7 (nw.toInt64 + dl.toInt64)) 6 s 8 st) (sd_pi (sd_pl (sd_pl (sd_pi hm1 37 0 s 1) 38 0 s n) 39 0 s (nw.toInt64 + dl.toInt64)) 40 0 s st) e := v1.cg rfl (fun _ => rfl) (fun _ => rfl) (fun _ => rfl) (fun _ => rfl) rfl (fun _ => rfl)
  have F2 : Fx (PLm s) hm (sd_pi (sd_pl (sd_pl (sd_pi hm1 37 0 s 1) 38 0 s n) 39 0 s (nw.toInt64 + dl.toInt64)) 40 0 s st) := by
    refine ((((f1.mono (P' := PLm s) (fun T k i q => by unfold PLm PPm; omega)).pi ?_).pl ?_).pl ?_).pi ?_
    all_goals (unfold PLm PPm; omega)
  show sd_E1 l y_X9_happens [v_r 7 0, v_i (nI 6), v_i (nI s), v_l n] (sd_pi (sd_pl (sd_pl (sd_pi hm1 37 0 s 1) 38 0 s n) 39 0 s ((hm1.1 7 0 0).toInt64 + (hm1.1 7 0 1).toInt64)) 40 0 s st) _
  rw [g0, g1]
  have e37 : (sd_pi (sd_pl (sd_pl (sd_pi hm1 37 0 s 1) 38 0 s n) 39 0 s (nw.toInt64 + dl.toInt64)) 40 0 s st).1 37 0 s = 1 := by
    show (sd_pi hm1 37 0 s 1).1 37 0 s = 1
    exact sd_pi_eq
  have e38 : (sd_pi (sd_pl (sd_pl (sd_pi hm1 37 0 s 1) 38 0 s n) 39 0 s (nw.toInt64 + dl.toInt64)) 40 0 s st).2.1 38 0 s = n := by
    show (sd_pl (sd_pi hm1 37 0 s 1) 38 0 s n).2.1 38 0 s = n
    exact sd_pl_eq
  have e39 : (sd_pi (sd_pl (sd_pl (sd_pi hm1 37 0 s 1) 38 0 s n) 39 0 s (nw.toInt64 + dl.toInt64)) 40 0 s st).2.1 39 0 s = nw.toInt64 + dl.toInt64 := by
    show (sd_pl _ 39 0 s (nw.toInt64 + dl.toInt64)).2.1 39 0 s = _
    exact sd_pl_eq
  have e00 : (sd_pi (sd_pl (sd_pl (sd_pi hm1 37 0 s 1) 38 0 s n) 39 0 s (nw.toInt64 + dl.toInt64)) 40 0 s st).1 7 0 0 = nw := g0
  have z2 : ∀ k, k < 32 → (sd_pi (sd_pl (sd_pl (sd_pi hm1 37 0 s 1) 38 0 s n) 39 0 s (nw.toInt64 + dl.toInt64)) 40 0 s st).1 41 0 (32 * s + k) = 0 := z1
  generalize hh : sd_pi (sd_pl (sd_pl (sd_pi hm1 37 0 s 1) 38 0 s n) 39 0 s (nw.toInt64 + dl.toInt64)) 40 0 s st = hm2 at p2 v2 F2 e37 e38 e39 e00 z2 ⊢
  refine sm_happens (e := e) (c := 6) (s := s) v2.2.1 hb hs (by decide) ?_
  obtain ⟨p3, v3⟩ := p2.note (c := 6) (nw := nw) (n := n) v2 (by decide) e00 hs (by decide) (by omega)
  have f3 := mh2_fxn (hm := hm2) (e := e) (c := 6) (s := s) (n := n) (by decide)
  have h37 : (mh2 hm2 e 6 s n).1 37 0 s = 1 := by rw [f3.1 37 0 s (by omega), e37]
  have h38 : (mh2 hm2 e 6 s n).2.1 38 0 s = n := by rw [f3.2.1 38 0 s (by omega), e38]
  have h39 : (mh2 hm2 e 6 s n).2.1 39 0 s = nw.toInt64 + dl.toInt64 := by rw [f3.2.1 39 0 s (by omega), e39]
  have h41 : (mh2 hm2 e 6 s n).1 41 0 (32 * s + 0) = 0 := by rw [f3.1 41 0 _ (by omega), z2 0 (by omega)]
  have F3 := F2.tr ((f3.mono (P' := PLm s) (fun T k i q => by unfold PLm PPm; omega)))
  generalize mh2 hm2 e 6 s n = hm3 at p3 v3 h37 h38 h39 h41 F3 ⊢
  refine ⟨32 * s + 0, ⟨show 32 * s + 0 < 192 by omega, ix320 s, Or.inr rfl⟩, ?_⟩
  refine ⟨s, ⟨s6, rfl⟩, 32 * s + 0, ⟨show 32 * s + 0 < 192 by omega, ix320 s⟩, ?_⟩
  have p4 := p3.hold (k := 0) (t := nw.toInt64 + dl.toInt64) (by decide) h41
  rw [h38, show n + lN 0 = n from Int64.add_zero _] at p4
  show Q none (sd_pl (sd_pi hm3 41 0 (32 * s + 0) 1) 42 0 (32 * s + 0) (hm3.2.1 39 0 s))
  rw [h39]
  refine k _ p4 ?_ ((F3.pi ?_).pl ?_) h37
  · exact v3.cg rfl (fun _ => rfl) (fun _ => rfl) (fun _ => rfl) (fun _ => rfl) rfl (fun _ => rfl)
  · unfold PLm PPm; omega
  · unfold PLm PPm; omega
end LY
end
section
/-! the reference: down, lays -/
section LZ
variable {l : Launch} {Q : Option sd_V → sd_H → Prop} {hc hm : sd_H} {e s : Nat} {nw : Int32}
theorem sm_down {a b : Int64} (hb : ¬ b = 0) (k : Q (some (v_l (fl_d a b))) hm) : sd_E1 l y_X9_down [v_l a, v_l b] hm Q := by
  refine sd_e1 [] 60 (cd := cd_X9_down) (by decide) rfl (Nat.le_of_ble_eq_true rfl) ?_
  refine ⟨hb, hb, ?_⟩
  unfold fl_d at k
  refine ⟨fun c1 => ?_, fun c1 => ?_⟩
  · have c1 := lc_eq.mp c1
    by_cases c2 : ¬ a < 0
    · rw [if_pos c2] at k; exact k
    · rw [if_neg c2, if_pos c1] at k; exact k
  · have c1 : ¬ a - a / b * b = 0 := fun q => c1 (lc_eq.mpr q)
    refine ⟨fun c2 => ?_, fun c2 => ?_⟩
    · rw [if_pos (lc_ge.mp c2)] at k; exact k
    · rw [if_neg (fun q => c2 (lc_ge.mpr q)), if_neg c1] at k; exact k
theorem pl_play_no {h : sd_H} {d : Int32} (p : PM h hm s e 0) (nd : ND hm s nw) : pl_play s nw 32 h e d = (d, h, e) := by
  unfold pl_play
  by_cases c1 : h.1 6 s 5 ≤ 0
  · rw [if_pos c1]
  rw [if_neg c1]
  have hle := pl_gap_le (h := h) (s := s) (nw := nw) 32 (Nat.le_refl _)
  rcases Nat.lt_or_ge (pl_gap h s nw 32) 32 with q | q
  · obtain ⟨-, b1, b2⟩ := pl_gap_hit (h := h) (s := s) (nw := nw) 32 _ (Nat.le_refl _) rfl q
    obtain ⟨g1, g2⟩ := p.g q
    rw [g1] at b1
    rw [g2 b1] at b2
    exact absurd (nd _ q b1) b2
  · rw [if_pos (by omega)]
theorem sq_l180 {h1 hm1 : sd_H} {e1 : Nat} {n : Int64} {st rt : Int32} {j6 : Option sd_V} (hs : s < 6) (p : PM h1 hm1 s e1 0) (v : EV h1 hm1 e1) (hnw : hm1.1 7 0 0 = nw) (hb : e1 + 2000 < 2 ^ 30) (k : ∀ hm', PM (pl_play s nw 32 h1 (evn h1) 0).2.1 hm' s (pl_play s nw 32 h1 (evn h1) 0).2.2 0 → EV (pl_play s nw 32 h1 (evn h1) 0).2.1 hm' (pl_play s nw 32 h1 (evn h1) 0).2.2 → Fx (PPm s) hm1 hm' → ND hm' s nw → Q none hm') : sd_Wq l none y_X9_lays true Q 180 [some (v_r 7 0), some (v_i (nI s)), some (v_l n), none, some (v_i st), some (v_i rt), j6] [] hm1 0 0 := by
  refine sd_go [] 60 (cd := cd_X9_lays) (by decide) rfl ?_
  have ee : evn h1 = e1 := evn_of v.1 (by omega)
  rw [ee] at k
  exact sm_plays hs p v hnw hb (fun hm' p' v' f' n' => k hm' p' v' f' n')
theorem sm_lays_b {n : Int64} {st rt dl : Int32} (hs : s < 6) (hB : hm.1 37 0 s = 0 ∨ ¬ hm.1 7 0 37 = 0) (p : PM hc hm s e 0) (v : EV hc hm e) (hnw : hm.1 7 0 0 = nw) (hdl : hm.1 7 0 1 = dl) (hb : e + 3000 < 2 ^ 30) (n1 : 0 ≤ n.toInt) (n2 : n.toInt ≤ 1099511627776) (k : ∀ hm', PM (pl_play s nw 32 (pl_begin hc s e n st nw dl) (evn (pl_begin hc s e n st nw dl)) 0).2.1 hm' s (pl_play s nw 32 (pl_begin hc s e n st nw dl) (evn (pl_begin hc s e n st nw dl)) 0).2.2 0 → EV (pl_play s nw 32 (pl_begin hc s e n st nw dl) (evn (pl_begin hc s e n st nw dl)) 0).2.1 hm' (pl_play s nw 32 (pl_begin hc s e n st nw dl) (evn (pl_begin hc s e n st nw dl)) 0).2.2 → Fx (PLm s) hm hm' → ND hm' s nw → hm'.1 37 0 s = 1 → Q none hm') : sd_E1 l y_X9_lays [v_r 7 0, v_i (nI s), v_l n, v_i st, v_i rt] hm Q := by
  refine sd_e1 [39, 180] 80 (cd := cd_X9_lays) (by decide) rfl (Nat.le_of_ble_eq_true rfl) ?_
  have at39 : sd_Wq l none y_X9_lays true Q 39 [some (v_r 7 0), some (v_i (nI s)), some (v_l n), none, some (v_i st), some (v_i rt), none] [] hm 0 0 := by
    refine sd_go [180] 60 (cd := cd_X9_lays) (by decide) rfl ?_
    refine sm_begins hs p v hnw hdl (by omega) n1 n2 (fun hm1 p1 v1 f1 z1 => ?_)
    refine sq_l180 hs p1 v1 ?_ (by omega) (fun hm' p' v' f' n' => k hm' p' v' (f1.tr (f'.mono (fun T k i q => Or.inl q))) n' ?_)
    · rw [f1.1 7 0 0 (by unfold PLm PPm; omega), hnw]
    · rw [f'.1 37 0 s (by unfold PPm; omega), z1]
  refine ⟨s, ⟨show s < 6 from hs, rfl⟩, ?_⟩
  refine ⟨fun (c1 : hm.1 37 0 s = 0) => at39, fun (c1 : ¬ hm.1 37 0 s = 0) => ?_⟩
  refine ⟨fun (c2 : ¬ hm.1 7 0 37 = 0) => at39, fun (c2 : hm.1 7 0 37 = 0) => ?_⟩
  rcases hB with q | q
  · exact absurd q c1
  · exact absurd c2 q
theorem sm_lays_a {n : Int64} {st rt dl : Int32} (hs : s < 6) (h37 : hm.1 37 0 s = 1) (h7 : hm.1 7 0 37 = 0) (nd : ND hm s nw) (hrt : 0 < rt) (p : PM hc hm s e 0) (v : EV hc hm e) (hnw : hm.1 7 0 0 = nw) (hdl : hm.1 7 0 1 = dl) (hb : e + 3000 < 2 ^ 30) (n1 : -1099511627776 ≤ n.toInt) (n2 : n.toInt ≤ 1099511627776) (k : ∀ hm', PM (pl_play s nw 32 (pl_arrive hc s e n st rt nw dl) (evn (pl_arrive hc s e n st rt nw dl)) 0).2.1 hm' s (pl_play s nw 32 (pl_arrive hc s e n st rt nw dl) (evn (pl_arrive hc s e n st rt nw dl)) 0).2.2 0 → EV (pl_play s nw 32 (pl_arrive hc s e n st rt nw dl) (evn (pl_arrive hc s e n st rt nw dl)) 0).2.1 hm' (pl_play s nw 32 (pl_arrive hc s e n st rt nw dl) (evn (pl_arrive hc s e n st rt nw dl)) 0).2.2 → Fx (PLm s) hm hm' → ND hm' s nw → hm'.1 37 0 s = 1 → Q none hm') : sd_E1 l y_X9_lays [v_r 7 0, v_i (nI s), v_l n, v_i st, v_i rt] hm Q := by
  have s6 : s < 6 := hs
  have hN : hc.2.1 6 s 6 = hm.2.1 38 0 s := by rw [p.2.1]; exact Int64.add_zero _
  have b1 := p.2.2.2.2.2.2.2.2.2.1
  have b2 := p.2.2.2.2.2.2.2.2.2.2
  have hd : (n - hm.2.1 38 0 s).toInt = n.toInt - (hm.2.1 38 0 s).toInt := by
    rw [Int64.toInt_sub]
    exact Int.bmod_eq_of_le (by omega) (by omega)
  have l32 : n - hm.2.1 38 0 s < 32 ↔ n.toInt - (hm.2.1 38 0 s).toInt < 32 := by
    rw [Int64.lt_iff_toInt_lt, hd]; rfl
  have llt : n < hm.2.1 38 0 s ↔ n.toInt < (hm.2.1 38 0 s).toInt := Int64.lt_iff_toInt_lt
  have noted : ∀ c, 3 ≤ c → c ≤ 5 → pl_arrive hc s e n st rt nw dl = pl_note hc s e c n nw → Q none (mh2 hm e c s n) := by
    intro c c3 c5 ea
    obtain ⟨p1, v1⟩ := p.note (c := c) (nw := nw) (n := n) v (by omega) hnw hs (by omega) (by omega)
    have f1 := mh2_pp (s := s) (hm := hm) (e := e) (c := c) (n := n) c5
    have f2 := mh2_fx (s := s) (hm := hm) (e := e) (c := c) (n := n)
    have nd1 : ND (mh2 hm e c s n) s nw := fun k hk hw => by
      rw [f2.1 41 0 _ (by omega)] at hw
      rw [f2.2.1 42 0 _ (by omega)]
      exact nd k hk hw
    have ee : evn (pl_note hc s e c n nw) = e + 1 := evn_of v1.1 (by omega)
    rw [ea, ee, pl_play_no p1 nd1] at k
    exact k _ p1 v1 (f1.mono (fun T k i q => Or.inl q)) nd1 (by rw [f2.1 37 0 s (by omega), h37])
  refine sd_e1 [39, 50, 180] 80 (cd := cd_X9_lays) (by decide) rfl (Nat.le_of_ble_eq_true rfl) ?_
  refine ⟨s, ⟨s6, rfl⟩, ?_⟩
  refine ⟨fun (c1 : hm.1 37 0 s = 0) => absurd (h37.symm.trans c1) (by decide), fun _ => ?_⟩
  refine ⟨fun (c2 : ¬ hm.1 7 0 37 = 0) => absurd h7 c2, fun _ => ?_⟩
  refine ⟨s, ⟨s6, rfl⟩, ?_⟩
  refine ⟨fun c3 => ?_, fun c3 => ?_⟩
  · have c3 := l32.mp (lc_lt.mp c3)
    refine sd_go [180] 80 (cd := cd_X9_lays) (by decide) rfl ?_
    refine ⟨s, ⟨s6, rfl⟩, ?_⟩
    refine ⟨fun c4 => ?_, fun c4 => ?_⟩
    rotate_left
    · have c4 : n < hm.2.1 38 0 s := Classical.not_not.mp fun q => c4 (lc_ge.mpr q)
      refine sm_happens (e := e) (c := 3) (s := s) v.2.1 (by omega) hs (by decide) ?_
      exact noted 3 (by omega) (by omega) (by unfold pl_arrive; rw [hN, if_pos c4])
    have c4 : ¬ n < hm.2.1 38 0 s := lc_ge.mp c4
    have c4' : ¬ n.toInt < (hm.2.1 38 0 s).toInt := fun q => c4 (llt.mpr q)
    obtain ⟨x, hx⟩ : ∃ x : Nat, n.toInt - (hm.2.1 38 0 s).toInt = x := ⟨(n.toInt - (hm.2.1 38 0 s).toInt).toNat, by omega⟩
    have x32 : x < 32 := by omega
    have ex : n - hm.2.1 38 0 s = lN x := Int64.toInt_inj.mp (by rw [hd, hx, lN_toInt (by omega)])
    have en : n = hm.2.1 38 0 s + lN x := by
      rw [← ex]
      apply Int64.toInt_inj.mp
      rw [Int64.toInt_add, hd]
      have h1 := Int64.minValue_le_toInt n
      have h2 := Int64.toInt_le n
      rw [show (hm.2.1 38 0 s).toInt + (n.toInt - (hm.2.1 38 0 s).toInt) = n.toInt by omega]
      exact (Int.bmod_eq_of_le (by omega) (by omega)).symm
    refine ⟨s, ⟨s6, rfl⟩, ?_⟩
    refine ⟨fun _ => ?_, fun c5 => absurd (lc_lt.mpr (l32.mpr c3)) c5⟩
    have hc32 : hc.1 18 s (sl n) = hm.1 41 0 (32 * s + x) := by
      rw [en, p.2.2.1 x x32, if_neg (by omega)]
    have I : 32 * s + x < 192 := by omega
    have ei : (32 : Int32) * nI s + (n - hm.2.1 38 0 s).toInt32 = nI (32 * s + x) := by rw [ex, lN_i, ix32]
    refine ⟨s, ⟨s6, rfl⟩, 32 * s + x, ⟨I, ei⟩, ?_⟩
    refine ⟨fun (c5 : hm.1 41 0 (32 * s + x) = 0) => ?_, fun (c5 : ¬ hm.1 41 0 (32 * s + x) = 0) => ?_⟩
    · refine ⟨s, ⟨s6, rfl⟩, ?_⟩
      refine ⟨32 * s + x, ⟨I, ei, Or.inr rfl⟩, ?_⟩
      refine ⟨s, ⟨s6, rfl⟩, s, ⟨s6, rfl⟩, ?_⟩
      have a8 := p.2.2.2.2.2.2.2.1
      have a9 := p.2.2.2.2.2.2.2.2.1
      have hrt0 : ¬ rt ≤ 0 := Int32.not_le.mpr hrt
      have ha : pl_arrive hc s e n st rt nw dl = pl_hold hc s n (hm.2.1 39 0 s + fl_d ((st - hm.1 40 0 s).toInt64 * 1000) rt.toInt64) := by
        unfold pl_arrive
        rw [hN, if_neg c4, if_pos (l32.mpr c3)]
        have ew : pl_waits hc s n = 0 := by
          unfold pl_waits
          rw [hN, if_neg c4, if_neg (fun q => q (l32.mpr c3)), hc32, if_pos c5]
        rw [if_pos ew, a8, a9]
        unfold pl_since
        rw [if_neg hrt0]
      refine sm_down (fun q => ?_) ?_
      · have := i_l0.mp q
        rw [this] at hrt0
        exact hrt0 (by decide)
      refine ⟨32 * s + x, ⟨I, ei⟩, ?_⟩
      have p1 := p.hold (k := x) (t := hm.2.1 39 0 s + fl_d ((st - hm.1 40 0 s).toInt64 * 1000) rt.toInt64) x32 c5
      rw [← en, ← ha] at p1
      have v1 : EV (pl_arrive hc s e n st rt nw dl) (sd_pl (sd_pi hm 41 0 (32 * s + x) 1) 42 0 (32 * s + x) (hm.2.1 39 0 s + fl_d ((st - hm.1 40 0 s).toInt64 * 1000) rt.toInt64)) e := by
        rw [ha]
        exact v.cg rfl (fun _ => rfl) (fun _ => rfl) (fun _ => rfl) (fun _ => rfl) rfl (fun _ => rfl)
      have F1 : Fx (PLm s) hm (sd_pl (sd_pi hm 41 0 (32 * s + x) 1) 42 0 (32 * s + x) (hm.2.1 39 0 s + fl_d ((st - hm.1 40 0 s).toInt64 * 1000) rt.toInt64)) := by
        refine (Fx.rf.pi ?_).pl ?_
        all_goals (unfold PLm PPm; omega)
      exact sq_l180 hs p1 v1 hnw (by omega) (fun hm' p' v' f' n' => k hm' p' v' (F1.tr (f'.mono (fun T k i q => Or.inl q))) n' (by rw [f'.1 37 0 s (by unfold PPm; omega)]; exact h37))
    · refine sm_happens (e := e) (c := 5) (s := s) v.2.1 (by omega) hs (by decide) ?_
      refine noted 5 (by omega) (by omega) ?_
      unfold pl_arrive
      rw [hN, if_neg c4, if_pos (l32.mpr c3), if_neg]
      unfold pl_waits
      rw [hN, if_neg c4, if_neg (fun q => q (l32.mpr c3)), hc32, if_neg c5]
      decide
  · have c3 : ¬ n.toInt - (hm.2.1 38 0 s).toInt < 32 := fun q => c3 (lc_lt.mpr (l32.mpr q))
    have c4 : ¬ n < hm.2.1 38 0 s := fun q => by have := llt.mp q; omega
    have c3' : ¬ n - hm.2.1 38 0 s < 32 := fun q => c3 (l32.mp q)
    refine sm_waiting hs ?_
    have a6 : hc.1 6 s 5 = nI (wc (fun k => hm.1 41 0 (32 * s + k)) 0 32) := p.2.2.2.2.2.1
    refine ⟨fun c5 => ?_, fun c5 => ?_⟩
    · rw [← a6] at c5
      refine sd_go [180] 80 (cd := cd_X9_lays) (by decide) rfl ?_
      refine ⟨s, ⟨s6, rfl⟩, ?_⟩
      refine ⟨fun _ => ?_, fun c6 => absurd (lc_ge.mpr c4) c6⟩
      refine ⟨s, ⟨s6, rfl⟩, ?_⟩
      refine ⟨fun c6 => absurd (lc_lt.mp c6) c3', fun _ => ?_⟩
      refine sm_happens (e := e) (c := 4) (s := s) v.2.1 (by omega) hs (by decide) ?_
      exact noted 4 (by omega) (by omega) (by unfold pl_arrive; rw [hN, if_neg c4, if_neg c3', if_neg c5])
    · rw [← a6] at c5
      have ha : pl_arrive hc s e n st rt nw dl = pl_begin hc s e n st nw dl := by unfold pl_arrive; rw [hN, if_neg c4, if_neg c3', if_pos c5]
      rw [ha] at k
      refine sd_go [180] 60 (cd := cd_X9_lays) (by decide) rfl ?_
      refine sm_begins hs p v hnw hdl (by omega) (by omega) n2 (fun hm1 p1 v1 f1 z1 => ?_)
      refine sq_l180 hs p1 v1 ?_ (by omega) (fun hm' p' v' f' n' => k hm' p' v' (f1.tr (f'.mono (fun T k i q => Or.inl q))) n' ?_)
      · rw [f1.1 7 0 0 (by unfold PLm PPm; omega), hnw]
      · rw [f'.1 37 0 s (by unfold PPm; omega), z1]
end LZ
end
section
/-! the reference: set, comes, believes, jitters -/
def MN (hm : sd_H) (s : Nat) (f : Nat → Int32) : Prop := ∀ i, i < 8 → hm.1 (22 + i) 0 s = f i
def PN (s : Nat) (T _k i : Nat) : Prop := (22 ≤ T ∧ T < 30 ∧ i = s) ∨ (T = 7 ∧ i = 37)
section MNS
variable {l : Launch} {Q : Option sd_V → sd_H → Prop} {hm : sd_H} {s : Nat} {f : Nat → Int32}
theorem MN.pi {j : Nat} {v : Int32} (m : MN hm s f) (hj : j < 8) : MN (sd_pi hm (22 + j) 0 s v) s (upd f j v) := by
  intro i hi
  by_cases q : i = j
  · subst q; rw [sd_pi_eq, pk_us]
  · rw [sd_pi_ne (by omega), pk_un q]; exact m i hi
theorem MN.o {i : Nat} {v : Int32} (m : MN hm s f) : MN (sd_pi hm 7 0 i v) s f := by
  intro j hj
  rw [sd_pi_ne (by omega)]; exact m j hj
def mset (h : sd_H) (s : Nat) (q : Int32) : sd_H := sd_pi (sd_pi (sd_pi (sd_pi (sd_pi (sd_pi (sd_pi h (22 + 2) 0 s q) (22 + 0) 0 s q) (22 + 3) 0 s 65537) (22 + 1) 0 s 0) (22 + 5) 0 s 0) (22 + 6) 0 s 0) (22 + 7) 0 s 0
theorem MN.set {q : Int32} (m : MN hm s f) : MN (mset hm s q) s (nb_set f q) := ((((((m.pi (by decide)).pi (by decide)).pi (by decide)).pi (by decide)).pi (by decide)).pi (by decide)).pi (by decide)
theorem mset_fx {q : Int32} {h : sd_H} {P : Nat → Nat → Nat → Prop} (x : Fx P h hm) (hp : ∀ T, 22 ≤ T → T < 30 → P T 0 s) : Fx P h (mset hm s q) :=
  ((((((x.pi (hp _ (by decide) (by decide))).pi (hp _ (by decide) (by decide))).pi (hp _ (by decide) (by decide))).pi (hp _ (by decide) (by decide))).pi (hp _ (by decide) (by decide))).pi (hp _ (by decide) (by decide))).pi (hp _ (by decide) (by decide))
theorem sm_set {q : Int32} (hs : s < 6) (k : Q none (mset hm s q)) : sd_E1 l y_X9_set [v_r 7 0, v_i (nI s), v_i q] hm Q := by
  refine sd_e1 [] 60 (cd := cd_X9_set) (by decide) rfl (Nat.le_of_ble_eq_true rfl) ?_
  have s6 : s < 6 := hs
  refine ⟨s, ⟨s6, rfl⟩, s, ⟨s6, rfl⟩, s, ⟨s6, rfl⟩, s, ⟨s6, rfl⟩, s, ⟨s6, rfl⟩, s, ⟨s6, rfl⟩, s, ⟨s6, rfl⟩, ?_⟩
  exact k
theorem nb_new_c (f : Nat → Int32) (q : Int32) : ∀ i, i < 8 → nb_new f q i = nb_new (fun _ => 0) q i := by
  intro i hi
  rcases (show i = 0 ∨ i = 1 ∨ i = 2 ∨ i = 3 ∨ i = 4 ∨ i = 5 ∨ i = 6 ∨ i = 7 by omega) with rfl | rfl | rfl | rfl | rfl | rfl | rfl | rfl <;> rfl
def PC0 (s : Nat) (T _k i : Nat) : Prop := (T = 21 ∧ i = s) ∨ (22 ≤ T ∧ T < 30 ∧ i = s) ∨ (T = 7 ∧ i = 8)
theorem sm_comes {b q : Int32} {sn : Nat} (hN : hm.1 7 0 8 = nI sn) (hs : sn < 6) (k : ∀ hm', Fx (PC0 sn) hm hm' → hm'.1 21 0 sn = b → MN hm' sn (nb_new (fun _ => 0) q) → hm'.1 7 0 8 = nI (sn + 1) → Q (some (v_i (nI sn))) hm') : sd_E1 l y_X9_comes [v_r 7 0, v_i b, v_i q] hm Q := by
  refine sd_e1 [] 60 (cd := cd_X9_comes) (by decide) rfl (Nat.le_of_ble_eq_true rfl) ?_
  have s6 : sn < 6 := hs
  refine ⟨sn, ⟨s6, hN⟩, ?_⟩
  show sd_E1 l y_X9_set [v_r 7 0, v_i (hm.1 7 0 8), v_i q] _ _
  rw [hN]
  refine sm_set hs ?_
  refine ⟨sn, ⟨s6, rfl⟩, sn, ⟨s6, rfl⟩, ?_⟩
  have m : MN (sd_pi hm 21 0 sn b) sn (fun i => (sd_pi hm 21 0 sn b).1 (22 + i) 0 sn) := fun _ _ => rfl
  have m2 := ((m.set (q := q)).pi (j := 0) (v := (q - 1) &&& 65535) (by decide)).pi (j := 4) (v := 2) (by decide)
  show Q (some (v_i (nI sn))) (sd_pi (sd_pi (sd_pi (mset (sd_pi hm 21 0 sn b) sn q) (22 + 0) 0 sn ((q - 1) &&& 65535)) (22 + 4) 0 sn 2) 7 0 8 (hm.1 7 0 8 + 1))
  refine k _ ?_ ?_ ?_ ?_
  · refine (((mset_fx (Fx.rf.pi (Or.inl ⟨rfl, rfl⟩)) (fun T h1 h2 => Or.inr (Or.inl ⟨h1, h2, rfl⟩))).pi ?_).pi ?_).pi ?_
    all_goals (unfold PC0; omega)
  · show (sd_pi hm 21 0 sn b).1 21 0 sn = b
    exact sd_pi_eq
  · intro i hi
    rw [← nb_new_c (fun i => (sd_pi hm 21 0 sn b).1 (22 + i) 0 sn) q i hi, sd_pi_ne (by omega)]
    exact m2 i hi
  · rw [sd_pi_eq, hN, nI_1]
theorem sm_believes {q : Int32} (hs : s < 6) (m : MN hm s f) (k : ∀ hm', Fx (PN s) hm hm' → MN hm' s (nb_j f q).2 → hm'.1 7 0 37 = (if f 4 ≤ 0 ∧ (nb_j f q).1 = 2 then 1 else 0) → Q (some (v_i (if (nb_j f q).1 = 0 then 0 else 1))) hm') : sd_E1 l y_X9_believes [v_r 7 0, v_i (nI s), v_i q] hm Q := by
  have s6 : s < 6 := hs
  refine sd_e1 [183] 80 (cd := cd_X9_believes) (by decide) rfl (Nat.le_of_ble_eq_true rfl) ?_
  refine ⟨Or.inl rfl, ?_⟩
  have m0 : MN (sd_pi hm 7 0 37 0) s f := m.o
  have F0' : Fx (PN s) hm (sd_pi hm 7 0 37 0) := Fx.rf.pi (Or.inr ⟨rfl, rfl⟩)
  have z0 : (sd_pi hm 7 0 37 0).1 7 0 37 = 0 := rfl
  generalize sd_pi hm 7 0 37 0 = h0 at m0 F0' z0 ⊢
  have w0 : h0.1 22 0 s = f 0 := m0 0 (by decide)
  have w3 : h0.1 25 0 s = f 3 := m0 3 (by decide)
  have w4 : h0.1 26 0 s = f 4 := m0 4 (by decide)
  have PNs : ∀ T, 22 ≤ T → T < 30 → PN s T 0 s := fun T h1 h2 => Or.inl ⟨h1, h2, rfl⟩
  have at183 : ∀ (h1 : sd_H) (f1 : Nat → Int32) (v : Int32) (j3 : Option sd_V), Fx (PN s) hm h1 → MN h1 s f1 → nb_j0 f q = (v, f1) → ¬ v = 0 → h1.1 7 0 37 = (if f 4 ≤ 0 ∧ v = 2 then 1 else 0) → sd_Wq l none y_X9_believes true Q 183 [some (v_r 7 0), some (v_i (nI s)), some (v_i q), j3] [] h1 0 0 := by
    intro h1 f1 v j3 F1 m1 ej hv e37
    refine sd_go [] 60 (cd := cd_X9_believes) (by decide) rfl ?_
    refine ⟨s, ⟨s6, rfl⟩, s, ⟨s6, rfl⟩, ?_⟩
    have w5 : h1.1 27 0 s = f1 5 := m1 5 (by decide)
    have eJ : nb_j f q = (v, upd f1 5 (f1 5 + 1)) := by unfold nb_j; rw [ej, if_neg hv]
    rw [eJ] at k
    have m2 : MN (sd_pi h1 27 0 s (h1.1 27 0 s + 1)) s (upd f1 5 (f1 5 + 1)) := by rw [← w5]; exact m1.pi (j := 5) (by decide)
    have := k (sd_pi h1 27 0 s (h1.1 27 0 s + 1)) (F1.pi (PNs 27 (by decide) (by decide))) m2 e37
    rw [if_neg hv] at this
    exact ⟨Or.inr rfl, this⟩
  have fin0 : ∀ (h1 : sd_H) (f1 : Nat → Int32), Fx (PN s) hm h1 → MN h1 s f1 → nb_j0 f q = (0, f1) → h1.1 7 0 37 = 0 → Q (some (v_i 0)) h1 := by
    intro h1 f1 F1 m1 ej e37
    have eJ : nb_j f q = (0, f1) := by unfold nb_j; rw [ej]; rfl
    rw [eJ] at k
    have := k h1 F1 m1 (by rw [e37, if_neg (fun z => absurd (show (0 : Int32) = 2 from z.2) (by decide))])
    exact this
  refine ⟨s, ⟨s6, rfl⟩, ?_⟩
  refine ⟨fun (c1 : h0.1 26 0 s ≤ 0) => ?_, fun (c1 : ¬ h0.1 26 0 s ≤ 0) => ?_⟩
  · rw [w4] at c1
    have e0 : nb_j0 f q = nb_bel f q := by unfold nb_j0; rw [if_pos c1]
    refine ⟨s, ⟨s6, rfl⟩, ?_⟩
    refine ⟨fun (c2 : 3000 ≤ (q - h0.1 22 0 s) &&& 65535) => ?_, fun (c2 : ¬ 3000 ≤ (q - h0.1 22 0 s) &&& 65535) => ?_⟩
    · rw [w0] at c2
      refine ⟨fun (c3 : 65436 < (q - h0.1 22 0 s) &&& 65535) => ?_, fun (c3 : ¬ 65436 < (q - h0.1 22 0 s) &&& 65535) => ?_⟩
      · rw [w0] at c3
        refine at183 h0 f 1 _ F0' m0 ?_ (by decide) ?_
        · rw [e0]; unfold nb_bel; rw [if_pos c2, if_neg (Int32.not_le.mpr c3)]
        · rw [z0, if_neg (fun z => absurd z.2 (by decide))]
      · rw [w0] at c3
        refine ⟨s, ⟨s6, rfl⟩, ?_⟩
        refine ⟨fun (c4 : q = h0.1 25 0 s) => ?_, fun (c4 : ¬ q = h0.1 25 0 s) => ?_⟩
        · rw [w3] at c4
          refine sm_set hs ?_
          refine ⟨Or.inr rfl, ?_⟩
          refine at183 (sd_pi (mset h0 s q) 7 0 37 1) (nb_set f q) 2 _ ((mset_fx F0' PNs).pi (Or.inr ⟨rfl, rfl⟩)) (m0.set).o ?_ (by decide) ?_
          · rw [e0]; unfold nb_bel; rw [if_pos c2, if_pos (i_nlt c3), if_pos c4]
          · rw [if_pos ⟨c1, rfl⟩, sd_pi_eq]
        · rw [w3] at c4
          refine ⟨s, ⟨s6, rfl⟩, ?_⟩
          refine ⟨Or.inl rfl, ?_⟩
          refine fin0 (sd_pi h0 (22 + 3) 0 s ((q + 1) &&& 65535)) (upd f 3 ((q + 1) &&& 65535)) (F0'.pi (PNs _ (by decide) (by decide))) (m0.pi (by decide)) ?_ z0
          rw [e0]; unfold nb_bel; rw [if_pos c2, if_pos (i_nlt c3), if_neg c4]
    · rw [w0] at c2
      have w1 : h0.1 23 0 s = f 1 := m0 1 (by decide)
      refine ⟨s, ⟨s6, rfl⟩, s, ⟨s6, rfl⟩, ?_⟩
      have both : ∀ x : Int32, (if f 0 ≤ q then (0 : Int32) else 65536) = x → sd_Wq l none y_X9_believes true Q 183 [some (v_r 7 0), some (v_i (nI s)), some (v_i q), some (v_i ((q - h0.1 22 0 s) &&& 65535))] [] (sd_pi (sd_pi h0 23 0 s (h0.1 23 0 s + x)) 22 0 s q) 0 0 := by
        intro x hx
        refine at183 _ (upd (upd f 1 (f 1 + x)) 0 q) 1 _ ((F0'.pi (PNs _ (by decide) (by decide))).pi (PNs _ (by decide) (by decide))) ?_ ?_ (by decide) ?_
        · rw [w1]
          exact (m0.pi (j := 1) (by decide)).pi (j := 0) (by decide)
        · rw [e0]; unfold nb_bel; rw [if_neg c2, hx]
        · rw [if_neg (fun z => absurd z.2 (by decide))]; exact z0
      refine ⟨fun (c3 : h0.1 22 0 s ≤ q) => ?_, fun (c3 : ¬ h0.1 22 0 s ≤ q) => ?_⟩
      · rw [w0] at c3
        refine ⟨s, ⟨s6, rfl⟩, s, ⟨s6, rfl⟩, ?_⟩
        exact both 0 (by rw [if_pos c3])
      · rw [w0] at c3
        refine ⟨s, ⟨s6, rfl⟩, s, ⟨s6, rfl⟩, ?_⟩
        exact both 65536 (by rw [if_neg c3])
  · rw [w4] at c1
    have e0 : nb_j0 f q = nb_pro f q := by unfold nb_j0; rw [if_neg c1]
    refine ⟨s, ⟨s6, rfl⟩, ?_⟩
    refine ⟨fun (c2 : q = (h0.1 22 0 s + 1) &&& 65535) => ?_, fun (c2 : ¬ q = (h0.1 22 0 s + 1) &&& 65535) => ?_⟩
    rotate_left
    · rw [w0] at c2
      refine ⟨s, ⟨s6, rfl⟩, s, ⟨s6, rfl⟩, Or.inl rfl, ?_⟩
      refine fin0 (sd_pi (sd_pi h0 (22 + 4) 0 s 1) (22 + 0) 0 s q) (upd (upd f 4 1) 0 q) ((F0'.pi (PNs _ (by decide) (by decide))).pi (PNs _ (by decide) (by decide))) ((m0.pi (by decide)).pi (by decide)) ?_ z0
      rw [e0]; unfold nb_pro; rw [if_neg c2]
    rw [w0] at c2
    refine ⟨s, ⟨s6, rfl⟩, s, ⟨s6, rfl⟩, s, ⟨s6, rfl⟩, s, ⟨s6, rfl⟩, ?_⟩
    have m1 : MN (sd_pi (sd_pi h0 26 0 s (h0.1 26 0 s - 1)) 22 0 s q) s (upd (upd f 4 (f 4 - 1)) 0 q) := by
      rw [w4]; exact (m0.pi (j := 4) (by decide)).pi (j := 0) (by decide)
    have F1 : Fx (PN s) hm (sd_pi (sd_pi h0 26 0 s (h0.1 26 0 s - 1)) 22 0 s q) := (F0'.pi (PNs _ (by decide) (by decide))).pi (PNs _ (by decide) (by decide))
    have z1 : (sd_pi (sd_pi h0 26 0 s (h0.1 26 0 s - 1)) 22 0 s q).1 7 0 37 = 0 := z0
    generalize sd_pi (sd_pi h0 26 0 s (h0.1 26 0 s - 1)) 22 0 s q = h1 at m1 F1 z1 ⊢
    have y4 : h1.1 26 0 s = f 4 - 1 := m1 4 (by decide)
    refine ⟨fun (c3 : h1.1 26 0 s ≤ 0) => ?_, fun (c3 : ¬ h1.1 26 0 s ≤ 0) => ?_⟩
    · rw [y4] at c3
      refine sm_set hs ?_
      refine ⟨s, ⟨s6, rfl⟩, Or.inr rfl, ?_⟩
      have ej : nb_j0 f q = (2, nb_set (upd (upd f 4 (f 4 - 1)) 0 q) q) := by rw [e0]; unfold nb_pro; rw [if_pos c2, if_pos c3]
      have eJ : nb_j f q = (2, upd (nb_set (upd (upd f 4 (f 4 - 1)) 0 q) q) 5 1) := by
        unfold nb_j; rw [ej, if_neg (show ¬ (2 : Int32) = 0 by decide)]; rfl
      rw [eJ] at k
      have := k (sd_pi (mset h1 s q) (22 + 5) 0 s 1) ((mset_fx F1 PNs).pi (PNs _ (by decide) (by decide))) (m1.set.pi (by decide)) (by
        rw [if_neg (fun z => absurd z.1 c1)]; exact z1)
      exact this
    · rw [y4] at c3
      refine ⟨Or.inl rfl, ?_⟩
      refine fin0 h1 _ F1 m1 ?_ z1
      rw [e0]; unfold nb_pro; rw [if_pos c2, if_neg c3]
/-- JITTER -/
def MJ (hm : sd_H) (s : Nat) (f : Nat → Int32) : Prop := hm.1 32 0 s = f 0 ∧ hm.1 31 0 s = f 1 ∧ hm.1 30 0 s = f 2 ∧ (f 2 = 0 ∨ f 2 = 1)
def PJ (s : Nat) (T _k i : Nat) : Prop := 30 ≤ T ∧ T < 33 ∧ i = s
theorem i_asub (a b c : Int32) : a + b - c = a + (b - c) := by rw [Int32.sub_eq_add_neg, Int32.sub_eq_add_neg, Int32.add_assoc]
theorem sm_jitters {rt st nw : Int32} (hs : s < 6) (hnw : hm.1 7 0 0 = nw) (m : MJ hm s f) (k : ∀ hm', Fx (PJ s) hm hm' → MJ hm' s (jt_f f ((nw.toInt64 * rt.toInt64 / 1000).toInt32 - st)) → Q none hm') : sd_E1 l y_X9_jitters [v_r 7 0, v_i (nI s), v_i rt, v_i st] hm Q := by
  have s6 : s < 6 := hs
  refine sd_e1 [79] 80 (cd := cd_X9_jitters) (by decide) rfl (Nat.le_of_ble_eq_true rfl) ?_
  refine ⟨by decide, s, ⟨s6, rfl⟩, ?_⟩
  obtain ⟨m0, m1, m2, m3⟩ := m
  rw [hnw]
  generalize (nw.toInt64 * rt.toInt64 / 1000).toInt32 - st = x at k ⊢
  have P32 : PJ s 32 0 s := ⟨by decide, by decide, rfl⟩
  have P31 : PJ s 31 0 s := ⟨by decide, by decide, rfl⟩
  have P30 : PJ s 30 0 s := ⟨by decide, by decide, rfl⟩
  refine ⟨fun (c1 : hm.1 30 0 s = 0) => ?_, fun (c1 : ¬ hm.1 30 0 s = 0) => ?_⟩
  · rw [m2] at c1
    refine sd_go [] 60 (cd := cd_X9_jitters) (by decide) rfl ?_
    refine ⟨s, ⟨s6, rfl, Or.inr rfl⟩, s, ⟨s6, rfl⟩, ?_⟩
    refine k (sd_pi (sd_pi hm 30 0 s 1) 31 0 s x) ((Fx.rf.pi P30).pi P31) ?_
    unfold jt_f
    rw [if_pos c1]
    refine ⟨m0, sd_pi_eq, ?_, Or.inr rfl⟩
    show (sd_pi hm 30 0 s 1).1 30 0 s = _
    exact sd_pi_eq
  · rw [m2] at c1
    refine ⟨s, ⟨s6, rfl⟩, ?_⟩
    have ea : ∀ y : Int32, i_abs (x - f 1) = y → sd_Wq l none y_X9_jitters true Q 79 [some (v_r 7 0), some (v_i (nI s)), some (v_i rt), some (v_i st), some (v_i x), some (v_i y)] [] (sd_pi hm 32 0 s (hm.1 32 0 s + y - (hm.1 32 0 s + 8) >>> 4)) 0 0 := by
      intro y hy
      refine sd_go [] 60 (cd := cd_X9_jitters) (by decide) rfl ?_
      refine ⟨s, ⟨s6, rfl, Or.inr rfl⟩, s, ⟨s6, rfl⟩, ?_⟩
      refine k (sd_pi (sd_pi (sd_pi hm 32 0 s (hm.1 32 0 s + y - (hm.1 32 0 s + 8) >>> 4)) 30 0 s 1) 31 0 s x) (((Fx.rf.pi P32).pi P30).pi P31) ?_
      unfold jt_f
      rw [if_neg c1, hy]
      refine ⟨?_, sd_pi_eq, ?_, Or.inr rfl⟩
      · show (sd_pi hm 32 0 s _).1 32 0 s = f 0 + (y - (f 0 + 8) >>> 4)
        rw [sd_pi_eq, m0, i_asub]
      · show (sd_pi _ 30 0 s 1).1 30 0 s = _
        exact sd_pi_eq
    rw [m1]
    refine ⟨fun c2 => ?_, fun c2 => ?_⟩
    · refine ⟨s, ⟨s6, rfl⟩, s, ⟨s6, rfl⟩, s, ⟨s6, rfl⟩, ?_⟩
      exact ea (x - f 1) (by unfold i_abs; rw [if_pos c2])
    · refine ⟨s, ⟨s6, rfl⟩, s, ⟨s6, rfl⟩, s, ⟨s6, rfl⟩, ?_⟩
      exact ea (-(x - f 1)) (by unfold i_abs; rw [if_neg c2])
end MNS
end
section
/-! what the class's playing may change; the relation of both sides -/
def PCp (s : Nat) (T k _i : Nat) : Prop := ((T = 6 ∨ T = 16 ∨ T = 17 ∨ T = 18) ∧ k = s) ∨ T = 2 ∨ (12 ≤ T ∧ T ≤ 15)
section CFX
variable {h g : sd_H} {s e c : Nat} {nw : Int32} {n t : Int64}
theorem ev_add_fx {kd sn : Int32} {P : Nat → Nat → Nat → Prop} (x : Fx P h g) (hp : ∀ T i, T = 2 ∨ (12 ≤ T ∧ T ≤ 15) → P T 0 i) : Fx P h (ev_add g e kd sn n nw) := by
  unfold ev_add
  refine ((((x.pi ?_).pi ?_).pl ?_).pi ?_).pi ?_
  all_goals exact hp _ _ (by omega)
theorem pl_note_fx (x : Fx (PCp s) h g) : Fx (PCp s) h (pl_note g s e c n nw) := by
  unfold pl_note
  refine ev_add_fx (x.pi ?_) (fun T i q => ?_)
  all_goals (unfold PCp; omega)
theorem pl_hold_fx (x : Fx (PCp s) h g) : Fx (PCp s) h (pl_hold g s n t) := by
  unfold pl_hold
  refine ((x.pl ?_).pi ?_).pi ?_
  all_goals (unfold PCp; omega)
theorem pl_forget_fx (x : Fx (PCp s) h g) : Fx (PCp s) h (pl_forget g s) := by
  unfold pl_forget
  refine (x.ri (fun i => ?_)).pi ?_
  all_goals (unfold PCp; omega)
theorem pl_begin_fx {st dl : Int32} (x : Fx (PCp s) h g) : Fx (PCp s) h (pl_begin g s e n st nw dl) := by
  unfold pl_begin
  refine pl_hold_fx (pl_note_fx ((((pl_forget_fx x).pl ?_).pl ?_).pi ?_))
  all_goals (unfold PCp; omega)
theorem pl_arrive_fx {st rt dl : Int32} (x : Fx (PCp s) h g) : Fx (PCp s) h (pl_arrive g s e n st rt nw dl) := by
  unfold pl_arrive
  split
  · exact pl_note_fx x
  · split
    · split
      · exact pl_hold_fx x
      · exact pl_note_fx x
    · split
      · exact pl_begin_fx x
      · exact pl_note_fx x
theorem pl_step_fx (x : Fx (PCp s) h g) : Fx (PCp s) h (pl_step g s e c nw) := by
  unfold pl_step
  refine (pl_note_fx ((x.pi ?_).pi ?_)).pl ?_
  all_goals (unfold PCp; omega)
theorem pl_steps_fx : ∀ (m : Nat) (g : sd_H) (e : Nat), Fx (PCp s) h g → Fx (PCp s) h (pl_steps s nw m g e)
  | 0, _, _, x => x
  | m + 1, g, e, x => pl_steps_fx m _ _ (pl_step_fx x)
theorem pl_play_fx : ∀ (m : Nat) (g : sd_H) (e : Nat) (d : Int32), Fx (PCp s) h g → Fx (PCp s) h (pl_play s nw m g e d).2.1
  | 0, _, _, _, x => x
  | m + 1, g, e, d, x => by
    unfold pl_play
    split
    · exact x
    · split
      · exact x
      · exact pl_play_fx m _ _ _ (pl_step_fx (pl_steps_fx _ _ _ x))
theorem pl_play_le : ∀ (m : Nat) (g : sd_H) (e : Nat) (d : Int32), e ≤ (pl_play s nw m g e d).2.2 ∧ (pl_play s nw m g e d).2.2 ≤ e + 33 * m
  | 0, _, _, _ => ⟨Nat.le_refl _, Nat.le_refl _⟩
  | m + 1, g, e, d => by
    unfold pl_play
    split
    · exact ⟨Nat.le_refl _, Nat.le_add_right _ _⟩
    · split
      · exact ⟨Nat.le_refl _, Nat.le_add_right _ _⟩
      · have hg := pl_gap_le (h := g) (s := s) (nw := nw) 32 (Nat.le_refl _)
        have := pl_play_le m (pl_turn g s e nw (pl_gap g s nw 32)) (e + pl_gap g s nw 32 + 1) (d + (nI (pl_gap g s nw 32) + 1))
        omega
end CFX
/-- bounds of the NUMBERS, after at most t calls -/
def NBd (f : Nat → Int32) (t : Nat) : Prop :=
  (0 ≤ (f 0).toInt ∧ (f 0).toInt < 65536) ∧ (0 ≤ (f 1).toInt ∧ (f 1).toInt ≤ 65536 * t) ∧ (0 ≤ (f 2).toInt ∧ (f 2).toInt < 65536) ∧ (0 ≤ (f 4).toInt ∧ (f 4).toInt ≤ 2) ∧ (0 ≤ (f 5).toInt ∧ (f 5).toInt ≤ t) ∧ (0 ≤ (f 6).toInt ∧ (f 6).toInt ≤ t) ∧ -65536 ≤ (f 7).toInt ∧ (f 7).toInt ≤ 65536 * (t + 1)
theorem NBd.mono {f : Nat → Int32} {t t' : Nat} (b : NBd f t) (h : t ≤ t') : NBd f t' := by
  unfold NBd at b ⊢; omega
/-- what of the class a SENDER rests on -/
def CA (hc hc' : sd_H) (s : Nat) : Prop := hc'.1 3 s = hc.1 3 s ∧ hc'.1 4 s = hc.1 4 s ∧ hc'.1 5 s = hc.1 5 s ∧ hc'.1 6 s = hc.1 6 s ∧ hc'.2.1 6 s = hc.2.1 6 s ∧ hc'.1 16 s = hc.1 16 s ∧ hc'.2.1 17 s = hc.2.1 17 s ∧ hc'.1 18 s = hc.1 18 s
def CP (hc hc' : sd_H) (s : Nat) : Prop := hc'.1 6 s = hc.1 6 s ∧ hc'.2.1 6 s = hc.2.1 6 s ∧ hc'.1 16 s = hc.1 16 s ∧ hc'.2.1 17 s = hc.2.1 17 s ∧ hc'.1 18 s = hc.1 18 s
def MP (hm hm' : sd_H) (s : Nat) : Prop := hm'.2.1 38 0 s = hm.2.1 38 0 s ∧ hm'.2.1 39 0 s = hm.2.1 39 0 s ∧ hm'.1 40 0 s = hm.1 40 0 s ∧ (∀ k, k < 32 → hm'.1 41 0 (32 * s + k) = hm.1 41 0 (32 * s + k) ∧ hm'.2.1 42 0 (32 * s + k) = hm.2.1 42 0 (32 * s + k)) ∧ ∀ c, c < 6 → hm'.1 43 0 (6 * s + c) = hm.1 43 0 (6 * s + c)
def MA (hm hm' : sd_H) (s : Nat) : Prop := (∀ T, 21 ≤ T → T ≤ 40 → hm'.1 T 0 s = hm.1 T 0 s ∧ hm'.2.1 T 0 s = hm.2.1 T 0 s) ∧ (∀ k, k < 32 → hm'.1 41 0 (32 * s + k) = hm.1 41 0 (32 * s + k) ∧ hm'.2.1 42 0 (32 * s + k) = hm.2.1 42 0 (32 * s + k)) ∧ ∀ c, c < 6 → hm'.1 43 0 (6 * s + c) = hm.1 43 0 (6 * s + c)
def RS (hc hm : sd_H) (s e t : Nat) (nw : Int32) : Prop :=
  hm.1 21 0 s = hc.1 3 s 0 ∧ MN hm s (hc.1 4 s) ∧ NBd (hc.1 4 s) t ∧ MJ hm s (hc.1 5 s) ∧ (hm.1 33 0 s = hc.1 3 s 4 ∧ (hc.1 3 s 4 = 0 ∨ hc.1 3 s 4 = 1)) ∧ (hm.1 34 0 s = hc.1 3 s 5 ∧ (hc.1 3 s 5 = 0 ∨ hc.1 3 s 5 = 1)) ∧ hm.1 35 0 s = hc.1 3 s 6 ∧ hm.1 36 0 s = hc.1 3 s 7 ∧
  PM hc hm s e 0 ∧ ND hm s nw ∧ hm.1 37 0 s = (if hc.1 4 s 4 = 0 then 1 else 0) ∧ (¬ hc.1 4 s 4 = 0 → hm.2.1 38 0 s = 0 ∧ ∀ k, k < 32 → hm.1 41 0 (32 * s + k) = 0)
theorem PM.cg {hc hm hc' hm' : sd_H} {s e e' j : Nat} (p : PM hc hm s e j) (a : CP hc hc' s) (m : MP hm hm' s) (he : e ≤ e') : PM hc' hm' s e' j := by
  obtain ⟨c6, c6L, c16, c17, c18⟩ := a
  obtain ⟨e38, e39, e40, m2, m3⟩ := m
  obtain ⟨a1, a2, a3, a4, a5, a6, a7, a8, a9, a10, a11⟩ := p
  refine ⟨?_, ?_, ?_, ?_, ?_, ?_, ?_, ?_, ?_, ?_, ?_⟩
  · rw [c6]; exact a1
  · rw [c6L, e38]; exact a2
  · intro k hk; rw [c18, e38, (m2 k hk).1]; exact a3 k hk
  · intro k hk hj; rw [c17, e38, (m2 k hk).1, (m2 k hk).2]; exact a4 k hk hj
  · intro k hk; rw [(m2 k hk).1]; exact a5 k hk
  · rw [c6, a6]
    by_cases hj : j ≤ 32
    · rw [wc_cg (w := fun k => hm'.1 41 0 (32 * s + k)) (w' := fun k => hm.1 41 0 (32 * s + k)) (32 - j) j j (fun k hk => (m2 _ (by omega)).1)]
    · rw [show 32 - j = 0 by omega]; rfl
  · intro c h1 h5; rw [c16, m3 c (by omega)]; exact a7 c h1 h5
  · rw [c6L, e39]; exact a8
  · rw [c6, e40]; exact a9
  · rw [e38]; exact a10
  · rw [e38]; omega
theorem RS.cg {hc hm hc' hm' : sd_H} {s e t e' t' : Nat} {nw : Int32} (r : RS hc hm s e t nw) (a : CA hc hc' s) (m : MA hm hm' s) (he : e ≤ e') (ht : t ≤ t') : RS hc' hm' s e' t' nw := by
  obtain ⟨r1, r2, r3, r4, r5, r6, r7, r8, r9, r10, r11, r12⟩ := r
  have p := r9.cg a.2.2.2 ⟨(m.1 38 (by decide) (by decide)).2, (m.1 39 (by decide) (by decide)).2, (m.1 40 (by decide) (by decide)).1, m.2⟩ he
  obtain ⟨c3, c4, c5, c6, c6L, c16, c17, c18⟩ := a
  obtain ⟨m1, m2, m3⟩ := m
  have mi : ∀ T, 21 ≤ T → T ≤ 40 → hm'.1 T 0 s = hm.1 T 0 s := fun T h1 h2 => (m1 T h1 h2).1
  refine ⟨?_, ?_, ?_, ?_, ?_, ?_, ?_, ?_, p, ?_, ?_, ?_⟩
  · rw [c3, mi 21 (by decide) (by decide)]; exact r1
  · intro i hi; rw [c4, mi _ (by omega) (by omega)]; exact r2 i hi
  · rw [c4]; exact r3.mono ht
  · obtain ⟨j1, j2, j3, j4⟩ := r4
    rw [c5]
    exact ⟨(mi 32 (by decide) (by decide)).trans j1, (mi 31 (by decide) (by decide)).trans j2, (mi 30 (by decide) (by decide)).trans j3, j4⟩
  · rw [c3, mi 33 (by decide) (by decide)]; exact r5
  · rw [c3, mi 34 (by decide) (by decide)]; exact r6
  · rw [c3, mi 35 (by decide) (by decide)]; exact r7
  · rw [c3, mi 36 (by decide) (by decide)]; exact r8
  · intro k hk; rw [(m2 k hk).1, (m2 k hk).2]; exact r10 k hk
  · rw [c4, mi 37 (by decide) (by decide)]; exact r11
  · rw [c4, (m1 38 (by decide) (by decide)).2]
    intro q
    exact ⟨(r12 q).1, fun k hk => by rw [(m2 k hk).1]; exact (r12 q).2 k hk⟩
/-- a place for a SENDER that has not come -/
def RZ (hm : sd_H) (s : Nat) : Prop := (∀ T, 30 ≤ T → T ≤ 40 → hm.1 T 0 s = 0 ∧ hm.2.1 T 0 s = 0) ∧ (∀ k, k < 32 → hm.1 41 0 (32 * s + k) = 0) ∧ ∀ c, c < 6 → hm.1 43 0 (6 * s + c) = 0
theorem RZ.cg {hm hm' : sd_H} {s : Nat} (z : RZ hm s) (m : MA hm hm' s) : RZ hm' s := by
  obtain ⟨z1, z2, z3⟩ := z
  obtain ⟨m1, m2, m3⟩ := m
  refine ⟨fun T h1 h2 => ?_, fun k hk => ?_, fun c hc => ?_⟩
  · rw [(m1 T (by omega) h2).1, (m1 T (by omega) h2).2]; exact z1 T h1 h2
  · rw [(m2 k hk).1]; exact z2 k hk
  · rw [m3 c hc]; exact z3 c hc
/-- all but senders and events -/
def RG (hc hm : sd_H) (nw sn : Nat) : Prop :=
  (∀ i, i < 128 → hm.1 20 0 i = hc.1 8 0 i ∧ 0 ≤ (hc.1 8 0 i).toInt ∧ (hc.1 8 0 i).toInt ≤ 200000) ∧ (hm.1 7 0 0 = nI nw ∧ hc.1 0 0 6 = nI nw ∧ nw ≤ 100000000) ∧ hm.1 7 0 1 = hc.1 0 0 7 ∧ hm.1 7 0 32 = hc.1 0 0 8 ∧ hm.1 7 0 33 = hc.1 0 0 9 ∧ hm.1 7 0 34 = hc.1 0 0 10 ∧ hm.1 7 0 39 = hc.1 0 0 11 ∧ hm.1 7 0 38 = hc.1 0 0 12 ∧ (∀ i, i < 7 → hm.1 45 0 i = hc.1 10 0 i) ∧ hm.1 7 0 8 = nI sn
def RR (hc hm : sd_H) (sz : Nat) (g : Nat → Nat) (nw sn e t : Nat) : Prop :=
  PK hc hm sz g ∧ RG hc hm nw sn ∧ SN hc sn ∧ SC hc sn ∧ EV hc hm e ∧ e ≤ 20000 * t ∧ (∀ s, s < sn → RS hc hm s e t (nI nw)) ∧ ∀ s, sn ≤ s → s < 6 → RZ hm s
theorem MA.fx {P : Nat → Nat → Nat → Prop} {hm hm' : sd_H} {s : Nat} (x : Fx P hm hm') (h1 : ∀ T, 21 ≤ T → T ≤ 40 → ¬ P T 0 s) (h2 : ∀ T i, (T = 41 ∨ T = 42) → 32 * s ≤ i → i < 32 * s + 32 → ¬ P T 0 i) (h3 : ∀ i, 6 * s ≤ i → i < 6 * s + 6 → ¬ P 43 0 i) : MA hm hm' s :=
  ⟨fun T a b => ⟨x.1 _ _ _ (h1 T a b), x.2.1 _ _ _ (h1 T a b)⟩, fun k hk => ⟨x.1 _ _ _ (h2 41 _ (Or.inl rfl) (by omega) (by omega)), x.2.1 _ _ _ (h2 42 _ (Or.inr rfl) (by omega) (by omega))⟩, fun c hc => x.1 _ _ _ (h3 _ (by omega) (by omega))⟩
theorem CA.fx {P : Nat → Nat → Nat → Prop} {hc hc' : sd_H} {s : Nat} (x : Fx P hc hc') (h1 : ∀ T i, (T = 3 ∨ T = 4 ∨ T = 5 ∨ T = 6 ∨ T = 16 ∨ T = 17 ∨ T = 18) → ¬ P T s i) : CA hc hc' s :=
  ⟨funext fun i => x.1 _ _ _ (h1 3 i (by omega)), funext fun i => x.1 _ _ _ (h1 4 i (by omega)), funext fun i => x.1 _ _ _ (h1 5 i (by omega)), funext fun i => x.1 _ _ _ (h1 6 i (by omega)), funext fun i => x.2.1 _ _ _ (h1 6 i (by omega)), funext fun i => x.1 _ _ _ (h1 16 i (by omega)), funext fun i => x.2.1 _ _ _ (h1 17 i (by omega)), funext fun i => x.1 _ _ _ (h1 18 i (by omega))⟩
theorem CP.fx {P : Nat → Nat → Nat → Prop} {hc hc' : sd_H} {s : Nat} (x : Fx P hc hc') (h1 : ∀ T i, (T = 6 ∨ T = 16 ∨ T = 17 ∨ T = 18) → ¬ P T s i) : CP hc hc' s :=
  ⟨funext fun i => x.1 _ _ _ (h1 6 i (by omega)), funext fun i => x.2.1 _ _ _ (h1 6 i (by omega)), funext fun i => x.1 _ _ _ (h1 16 i (by omega)), funext fun i => x.2.1 _ _ _ (h1 17 i (by omega)), funext fun i => x.1 _ _ _ (h1 18 i (by omega))⟩
theorem MP.fx {P : Nat → Nat → Nat → Prop} {hm hm' : sd_H} {s : Nat} (x : Fx P hm hm') (h1 : ∀ T, 38 ≤ T → T ≤ 40 → ¬ P T 0 s) (h2 : ∀ T i, (T = 41 ∨ T = 42) → 32 * s ≤ i → i < 32 * s + 32 → ¬ P T 0 i) (h3 : ∀ i, 6 * s ≤ i → i < 6 * s + 6 → ¬ P 43 0 i) : MP hm hm' s :=
  ⟨x.2.1 _ _ _ (h1 38 (by omega) (by omega)), x.2.1 _ _ _ (h1 39 (by omega) (by omega)), x.1 _ _ _ (h1 40 (by omega) (by omega)), fun k hk => ⟨x.1 _ _ _ (h2 41 _ (Or.inl rfl) (by omega) (by omega)), x.2.1 _ _ _ (h2 42 _ (Or.inr rfl) (by omega) (by omega))⟩, fun c hc => x.1 _ _ _ (h3 _ (by omega) (by omega))⟩
theorem CA.rf {hc : sd_H} {s : Nat} : CA hc hc s := ⟨rfl, rfl, rfl, rfl, rfl, rfl, rfl, rfl⟩
theorem MA.rf {hm : sd_H} {s : Nat} : MA hm hm s := ⟨fun _ _ _ => ⟨rfl, rfl⟩, fun _ _ => ⟨rfl, rfl⟩, fun _ _ => rfl⟩
/-- the class's part, the reference's part -/
def PMo (T _k _i : Nat) : Prop := T = 7 ∨ 19 ≤ T
def CO (h h' : sd_H) : Prop := ∀ T, T = 7 ∨ 19 ≤ T → h'.1 T = h.1 T ∧ h'.2.1 T = h.2.1 T
theorem RR.mo {hc hm hm' : sd_H} {sz nw sn e t : Nat} {g : Nat → Nat} (r : RR hc hm sz g nw sn e t) (x : CO hm hm') : RR hc hm' sz g nw sn e t := by
  obtain ⟨r1, r2, r3, r4, r5, r6, r7, r8⟩ := r
  have xi : ∀ T k i, T = 7 ∨ 19 ≤ T → hm'.1 T k i = hm.1 T k i := fun T k i q => by rw [(x T q).1]
  have xl : ∀ T k i, T = 7 ∨ 19 ≤ T → hm'.2.1 T k i = hm.2.1 T k i := fun T k i q => by rw [(x T q).2]
  have ma : ∀ s, MA hm hm' s := fun s => ⟨fun T a b => ⟨xi T 0 s (by omega), xl T 0 s (by omega)⟩, fun k _ => ⟨xi _ _ _ (by omega), xl _ _ _ (by omega)⟩, fun c _ => xi _ _ _ (by omega)⟩
  refine ⟨?_, ?_, r3, r4, ?_, r6, fun s hs => (r7 s hs).cg .rf (ma s) (Nat.le_refl _) (Nat.le_refl _), fun s h1 h2 => (r8 s h1 h2).cg (ma s)⟩
  · exact ⟨r1.1, by rw [xi 7 0 2 (by omega)]; exact r1.2.1, r1.2.2.1, fun i hi => by rw [xi 19 0 i (by omega)]; exact r1.2.2.2 i hi⟩
  · unfold RG at r2 ⊢
    rw [xi 7 0 0 (by omega), xi 7 0 1 (by omega), xi 7 0 32 (by omega), xi 7 0 33 (by omega), xi 7 0 34 (by omega), xi 7 0 39 (by omega), xi 7 0 38 (by omega), xi 7 0 8 (by omega)]
    obtain ⟨a1, a2, a3, a4, a5, a6, a7, a8, a9, a10⟩ := r2
    exact ⟨fun i hi => by rw [xi 20 0 i (by omega)]; exact a1 i hi, a2, a3, a4, a5, a6, a7, a8, fun i hi => by rw [xi 45 0 i (by omega)]; exact a9 i hi, a10⟩
  · exact r5.cg rfl (fun _ => rfl) (fun _ => rfl) (fun _ => rfl) (fun _ => rfl) (xi 7 0 35 (by omega)) (fun j => xl 44 0 j (by omega))
theorem RR.co {hc hc' hm : sd_H} {sz nw sn e t : Nat} {g : Nat → Nat} (r : RR hc hm sz g nw sn e t) (x : Fx PMo hc hc') : RR hc' hm sz g nw sn e t := by
  obtain ⟨r1, r2, r3, r4, r5, r6, r7, r8⟩ := r
  have xi : ∀ T k i, T < 7 ∨ (7 < T ∧ T < 19) → hc'.1 T k i = hc.1 T k i := fun T k i q => x.1 T k i (by unfold PMo; omega)
  have xl : ∀ T k i, T < 7 ∨ (7 < T ∧ T < 19) → hc'.2.1 T k i = hc.2.1 T k i := fun T k i q => x.2.1 T k i (by unfold PMo; omega)
  have ca : ∀ s, CA hc hc' s := fun s => CA.fx x (fun T i q => by unfold PMo; omega)
  refine ⟨?_, ?_, ?_, ?_, ?_, r6, fun s hs => (r7 s hs).cg (ca s) .rf (Nat.le_refl _) (Nat.le_refl _), r8⟩
  · exact ⟨by rw [xi 1 0 1 (by omega)]; exact r1.1, r1.2.1, r1.2.2.1, fun i hi => by rw [xi 11 0 i (by omega)]; exact r1.2.2.2 i hi⟩
  · unfold RG at r2 ⊢
    rw [xi 0 0 6 (by omega), xi 0 0 7 (by omega), xi 0 0 8 (by omega), xi 0 0 9 (by omega), xi 0 0 10 (by omega), xi 0 0 11 (by omega), xi 0 0 12 (by omega)]
    obtain ⟨a1, a2, a3, a4, a5, a6, a7, a8, a9, a10⟩ := r2
    exact ⟨fun i hi => by rw [xi 8 0 i (by omega)]; exact a1 i hi, a2, a3, a4, a5, a6, a7, a8, fun i hi => by rw [xi 10 0 i (by omega)]; exact a9 i hi, a10⟩
  · exact ⟨by rw [xi 0 0 5 (by omega)]; exact r3.1, r3.2.1, fun s hs => by rw [x.2.2]; exact r3.2.2 s hs⟩
  · unfold SC at r4 ⊢
    rw [x.2.2]; exact r4
  · exact r5.cg (xi 2 0 4 (by omega)) (fun j => xi 12 0 j (by omega)) (fun j => xi 13 0 j (by omega)) (fun j => xl 14 0 j (by omega)) (fun j => xi 15 0 j (by omega)) rfl (fun _ => rfl)
end
section
/-! bounds of the NUMBERS over a judgement -/
theorem i_addI {a b : Int32} (h1 : -2147483648 ≤ a.toInt + b.toInt) (h2 : a.toInt + b.toInt < 2147483648) : (a + b).toInt = a.toInt + b.toInt := by
  rw [Int32.toInt_add]; exact Int.bmod_eq_of_le (by omega) (by omega)
theorem i_subI {a b : Int32} (h1 : -2147483648 ≤ a.toInt - b.toInt) (h2 : a.toInt - b.toInt < 2147483648) : (a - b).toInt = a.toInt - b.toInt := by
  rw [Int32.toInt_sub]; exact Int.bmod_eq_of_le (by omega) (by omega)
theorem i_z {x : Int32} : x = 0 ↔ x.toInt = 0 := by
  constructor
  · intro q; rw [q]; rfl
  · intro q; exact Int32.toInt_inj.mp q
theorem i_le0 {x : Int32} : x ≤ 0 ↔ x.toInt ≤ 0 := by rw [Int32.le_iff_toInt_le]; rfl
theorem i_and16 (x : Int32) : 0 ≤ (x &&& 65535).toInt ∧ (x &&& 65535).toInt < 65536 := by
  obtain ⟨j, hj, e⟩ := pk_andE x (m := 65535) 16 (by decide)
  rw [e, nI_toInt (by omega)]
  omega
section NBS
variable {f : Nat → Int32} {t : Nat} {q : Int32}
theorem NBd.got (b : NBd f t) (ht : t ≤ 1000) : NBd (upd f 5 (f 5 + 1)) (t + 1) := by
  have e5 : (f 5 + 1).toInt = (f 5).toInt + 1 := i_addI (by unfold NBd at b; show _ ≤ _ + (1 : Int); omega) (by unfold NBd at b; show _ + (1 : Int) < _; omega)
  show (0 ≤ (f 0).toInt ∧ (f 0).toInt < 65536) ∧ (0 ≤ (f 1).toInt ∧ (f 1).toInt ≤ 65536 * (t + 1 : Nat)) ∧ (0 ≤ (f 2).toInt ∧ (f 2).toInt < 65536) ∧ (0 ≤ (f 4).toInt ∧ (f 4).toInt ≤ 2) ∧ (0 ≤ (f 5 + 1).toInt ∧ (f 5 + 1).toInt ≤ (t + 1 : Nat)) ∧ (0 ≤ (f 6).toInt ∧ (f 6).toInt ≤ (t + 1 : Nat)) ∧ -65536 ≤ (f 7).toInt ∧ (f 7).toInt ≤ 65536 * ((t + 1 : Nat) + 1)
  unfold NBd at b
  rw [e5]; omega
theorem NBd.set (hq : 0 ≤ q.toInt ∧ q.toInt < 65536) (h4 : 0 ≤ (f 4).toInt ∧ (f 4).toInt ≤ 2) : NBd (nb_set f q) t := by
  show (0 ≤ q.toInt ∧ q.toInt < 65536) ∧ (0 ≤ (0 : Int) ∧ (0 : Int) ≤ 65536 * t) ∧ (0 ≤ q.toInt ∧ q.toInt < 65536) ∧ (0 ≤ (f 4).toInt ∧ (f 4).toInt ≤ 2) ∧ (0 ≤ (0 : Int) ∧ (0 : Int) ≤ t) ∧ (0 ≤ (0 : Int) ∧ (0 : Int) ≤ t) ∧ -65536 ≤ (0 : Int) ∧ (0 : Int) ≤ 65536 * (t + 1)
  omega
theorem nb_new_b (hq : 0 ≤ q.toInt ∧ q.toInt < 65536) : NBd (nb_new (fun _ => 0) q) t := by
  have := i_and16 (q - 1)
  show (0 ≤ ((q - 1) &&& 65535).toInt ∧ ((q - 1) &&& 65535).toInt < 65536) ∧ (0 ≤ (0 : Int) ∧ (0 : Int) ≤ 65536 * t) ∧ (0 ≤ q.toInt ∧ q.toInt < 65536) ∧ (0 ≤ (2 : Int) ∧ (2 : Int) ≤ 2) ∧ (0 ≤ (0 : Int) ∧ (0 : Int) ≤ t) ∧ (0 ≤ (0 : Int) ∧ (0 : Int) ≤ t) ∧ -65536 ≤ (0 : Int) ∧ (0 : Int) ≤ 65536 * (t + 1)
  omega
theorem nb_j_f (b : NBd f t) (hq : 0 ≤ q.toInt ∧ q.toInt < 65536) (ht : t ≤ 1000) : NBd (nb_j f q).2 (t + 1) ∧ (((nb_j f q).1 = 0 ∧ ((nb_j f q).2 4 = 0 ↔ f 4 = 0)) ∨ ((nb_j f q).1 = 1 ∧ f 4 = 0 ∧ (nb_j f q).2 4 = 0) ∨ ((nb_j f q).1 = 2 ∧ (nb_j f q).2 4 = 0 ∧ (nb_j f q).2 0 = q ∧ (nb_j f q).2 1 = 0)) := by
  have b4 : 0 ≤ (f 4).toInt ∧ (f 4).toInt ≤ 2 := b.2.2.2.1
  have good : ∀ (v : Int32) (f1 : Nat → Int32), nb_j0 f q = (v, f1) → ¬ v = 0 → nb_j f q = (v, upd f1 5 (f1 5 + 1)) := fun v f1 e hv => by unfold nb_j; rw [e, if_neg hv]
  have bad : ∀ (f1 : Nat → Int32), nb_j0 f q = (0, f1) → nb_j f q = (0, f1) := fun f1 e => by unfold nb_j; rw [e]; rfl
  by_cases c1 : f 4 ≤ 0
  · have f40 : f 4 = 0 := i_z.mpr (by have := i_le0.mp c1; omega)
    have e0 : nb_j0 f q = nb_bel f q := by unfold nb_j0; rw [if_pos c1]
    unfold nb_bel at e0
    by_cases c2 : 3000 ≤ (q - f 0) &&& 65535
    · rw [if_pos c2] at e0
      by_cases c3 : (q - f 0) &&& 65535 ≤ 65436
      · rw [if_pos c3] at e0
        by_cases c4 : q = f 3
        · rw [if_pos c4] at e0
          rw [good _ _ e0 (by decide)]
          exact ⟨(NBd.set hq b4).got ht, Or.inr (Or.inr ⟨rfl, f40, rfl, rfl⟩)⟩
        · rw [if_neg c4] at e0
          rw [bad _ e0]
          refine ⟨?_, Or.inl ⟨rfl, Iff.rfl⟩⟩
          exact (show NBd (upd f 3 ((q + 1) &&& 65535)) t from b).mono (by omega)
      · rw [if_neg c3] at e0
        rw [good _ _ e0 (by decide)]
        exact ⟨b.got ht, Or.inr (Or.inl ⟨rfl, f40, f40⟩)⟩
    · rw [if_neg c2] at e0
      rw [good _ _ e0 (by decide)]
      refine ⟨?_, Or.inr (Or.inl ⟨rfl, f40, f40⟩)⟩
      have e5 : (f 5 + 1).toInt = (f 5).toInt + 1 := i_addI (by unfold NBd at b; show _ ≤ _ + (1 : Int); omega) (by unfold NBd at b; show _ + (1 : Int) < _; omega)
      have e1 : ∀ x : Int32, (x = 0 ∨ x = 65536) → (f 1 + x).toInt = (f 1).toInt + x.toInt ∧ 0 ≤ x.toInt ∧ x.toInt ≤ 65536 := by
        intro x hx
        have hb : 0 ≤ x.toInt ∧ x.toInt ≤ 65536 := by rcases hx with rfl | rfl <;> decide
        exact ⟨i_addI (by unfold NBd at b; omega) (by unfold NBd at b; omega), hb⟩
      have e2 := e1 (if f 0 ≤ q then 0 else 65536) (by by_cases z : f 0 ≤ q <;> simp [z])
      generalize (if f 0 ≤ q then (0 : Int32) else 65536) = x at e2 ⊢
      show (0 ≤ q.toInt ∧ q.toInt < 65536) ∧ (0 ≤ (f 1 + x).toInt ∧ (f 1 + x).toInt ≤ 65536 * (t + 1 : Nat)) ∧ (0 ≤ (f 2).toInt ∧ (f 2).toInt < 65536) ∧ (0 ≤ (f 4).toInt ∧ (f 4).toInt ≤ 2) ∧ (0 ≤ (f 5 + 1).toInt ∧ (f 5 + 1).toInt ≤ (t + 1 : Nat)) ∧ (0 ≤ (f 6).toInt ∧ (f 6).toInt ≤ (t + 1 : Nat)) ∧ -65536 ≤ (f 7).toInt ∧ (f 7).toInt ≤ 65536 * ((t + 1 : Nat) + 1)
      unfold NBd at b
      rw [e5, e2.1]; omega
  · have f4p : ¬ (f 4).toInt ≤ 0 := fun z => c1 (i_le0.mpr z)
    have f41 : ¬ f 4 = 0 := fun z => f4p (by rw [z]; decide)
    have e0 : nb_j0 f q = nb_pro f q := by unfold nb_j0; rw [if_neg c1]
    unfold nb_pro at e0
    have e4 : (f 4 - 1).toInt = (f 4).toInt - 1 := i_subI (by show _ ≤ _ - (1 : Int); omega) (by show _ - (1 : Int) < _; omega)
    by_cases c2 : q = (f 0 + 1) &&& 65535
    · rw [if_pos c2] at e0
      by_cases c3 : f 4 - 1 ≤ 0
      · rw [if_pos c3] at e0
        rw [good _ _ e0 (by decide)]
        have z4 : f 4 - 1 = 0 := i_z.mpr (by have := i_le0.mp c3; omega)
        refine ⟨(NBd.set hq (show 0 ≤ (f 4 - 1).toInt ∧ (f 4 - 1).toInt ≤ 2 by omega)).got ht, Or.inr (Or.inr ⟨rfl, z4, rfl, rfl⟩)⟩
      · rw [if_neg c3] at e0
        rw [bad _ e0]
        have z4 : ¬ f 4 - 1 = 0 := fun z => c3 (by rw [z]; decide)
        refine ⟨?_, Or.inl ⟨rfl, ⟨fun z => absurd z z4, fun z => absurd z f41⟩⟩⟩
        show (0 ≤ q.toInt ∧ q.toInt < 65536) ∧ (0 ≤ (f 1).toInt ∧ (f 1).toInt ≤ 65536 * (t + 1 : Nat)) ∧ (0 ≤ (f 2).toInt ∧ (f 2).toInt < 65536) ∧ (0 ≤ (f 4 - 1).toInt ∧ (f 4 - 1).toInt ≤ 2) ∧ (0 ≤ (f 5).toInt ∧ (f 5).toInt ≤ (t + 1 : Nat)) ∧ (0 ≤ (f 6).toInt ∧ (f 6).toInt ≤ (t + 1 : Nat)) ∧ -65536 ≤ (f 7).toInt ∧ (f 7).toInt ≤ 65536 * ((t + 1 : Nat) + 1)
        unfold NBd at b
        rw [e4]; omega
    · rw [if_neg c2] at e0
      rw [bad _ e0]
      refine ⟨?_, Or.inl ⟨rfl, ⟨fun z => absurd (show (1 : Int32) = 0 from z) (by decide), fun z => absurd z f41⟩⟩⟩
      show (0 ≤ q.toInt ∧ q.toInt < 65536) ∧ (0 ≤ (f 1).toInt ∧ (f 1).toInt ≤ 65536 * (t + 1 : Nat)) ∧ (0 ≤ (f 2).toInt ∧ (f 2).toInt < 65536) ∧ (0 ≤ (1 : Int) ∧ (1 : Int) ≤ 2) ∧ (0 ≤ (f 5).toInt ∧ (f 5).toInt ≤ (t + 1 : Nat)) ∧ (0 ≤ (f 6).toInt ∧ (f 6).toInt ≤ (t + 1 : Nat)) ∧ -65536 ≤ (f 7).toInt ∧ (f 7).toInt ≤ 65536 * ((t + 1 : Nat) + 1)
      unfold NBd at b
      omega
theorem nb_long_b : -1099511627776 ≤ (nb_long f q).toInt ∧ (nb_long f q).toInt ≤ 1099511627776 := by
  have a1 := Int32.le_toInt (f 1)
  have a2 := Int32.toInt_lt (f 1)
  have b1 := Int32.le_toInt q
  have b2 := Int32.toInt_lt q
  have e1 : ((f 1).toInt64 + q.toInt64).toInt = (f 1).toInt + q.toInt := by
    rw [Int64.toInt_add, Int32.toInt_toInt64, Int32.toInt_toInt64]
    exact Int.bmod_eq_of_le (by omega) (by omega)
  unfold nb_long
  split
  · rw [e1]; omega
  · rw [Int64.toInt_sub, e1, show (65536 : Int64).toInt = 65536 from rfl, Int.bmod_eq_of_le (by omega) (by omega)]
    omega
theorem nb_long_0 (h0 : f 0 = q) (h1 : f 1 = 0) (hq : 0 ≤ q.toInt) : 0 ≤ (nb_long f q).toInt := by
  unfold nb_long
  rw [h0, h1, if_pos (Int32.le_refl _), show (0 : Int32).toInt64 = 0 from rfl, Int64.zero_add, Int32.toInt_toInt64]
  exact hq
end NBS
end
section
/-! the reference: take -/
def PCt (s : Nat) (T k i : Nat) : Prop := ((T = 4 ∨ T = 5) ∧ k = s) ∨ PCp s T k i ∨ (T = 0 ∧ (i = 8 ∨ i = 9))
theorem PK.cg {hc hm hc' hm' : sd_H} {sz : Nat} {g : Nat → Nat} {P P' : Nat → Nat → Nat → Prop} (p : PK hc hm sz g) (x : Fx P hc hc') (z : Fx P' hm hm') (n1 : ¬ P 1 0 1) (n2 : ∀ i, ¬ P 11 0 i) (n3 : ¬ P' 7 0 2) (n4 : ∀ i, ¬ P' 19 0 i) : PK hc' hm' sz g :=
  ⟨by rw [x.1 _ _ _ n1]; exact p.1, by rw [z.1 _ _ _ n3]; exact p.2.1, p.2.2.1, fun i hi => by rw [x.1 _ _ _ (n2 i), z.1 _ _ _ (n4 i)]; exact p.2.2.2 i hi⟩
theorem SN.fx {P : Nat → Nat → Nat → Prop} {hc hc' : sd_H} {sn : Nat} (n : SN hc sn) (x : Fx P hc hc') (n1 : ¬ P 0 0 5) : SN hc' sn :=
  ⟨by rw [x.1 _ _ _ n1]; exact n.1, n.2.1, fun s hs => by rw [x.2.2]; exact n.2.2 s hs⟩
theorem SC.fx {P : Nat → Nat → Nat → Prop} {hc hc' : sd_H} {sn : Nat} (n : SC hc sn) (x : Fx P hc hc') : SC hc' sn := by
  unfold SC at n ⊢; rw [x.2.2]; exact n
theorem sn_r1_fx {h : sd_H} {s : Nat} {q st rt nw : Int32} : Fx (PCt s) h (sn_r1 h s q st rt nw) := by
  unfold sn_r1
  refine (Fx.rf.ri (fun i => ?_)).ri (fun i => ?_)
  all_goals (unfold PCt; omega)
theorem sn_rcv_fx {h : sd_H} {s e : Nat} {q st rt nw dl : Int32} : Fx (PCt s) h (sn_rcv h s e q st rt nw dl).2 := by
  unfold sn_rcv
  split
  · exact Fx.rf.ri (fun i => Or.inl ⟨Or.inl rfl, rfl⟩)
  · refine (sn_r1_fx (q := q) (st := st) (rt := rt) (nw := nw)).tr (Fx.mono (P := PCp s) ?_ (fun T k i q => Or.inr (Or.inl q)))
    refine pl_play_fx _ _ _ _ ?_
    unfold sn_r2
    split
    · exact pl_begin_fx .rf
    · exact pl_arrive_fx .rf
theorem dk_take_fx {h : sd_H} {s e : Nat} : Fx (PCt s) h (dk_take h s e).2 := by
  have x : Fx (PCt s) h (dk_rcv h s e).2 := sn_rcv_fx
  unfold dk_take
  split
  · exact x.pi (Or.inr (Or.inr ⟨rfl, by omega⟩))
  · exact x.pi (Or.inr (Or.inr ⟨rfl, by omega⟩))
section MT
variable {l : Launch} {Q : Option sd_V → sd_H → Prop}
theorem sq_take86 {h1 hm : sd_H} {sz nw sn e t s : Nat} {g : Nat → Nat} {q st rt fa nm : Int32} (R : RR h1 hm sz g nw sn e t) (hs : s < sn) (ht : t ≤ 1000) (hsz : 12 ≤ sz) (hq : q = pk_2 h1 2) (hst : st = pk_4 h1 4) (hrt : rt = dk_rt h1) (hr0 : 0 < rt)
    (k : ∀ hm' e', RR (dk_take h1 s e).2 hm' sz g nw sn e' (t + 1) → Fx PMo hm hm' → Q (some (v_i (dk_take h1 s e).1)) hm') : sd_Wq l none y_X9_take true Q 86 [some (v_r 7 0), some (v_i fa), some (v_i nm), some (v_i q), some (v_i st), some (v_i rt), some (v_i (nI s)), none, none] [] hm 0 0 := by
  have R' := R
  obtain ⟨r1, r2, r3, r4, r5, r6, r7, r8⟩ := R
  have s6 : s < 6 := by have := r3.2.1; omega
  obtain ⟨t1, t2, t3, t4, t5, t6, t7, t8, t9, t10, t11, t12⟩ := r7 s hs
  obtain ⟨a1, a2, a3, a4, a5, a6, a7, a8, a9, a10⟩ := r2
  have hnw : h1.1 0 0 6 = nI nw := a2.2.1
  have hb : e + 3000 < 2 ^ 30 := by omega
  have hqb : 0 ≤ q.toInt ∧ q.toInt < 65536 := by
    rw [hq, show (2 : Int32) = nI 2 from rfl]
    obtain ⟨b, b1, b2, -⟩ := r1.h0 (j := 2) (by omega)
    rw [b2, nI_toInt (by omega)]; omega
  obtain ⟨n1, n2⟩ := nb_j_f (f := h1.1 4 s) t3 hqb ht
  have T := dk_take_fx (h := h1) (s := s) (e := e)
  have others : ∀ hm', Fx (fun T k i => PN s T k i ∨ PJ s T k i ∨ PLm s T k i ∨ (T = 7 ∧ (i = 32 ∨ i = 33))) hm hm' → ∀ e', e ≤ e' → (∀ s', s' < sn → s' ≠ s → RS (dk_take h1 s e).2 hm' s' e' (t + 1) (nI nw)) ∧ (∀ s', sn ≤ s' → s' < 6 → RZ hm' s') := by
    intro hm' f e' he'
    have ma : ∀ s', s' ≠ s → s' < 6 → MA hm hm' s' := fun s' hne h6 => MA.fx f (fun T h1 h2 => by unfold PN PJ PLm PPm; omega) (fun T i h1 h2 h3 => by unfold PN PJ PLm PPm; omega) (fun i h1 h2 => by unfold PN PJ PLm PPm; omega)
    refine ⟨fun s' h1 h2 => (r7 s' h1).cg (CA.fx T (fun T i h => by unfold PCt PCp; omega)) (ma s' h2 (by have := r3.2.1; omega)) he' (by omega), fun s' h1 h2 => (r8 s' h1 h2).cg (ma s' (by omega) h2)⟩
  refine sd_go [] 80 (cd := cd_X9_take) (by decide) rfl ?_
  refine sm_believes s6 t2 (fun hm1 f1 m1 i1 => ?_)
  have hrcv : dk_rcv h1 s e = sn_rcv h1 s e q st rt (nI nw) (h1.1 0 0 7) := by unfold dk_rcv; rw [← hq, ← hst, ← hrt, hnw]
  refine ⟨fun c1 => ?_, fun c1 => ?_⟩
  rotate_left
  · -- not yet
    have v0 : (nb_j (h1.1 4 s) q).1 = 0 := by
      by_cases z : (nb_j (h1.1 4 s) q).1 = 0
      · exact z
      · rw [if_neg z] at c1; exact absurd c1 (by decide)
    have n2 : (nb_j (h1.1 4 s) q).2 4 = 0 ↔ h1.1 4 s 4 = 0 := by
      rcases n2 with z | z | z
      · exact z.2
      · rw [z.1] at v0; exact absurd v0 (by decide)
      · rw [z.1] at v0; exact absurd v0 (by decide)
    have hr : dk_rcv h1 s e = (0, sd_ri h1 4 s (nb_j (h1.1 4 s) q).2) := by rw [hrcv]; unfold sn_rcv; rw [if_pos v0]
    have hd : dk_take h1 s e = (0, sd_pi (sd_ri h1 4 s (nb_j (h1.1 4 s) q).2) 0 0 9 (h1.1 0 0 9 + 1)) := by unfold dk_take; rw [hr]; rfl
    have f2 : Fx (fun T k i => PN s T k i ∨ PJ s T k i ∨ PLm s T k i ∨ (T = 7 ∧ (i = 32 ∨ i = 33))) hm (sd_pi hm1 7 0 33 (hm1.1 7 0 33 + 1)) := (f1.mono (fun T k i q => Or.inl q)).pi (Or.inr (Or.inr (Or.inr ⟨rfl, Or.inr rfl⟩)))
    have fN : Fx (fun T k i => PN s T k i ∨ (T = 7 ∧ i = 33)) hm (sd_pi hm1 7 0 33 (hm1.1 7 0 33 + 1)) := (f1.mono (fun T k i q => Or.inl q)).pi (Or.inr ⟨rfl, rfl⟩)
    obtain ⟨o1, o2⟩ := others _ f2 e (Nat.le_refl _)
    have k := k (sd_pi hm1 7 0 33 (hm1.1 7 0 33 + 1)) e
    have fm : ∀ T i, ¬ (PN s T 0 i) → hm1.1 T 0 i = hm.1 T 0 i := fun T i h => f1.1 T 0 i h
    have e33 : hm1.1 7 0 33 = hm.1 7 0 33 := fm 7 33 (by unfold PN; omega)
    have fin : RR (dk_take h1 s e).2 (sd_pi hm1 7 0 33 (hm1.1 7 0 33 + 1)) sz g nw sn e (t + 1) := by
      refine ⟨r1.cg T f2 (by unfold PCt PCp; omega) (by unfold PCt PCp; omega) (by unfold PN PJ PLm PPm; omega) (by unfold PN PJ PLm PPm; omega), ?_, r3.fx T (by unfold PCt PCp; omega), r4.fx T, ?_, by omega, fun s' hs' => ?_, o2⟩
      · rw [hd]
        refine ⟨fun i hi => ?_, ⟨?_, a2.2.1, a2.2.2⟩, ?_, ?_, ?_, ?_, ?_, ?_, fun i hi => ?_, ?_⟩
        · rw [f2.1 20 0 i (by unfold PN PJ PLm PPm; omega)]; exact a1 i hi
        · exact (fm 7 0 (by unfold PN; omega)).trans a2.1
        · exact (fm 7 1 (by unfold PN; omega)).trans a3
        · exact (fm 7 32 (by unfold PN; omega)).trans a4
        · show hm1.1 7 0 33 + 1 = h1.1 0 0 9 + 1
          rw [e33, a5]
        · exact (fm 7 34 (by unfold PN; omega)).trans a6
        · exact (fm 7 39 (by unfold PN; omega)).trans a7
        · exact (fm 7 38 (by unfold PN; omega)).trans a8
        · exact (fm 45 i (by unfold PN; omega)).trans (a9 i hi)
        · exact (fm 7 8 (by unfold PN; omega)).trans a10
      · rw [hd]
        exact r5.cg rfl (fun _ => rfl) (fun _ => rfl) (fun _ => rfl) (fun _ => rfl) (fm 7 35 (by unfold PN; omega)) (fun i => f1.2.1 44 0 i (by unfold PN; omega))
      · by_cases hne : s' = s
        · subst hne
          rw [hd]
          have e4 : (sd_pi (sd_ri h1 4 s' (nb_j (h1.1 4 s') q).2) 0 0 9 (h1.1 0 0 9 + 1)).1 4 s' = (nb_j (h1.1 4 s') q).2 := by
            show (sd_ri h1 4 s' (nb_j (h1.1 4 s') q).2).1 4 s' = _
            exact sd_ri_at
          have hmT : ∀ T, ¬ (22 ≤ T ∧ T < 30) → T ≠ 7 → hm1.1 T 0 s' = hm.1 T 0 s' := fun T z z2 => fm T s' (by unfold PN; omega)
          refine ⟨(hmT 21 (by omega) (by omega)).trans t1, ?_, ?_, ?_, ⟨(hmT 33 (by omega) (by omega)).trans t5.1, t5.2⟩, ⟨(hmT 34 (by omega) (by omega)).trans t6.1, t6.2⟩, (hmT 35 (by omega) (by omega)).trans t7, (hmT 36 (by omega) (by omega)).trans t8, ?_, ?_, ?_, ?_⟩
          · rw [e4]; exact m1.o
          · rw [e4]; exact n1
          · exact ⟨(hmT 32 (by omega) (by omega)).trans t4.1, (hmT 31 (by omega) (by omega)).trans t4.2.1, (hmT 30 (by omega) (by omega)).trans t4.2.2.1, t4.2.2.2⟩
          · exact t9.cg ⟨rfl, rfl, rfl, rfl, rfl⟩ (MP.fx fN (fun T h1 h2 => by unfold PN; omega) (fun T i h1 h2 h3 => by unfold PN; omega) (fun i h1 h2 => by unfold PN; omega)) (Nat.le_refl _)
          · intro k hk
            show ¬ hm1.1 41 0 _ = 0 → _ < hm1.2.1 42 0 _
            rw [fm 41 _ (by unfold PN; omega), f1.2.1 42 0 _ (by unfold PN; omega)]
            exact t10 k hk
          · rw [e4]
            show hm1.1 37 0 s' = _
            rw [hmT 37 (by omega) (by omega), t11]
            by_cases z : h1.1 4 s' 4 = 0
            · rw [if_pos z, if_pos (n2.mpr z)]
            · rw [if_neg z, if_neg (fun y => z (n2.mp y))]
          · rw [e4]
            intro z
            have z := t12 (fun y => z (n2.mpr y))
            refine ⟨(f1.2.1 38 0 s' (by unfold PN; omega)).trans z.1, fun k hk => (fm 41 _ (by unfold PN; omega)).trans (z.2 k hk)⟩
        · exact o1 s' hs' hne
    have k := k fin (f2.mono (fun T k i q => by unfold PN PJ PLm PPm at q; unfold PMo; omega))
    rw [hd] at k
    exact k
  · have v1 : ¬ (nb_j (h1.1 4 s) q).1 = 0 := fun z => c1 (by rw [if_pos z])
    have hj : hm1.1 7 0 0 = nI nw := (f1.1 7 0 0 (by unfold PN; omega)).trans a2.1
    have fm1 : ∀ T, 30 ≤ T → hm1.1 T 0 s = hm.1 T 0 s := fun T h => f1.1 T 0 s (by unfold PN; omega)
    have mj : MJ (sd_pi hm1 7 0 32 (hm1.1 7 0 32 + 1)) s (h1.1 5 s) := ⟨(fm1 32 (by omega)).trans t4.1, (fm1 31 (by omega)).trans t4.2.1, (fm1 30 (by omega)).trans t4.2.2.1, t4.2.2.2⟩
    refine sm_jitters s6 (show (sd_pi hm1 7 0 32 (hm1.1 7 0 32 + 1)).1 7 0 0 = nI nw from hj) mj (fun hm2 f2 j2 => ?_)
    have e32 : hm2.1 7 0 32 = hm.1 7 0 32 + 1 := by
      rw [f2.1 7 0 32 (by unfold PJ; omega)]
      show hm1.1 7 0 32 + 1 = _
      rw [f1.1 7 0 32 (by unfold PN; omega)]
    have fM : Fx (fun T k i => PN s T k i ∨ PJ s T k i ∨ (T = 7 ∧ i = 32)) hm hm2 := ((f1.mono (P' := fun T k i => PN s T k i ∨ PJ s T k i ∨ (T = 7 ∧ i = 32)) (fun T k i q => Or.inl q)).pi (Or.inr (Or.inr ⟨rfl, rfl⟩))).tr (f2.mono (fun T k i q => Or.inr (Or.inl q)))
    have m2 : MN hm2 s (nb_j (h1.1 4 s) q).2 := fun i hi => by
      rw [f2.1 _ 0 s (by unfold PJ; omega), sd_pi_ne (by omega)]
      exact m1 i hi
    have y0 : hm2.1 22 0 s = (nb_j (h1.1 4 s) q).2 0 := m2 0 (by decide)
    have y1 : hm2.1 23 0 s = (nb_j (h1.1 4 s) q).2 1 := m2 1 (by decide)
    have P2 : PM (sn_r1 h1 s q st rt (nI nw)) hm2 s e 0 := t9.cg ⟨rfl, rfl, rfl, rfl, rfl⟩ (MP.fx fM (fun T h1 h2 => by unfold PN PJ; omega) (fun T i h1 h2 h3 => by unfold PN PJ; omega) (fun i h1 h2 => by unfold PN PJ; omega)) (Nat.le_refl _)
    have V2 : EV (sn_r1 h1 s q st rt (nI nw)) hm2 e := r5.cg rfl (fun _ => rfl) (fun _ => rfl) (fun _ => rfl) (fun _ => rfl) (fM.1 7 0 35 (by unfold PN PJ; omega)) (fun i => fM.2.1 44 0 i (by unfold PN PJ; omega))
    have ND2 : ND hm2 s (nI nw) := fun k hk => by
      rw [fM.1 41 0 _ (by unfold PN PJ; omega), fM.2.1 42 0 _ (by unfold PN PJ; omega)]
      exact t10 k hk
    have hn2 : hm2.1 7 0 0 = nI nw := (fM.1 7 0 0 (by unfold PN PJ; omega)).trans a2.1
    have hd2 : hm2.1 7 0 1 = h1.1 0 0 7 := (fM.1 7 0 1 (by unfold PN PJ; omega)).trans a3
    have hi2 : hm2.1 7 0 37 = hm1.1 7 0 37 := f2.1 7 0 37 (by unfold PJ; omega)
    have hg2 : hm2.1 37 0 s = hm.1 37 0 s := fM.1 37 0 s (by unfold PN PJ; omega)
    have q4 : (nb_j (h1.1 4 s) q).2 4 = 0 := by
      rcases n2 with z | z | z
      · exact absurd z.1 v1
      · exact z.2.2
      · exact z.2.1
    have fin : ∀ (X : sd_H) (eX : Nat) hm3, dk_rcv h1 s e = (1, X) → Fx (PCp s) (sn_r1 h1 s q st rt (nI nw)) X → PM X hm3 s eX 0 → EV X hm3 eX → Fx (PLm s) hm2 hm3 → ND hm3 s (nI nw) → hm3.1 37 0 s = 1 → e ≤ eX → eX ≤ e + 3000 → Q (some (v_i 1)) hm3 := by
      intro X eX hm3 hr xp p3 v3 f3 nd3 b3 le1 le2
      have hd : dk_take h1 s e = (1, sd_pi X 0 0 8 (X.1 0 0 8 + 1)) := by unfold dk_take; rw [hr]; rfl
      have FF : Fx (fun T k i => PN s T k i ∨ PJ s T k i ∨ PLm s T k i ∨ (T = 7 ∧ (i = 32 ∨ i = 33))) hm hm3 := (fM.mono (P' := fun T k i => PN s T k i ∨ PJ s T k i ∨ PLm s T k i ∨ (T = 7 ∧ (i = 32 ∨ i = 33))) (fun T k i q => by
        rcases q with z | z | z
        · exact Or.inl z
        · exact Or.inr (Or.inl z)
        · exact Or.inr (Or.inr (Or.inr ⟨z.1, Or.inl z.2⟩)))).tr (f3.mono (fun T k i q => Or.inr (Or.inr (Or.inl q))))
      obtain ⟨o1, o2⟩ := others _ FF eX le1
      have fm : ∀ T i, ¬ (PN s T 0 i ∨ PJ s T 0 i ∨ PLm s T 0 i ∨ (T = 7 ∧ (i = 32 ∨ i = 33))) → hm3.1 T 0 i = hm.1 T 0 i := fun T i h => FF.1 T 0 i h
      have xs : ∀ T k i, ¬ PCp s T k i → (sd_pi X 0 0 8 (X.1 0 0 8 + 1)).1 T k i = (sd_pi (sn_r1 h1 s q st rt (nI nw)) 0 0 8 (X.1 0 0 8 + 1)).1 T k i := by
        intro T k i hp
        by_cases z : T = 0 ∧ k = 0 ∧ i = 8
        · obtain ⟨rfl, rfl, rfl⟩ := z; rw [sd_pi_eq, sd_pi_eq]
        · rw [sd_pi_ne z, sd_pi_ne z]; exact xp.1 T k i hp
      have x8 : X.1 0 0 8 = h1.1 0 0 8 := xp.1 0 0 8 (by unfold PCp; omega)
      have RF : RR (dk_take h1 s e).2 hm3 sz g nw sn eX (t + 1) := by
        refine ⟨r1.cg T FF (by unfold PCt PCp; omega) (by unfold PCt PCp; omega) (by unfold PN PJ PLm PPm; omega) (by unfold PN PJ PLm PPm; omega), ?_, r3.fx T (by unfold PCt PCp; omega), r4.fx T, ?_, by omega, fun s' hs' => ?_, o2⟩
        · have T' : ∀ i, i ≠ 8 → i ≠ 9 → (dk_take h1 s e).2.1 0 0 i = h1.1 0 0 i := fun i z1 z2 => T.1 0 0 i (by unfold PCt PCp; omega)
          refine ⟨fun i hi => ?_, ⟨?_, ?_, a2.2.2⟩, ?_, ?_, ?_, ?_, ?_, ?_, fun i hi => ?_, ?_⟩
          · rw [fm 20 i (by unfold PN PJ PLm PPm; omega), T.1 8 0 i (by unfold PCt PCp; omega)]; exact a1 i hi
          · exact (fm 7 0 (by unfold PN PJ PLm PPm; omega)).trans a2.1
          · rw [T' 6 (by decide) (by decide)]; exact a2.2.1
          · rw [T' 7 (by decide) (by decide)]; exact (fm 7 1 (by unfold PN PJ PLm PPm; omega)).trans a3
          · rw [hd, f3.1 7 0 32 (by unfold PLm PPm; omega), e32]
            show _ = X.1 0 0 8 + 1
            rw [x8, a4]
          · rw [hd]
            show hm3.1 7 0 33 = X.1 0 0 9
            rw [xp.1 0 0 9 (by unfold PCp; omega), f3.1 7 0 33 (by unfold PLm PPm; omega), fM.1 7 0 33 (by unfold PN PJ; omega)]
            exact a5
          · rw [T' 10 (by decide) (by decide)]; exact (fm 7 34 (by unfold PN PJ PLm PPm; omega)).trans a6
          · rw [T' 11 (by decide) (by decide)]; exact (fm 7 39 (by unfold PN PJ PLm PPm; omega)).trans a7
          · rw [T' 12 (by decide) (by decide)]; exact (fm 7 38 (by unfold PN PJ PLm PPm; omega)).trans a8
          · rw [T.1 10 0 i (by unfold PCt PCp; omega)]; exact (fm 45 i (by unfold PN PJ PLm PPm; omega)).trans (a9 i hi)
          · exact (fm 7 8 (by unfold PN PJ PLm PPm; omega)).trans a10
        · rw [hd]
          exact v3.cg rfl (fun _ => rfl) (fun _ => rfl) (fun _ => rfl) (fun _ => rfl) rfl (fun _ => rfl)
        · by_cases hne : s' = s
          · subst hne
            have e4 : (dk_take h1 s' e).2.1 4 s' = (nb_j (h1.1 4 s') q).2 := by
              rw [hd]
              funext i
              rw [xs 4 s' i (by unfold PCp; omega)]
              show (sd_ri h1 4 s' (nb_j (h1.1 4 s') q).2).1 4 s' i = _
              rw [sd_ri_at]
            have e5 : (dk_take h1 s' e).2.1 5 s' = jt_f (h1.1 5 s') (((nI nw).toInt64 * rt.toInt64 / 1000).toInt32 - st) := by
              rw [hd]
              funext i
              rw [xs 5 s' i (by unfold PCp; omega)]
              show (sd_ri (sd_ri h1 4 s' (nb_j (h1.1 4 s') q).2) 5 s' (jt_f (h1.1 5 s') (((nI nw).toInt64 * rt.toInt64 / 1000).toInt32 - st))).1 5 s' i = _
              rw [sd_ri_at]
            have e3 : ∀ i, (dk_take h1 s' e).2.1 3 s' i = h1.1 3 s' i := fun i => T.1 3 s' i (by unfold PCt PCp; omega)
            have fs : ∀ T, 21 ≤ T → T ≤ 36 → ¬ (22 ≤ T ∧ T < 33) → hm3.1 T 0 s' = hm.1 T 0 s' := fun T z1 z2 z3 => fm T s' (by unfold PN PJ PLm PPm; omega)
            refine ⟨?_, ?_, ?_, ?_, ?_, ?_, ?_, ?_, ?_, nd3, ?_, ?_⟩
            · rw [e3, fs 21 (by omega) (by omega) (by omega)]; exact t1
            · rw [e4]
              intro i hi
              rw [f3.1 _ 0 s' (by unfold PLm PPm; omega)]
              exact m2 i hi
            · rw [e4]; exact n1
            · rw [e5]
              exact ⟨(f3.1 32 0 s' (by unfold PLm PPm; omega)).trans j2.1, (f3.1 31 0 s' (by unfold PLm PPm; omega)).trans j2.2.1, (f3.1 30 0 s' (by unfold PLm PPm; omega)).trans j2.2.2.1, j2.2.2.2⟩
            · rw [e3, fs 33 (by omega) (by omega) (by omega)]; exact t5
            · rw [e3, fs 34 (by omega) (by omega) (by omega)]; exact t6
            · rw [e3, fs 35 (by omega) (by omega) (by omega)]; exact t7
            · rw [e3, fs 36 (by omega) (by omega) (by omega)]; exact t8
            · rw [hd]; exact p3
            · rw [e4, if_pos q4]; exact b3
            · rw [e4]; intro z; exact absurd q4 z
          · exact o1 s' hs' hne
      have k := k hm3 eX RF (FF.mono (fun T k i q => by unfold PN PJ PLm PPm at q; unfold PMo; omega))
      rw [hd] at k
      exact k
    have finish : ∀ (Q' : Option sd_V → sd_H → Prop), (∀ hm', Q (some (v_i 1)) hm' → Q' none hm') → sd_E1 l y_X9_lays [v_r 7 0, v_i (nI s), v_l (nb_long (nb_j (h1.1 4 s) q).2 q), v_i st, v_i rt] hm2 Q' := by
      intro Q' hQ
      have nb := nb_long_b (f := (nb_j (h1.1 4 s) q).2) (q := q)
      by_cases v2 : (nb_j (h1.1 4 s) q).1 = 2
      · have e2 : sn_r2 h1 s e q st rt (nI nw) (h1.1 0 0 7) = pl_begin (sn_r1 h1 s q st rt (nI nw)) s e (nb_long (nb_j (h1.1 4 s) q).2 q) st (nI nw) (h1.1 0 0 7) := by unfold sn_r2; rw [if_pos v2]
        refine sm_lays_b (hc := sn_r1 h1 s q st rt (nI nw)) (nw := nI nw) (dl := h1.1 0 0 7) s6 ?_ P2 V2 hn2 hd2 hb (by
          rcases n2 with z | z | z
          · exact absurd z.1 v1
          · exact absurd (z.1.symm.trans v2) (by decide)
          · exact nb_long_0 z.2.2.1 z.2.2.2 hqb.1) nb.2 (fun hm3 p3 v3 f3 nd3 b3 => hQ hm3 ?_)
        · rw [hg2, hi2, i1, t11]
          by_cases z : h1.1 4 s 4 ≤ 0
          · right; rw [if_pos ⟨z, v2⟩]; decide
          · left; rw [if_neg (fun y => z (by rw [y]; decide))]
        · refine fin _ _ hm3 ?_ (pl_play_fx _ _ _ _ (pl_begin_fx .rf)) p3 v3 f3 nd3 b3 ?_ ?_
          · rw [hrcv]; unfold sn_rcv; rw [if_neg v1, e2]
          · have ee : evn (pl_begin (sn_r1 h1 s q st rt (nI nw)) s e (nb_long (nb_j (h1.1 4 s) q).2 q) st (nI nw) (h1.1 0 0 7)) = e + 1 := evn_of pl_begin_e (by omega)
            rw [ee]
            have := (pl_play_le (s := s) (nw := nI nw) 32 (pl_begin (sn_r1 h1 s q st rt (nI nw)) s e (nb_long (nb_j (h1.1 4 s) q).2 q) st (nI nw) (h1.1 0 0 7)) (e + 1) 0).1
            omega
          · have ee : evn (pl_begin (sn_r1 h1 s q st rt (nI nw)) s e (nb_long (nb_j (h1.1 4 s) q).2 q) st (nI nw) (h1.1 0 0 7)) = e + 1 := evn_of pl_begin_e (by omega)
            rw [ee]
            have := (pl_play_le (s := s) (nw := nI nw) 32 (pl_begin (sn_r1 h1 s q st rt (nI nw)) s e (nb_long (nb_j (h1.1 4 s) q).2 q) st (nI nw) (h1.1 0 0 7)) (e + 1) 0).2
            omega
      · have e2 : sn_r2 h1 s e q st rt (nI nw) (h1.1 0 0 7) = pl_arrive (sn_r1 h1 s q st rt (nI nw)) s e (nb_long (nb_j (h1.1 4 s) q).2 q) st rt (nI nw) (h1.1 0 0 7) := by unfold sn_r2; rw [if_neg v2]
        have f40 : h1.1 4 s 4 = 0 := by
          rcases n2 with z | z | z
          · exact absurd z.1 v1
          · exact z.2.1
          · exact absurd z.1 v2
        refine sm_lays_a (hc := sn_r1 h1 s q st rt (nI nw)) (nw := nI nw) (dl := h1.1 0 0 7) s6 ?_ ?_ ND2 hr0 P2 V2 hn2 hd2 hb nb.1 nb.2 (fun hm3 p3 v3 f3 nd3 b3 => hQ hm3 ?_)
        · rw [hg2, t11, if_pos f40]
        · rw [hi2, i1, if_neg (fun z => v2 z.2)]
        · have h4 := pl_arrive_e (h := sn_r1 h1 s q st rt (nI nw)) (s := s) (n := nb_long (nb_j (h1.1 4 s) q).2 q) (st := st) (rt := rt) (nw := nI nw) (dl := h1.1 0 0 7) V2.1
          have ee : ∃ e2, (e2 = e ∨ e2 = e + 1) ∧ evn (pl_arrive (sn_r1 h1 s q st rt (nI nw)) s e (nb_long (nb_j (h1.1 4 s) q).2 q) st rt (nI nw) (h1.1 0 0 7)) = e2 := by
            rcases h4 with h4 | h4
            · exact ⟨e, Or.inl rfl, evn_of h4 (by omega)⟩
            · exact ⟨e + 1, Or.inr rfl, evn_of h4 (by omega)⟩
          obtain ⟨e2', hE, ee⟩ := ee
          have le := pl_play_le (s := s) (nw := nI nw) 32 (pl_arrive (sn_r1 h1 s q st rt (nI nw)) s e (nb_long (nb_j (h1.1 4 s) q).2 q) st rt (nI nw) (h1.1 0 0 7)) e2' 0
          refine fin _ _ hm3 ?_ (pl_play_fx _ _ _ _ (pl_arrive_fx .rf)) p3 v3 f3 nd3 b3 ?_ ?_
          · rw [hrcv]; unfold sn_rcv; rw [if_neg v1, e2]
          · rw [ee]; omega
          · rw [ee]; omega
    refine ⟨s, ⟨s6, rfl⟩, s, ⟨s6, rfl⟩, ?_⟩
    refine ⟨fun (c2 : q ≤ hm2.1 22 0 s) => ?_, fun (c2 : ¬ q ≤ hm2.1 22 0 s) => ?_⟩
    · have en : (hm2.1 23 0 s).toInt64 + q.toInt64 - 0 = nb_long (nb_j (h1.1 4 s) q).2 q := by
        rw [y0] at c2
        unfold nb_long
        rw [if_pos c2, y1]; exact Int64.sub_zero _
      show sd_E1 l y_X9_lays [v_r 7 0, v_i (nI s), v_l ((hm2.1 23 0 s).toInt64 + q.toInt64 - 0), v_i st, v_i rt] hm2 _
      rw [en]
      exact finish _ (fun hm' z => z)
    · have en : (hm2.1 23 0 s).toInt64 + q.toInt64 - 65536 = nb_long (nb_j (h1.1 4 s) q).2 q := by
        rw [y0] at c2
        unfold nb_long
        rw [if_neg c2, y1]
      show sd_E1 l y_X9_lays [v_r 7 0, v_i (nI s), v_l ((hm2.1 23 0 s).toInt64 + q.toInt64 - 65536), v_i st, v_i rt] hm2 _
      rw [en]
      exact finish _ (fun hm' z => z)
end MT
end
section
/-! a SENDER comes; the reference's take as a whole -/
section NW
variable {h : sd_H} {sn : Nat} {b q : Int32}
theorem dk_new_i {k : Nat} (hC : SC h sn) (hk : k ≠ sn) : CA h (dk_new h sn b q) k := by
  obtain ⟨s3, s4, s5, s6, s16, s17, s18, -⟩ := hC
  unfold CA
  refine ⟨?_, ?_, ?_, ?_, ?_, ?_, ?_, ?_⟩ <;> simp [dk_new, sn_new, pl_new, sd_pi, sd_pr, sd_nw, sd_ri, s3, s4, s5, s6, s16, s17, s18, hk]
theorem dk_new_n (hC : SC h sn) : (∀ i, (dk_new h sn b q).1 3 sn i = if i = 0 then b else 0) ∧ (dk_new h sn b q).1 4 sn = nb_new (fun _ => 0) q ∧ (∀ i, (dk_new h sn b q).1 5 sn i = 0) ∧ (∀ i, (dk_new h sn b q).1 6 sn i = if i = 1 then nI sn else 0) ∧ (∀ i, (dk_new h sn b q).2.1 6 sn i = 0) ∧ (∀ i, (dk_new h sn b q).1 16 sn i = 0) ∧ (∀ i, (dk_new h sn b q).1 18 sn i = 0) := by
  obtain ⟨s3, s4, s5, s6, s16, s17, s18, -⟩ := hC
  refine ⟨?_, ?_, ?_, ?_, ?_, ?_, ?_⟩
  · intro i; simp [dk_new, sn_new, pl_new, sd_pi, sd_pr, sd_nw, sd_ri, s3]
  · simp [dk_new, sn_new, pl_new, sd_pi, sd_pr, sd_nw, sd_ri, s4]
  · intro i; simp [dk_new, sn_new, pl_new, sd_pi, sd_pr, sd_nw, sd_ri, s5]
  · intro i; simp [dk_new, sn_new, pl_new, sd_pi, sd_pr, sd_nw, sd_ri, s6]
  · intro i; simp [dk_new, sn_new, pl_new, sd_pi, sd_pr, sd_nw, sd_ri, s6]
  · intro i; simp [dk_new, sn_new, pl_new, sd_pi, sd_pr, sd_nw, sd_ri, s16]
  · intro i; simp [dk_new, sn_new, pl_new, sd_pi, sd_pr, sd_nw, sd_ri, s18]
theorem dk_new_0 {i : Nat} (hi : i ≠ 5) : (dk_new h sn b q).1 0 0 i = h.1 0 0 i := by
  simp [dk_new, sn_new, pl_new, sd_pi, sd_pr, sd_nw, sd_ri, hi]
theorem dk_new_sn (hN : SN h sn) (hC : SC h sn) (h6 : sn < 6) : SN (dk_new h sn b q) (sn + 1) := by
  refine ⟨rfl, by omega, fun s hs => ?_⟩
  show (sd_pr (sn_new (sd_nw (pl_new (sd_nw h 6) (h.2.2.2 6) (nI sn)) 3) (h.2.2.2 3) b q (h.2.2.2 6)) 9 0 sn (some (h.2.2.2 3))).2.2.1 9 0 s = some s
  by_cases z : s = sn
  · rw [z, sd_pr_eq, hC.1]
  · rw [sd_pr_ne (fun y => z y.2.2)]
    exact hN.2.2 s (by omega)
theorem RR.new {hm hm' : sd_H} {sz nw e t : Nat} {g : Nat → Nat} (R : RR h hm sz g nw sn e t) (h6 : sn < 6) (hq : 0 ≤ q.toInt ∧ q.toInt < 65536) (f : Fx (PC0 sn) hm hm') (e21 : hm'.1 21 0 sn = b) (mn : MN hm' sn (nb_new (fun _ => 0) q)) (e8 : hm'.1 7 0 8 = nI (sn + 1)) : RR (dk_new h sn b q) hm' sz g nw (sn + 1) e t := by
  obtain ⟨r1, r2, r3, r4, r5, r6, r7, r8⟩ := R
  obtain ⟨a1, a2, a3, a4, a5, a6, a7, a8, a9, a10⟩ := r2
  have f7 : ∀ i, i ≠ 8 → hm'.1 7 0 i = hm.1 7 0 i := fun i hi => f.1 7 0 i (by unfold PC0; omega)
  have ma : ∀ s, s ≠ sn → MA hm hm' s := fun s hs => MA.fx f (fun T h1 h2 => by unfold PC0; omega) (fun T i h1 h2 h3 => by unfold PC0; omega) (fun i h1 h2 => by unfold PC0; omega)
  refine ⟨⟨r1.1, (f7 2 (by decide)).trans r1.2.1, r1.2.2.1, fun i hi => ?_⟩, ?_, dk_new_sn r3 r4 h6, dk_new_c r4, ?_, r6, fun s hs => ?_, fun s h1 h2 => (r8 s (by omega) h2).cg (ma s (by omega))⟩
  · rw [f.1 19 0 i (by unfold PC0; omega)]; exact r1.2.2.2 i hi
  · refine ⟨fun i hi => ?_, ⟨(f7 0 (by decide)).trans a2.1, ?_, a2.2.2⟩, ?_, ?_, ?_, ?_, ?_, ?_, fun i hi => ?_, e8⟩
    · rw [f.1 20 0 i (by unfold PC0; omega)]; exact a1 i hi
    · rw [dk_new_0 (by decide)]; exact a2.2.1
    · rw [dk_new_0 (by decide)]; exact (f7 1 (by decide)).trans a3
    · rw [dk_new_0 (by decide)]; exact (f7 32 (by decide)).trans a4
    · rw [dk_new_0 (by decide)]; exact (f7 33 (by decide)).trans a5
    · rw [dk_new_0 (by decide)]; exact (f7 34 (by decide)).trans a6
    · rw [dk_new_0 (by decide)]; exact (f7 39 (by decide)).trans a7
    · rw [dk_new_0 (by decide)]; exact (f7 38 (by decide)).trans a8
    · exact (f.1 45 0 i (by unfold PC0; omega)).trans (a9 i hi)
  · exact r5.cg rfl (fun _ => rfl) (fun _ => rfl) (fun _ => rfl) (fun _ => rfl) (f7 35 (by decide)) (fun j => f.2.1 44 0 j (by unfold PC0; omega))
  · by_cases z : s = sn
    · subst z
      obtain ⟨d3, d4, d5, d6, d6L, d16, d18⟩ := dk_new_n (b := b) (q := q) r4
      obtain ⟨z1, z2, z3⟩ := r8 s (Nat.le_refl _) h6
      have zi : ∀ T, 30 ≤ T → T ≤ 40 → hm'.1 T 0 s = 0 := fun T y1 y2 => (f.1 T 0 s (by unfold PC0; omega)).trans (z1 T y1 y2).1
      have zl : ∀ T, 30 ≤ T → T ≤ 40 → hm'.2.1 T 0 s = 0 := fun T y1 y2 => (f.2.1 T 0 s (by unfold PC0; omega)).trans (z1 T y1 y2).2
      have zw : ∀ k, k < 32 → hm'.1 41 0 (32 * s + k) = 0 := fun k hk => (f.1 41 0 _ (by unfold PC0; omega)).trans (z2 k hk)
      refine ⟨?_, ?_, ?_, ?_, ?_, ?_, ?_, ?_, ⟨?_, ?_, ?_, ?_, ?_, ?_, ?_, ?_, ?_, ?_, ?_⟩, ?_, ?_, ?_⟩
      · rw [e21, d3]; rfl
      · rw [d4]; exact mn
      · rw [d4]; exact nb_new_b hq
      · exact ⟨by rw [d5, zi 32 (by decide) (by decide)], by rw [d5, zi 31 (by decide) (by decide)], by rw [d5, zi 30 (by decide) (by decide)], Or.inl (d5 2)⟩
      · exact ⟨by rw [d3, zi 33 (by decide) (by decide)]; rfl, Or.inl (by rw [d3]; rfl)⟩
      · exact ⟨by rw [d3, zi 34 (by decide) (by decide)]; rfl, Or.inl (by rw [d3]; rfl)⟩
      · rw [d3, zi 35 (by decide) (by decide)]; rfl
      · rw [d3, zi 36 (by decide) (by decide)]; rfl
      · rw [d6]; rfl
      · rw [d6L, zl 38 (by decide) (by decide)]; rfl
      · intro k hk; rw [d18, if_neg (by omega), zw k hk]
      · intro k hk _ hw; exact absurd (zw k hk) hw
      · intro k hk; exact Or.inl (zw k hk)
      · rw [d6, wc_z _ _ (fun k hk => by rw [Nat.zero_add]; exact zw k (by omega))]; rfl
      · intro c c1 c5; rw [d16, f.1 43 0 _ (by unfold PC0; omega)]; exact z3 c (by omega)
      · rw [d6L, zl 39 (by decide) (by decide)]
      · rw [d6, zi 40 (by decide) (by decide)]; rfl
      · rw [zl 38 (by decide) (by decide)]; decide
      · rw [zl 38 (by decide) (by decide), show ((0 : Int64).toInt) = 0 from rfl]; omega
      · intro k hk hw; exact absurd (zw k hk) hw
      · rw [d4, zi 37 (by decide) (by decide), if_neg (show ¬ nb_new (fun _ => 0) q 4 = 0 from (show ¬ (2 : Int32) = 0 by decide))]
      · intro _; exact ⟨zl 38 (by decide) (by decide), zw⟩
    · exact (r7 s (by omega)).cg (dk_new_i r4 z) (ma s z) (Nat.le_refl _) (Nat.le_refl _)
end NW
section MTK
variable {l : Launch} {Q : Option sd_V → sd_H → Prop}
theorem sm_take {hc hm : sd_H} {sz nw sn e t : Nat} {g : Nat → Nat} (R : RR hc hm sz g nw sn e t) (ht : t ≤ 1000) (kf : ¬ dk_fault hc sn = 0 → ∀ hm', RR (sd_pi hc 0 0 10 (hc.1 0 0 10 + 1)) hm' sz g nw sn e (t + 1) → Fx PMo hm hm' → Q (some (v_i (-10 - dk_fault hc sn))) hm')
    (ky : dk_fault hc sn = 0 → ∀ (h1 : sd_H) (s sn' : Nat), ((dk_find hc (pk_4 hc 8) 0 sn = some s ∧ h1 = hc) ∨ (dk_find hc (pk_4 hc 8) 0 sn = none ∧ sn < 6 ∧ s = sn ∧ h1 = dk_new hc sn (pk_4 hc 8) (pk_2 hc 2))) → ∀ hm' e', RR (dk_take h1 s e).2 hm' sz g nw sn' e' (t + 1) → Fx PMo hm hm' → Q (some (v_i (dk_take h1 s e).1)) hm') : sd_E1 l y_X9_take [v_r 7 0] hm Q := by
  have R' := R
  obtain ⟨r1, r2, r3, r4, r5, r6, r7, r8⟩ := R
  obtain ⟨a1, a2, a3, a4, a5, a6, a7, a8, a9, a10⟩ := r2
  refine sd_e1 [86] 80 (cd := cd_X9_take) (by decide) rfl (Nat.le_of_ble_eq_true rfl) ?_
  refine sm_faultOf r1 a10 r3.2.1 (fun s hs => (r7 s hs).1) (fun i hi => (a1 i hi).1) (fun hm0 f0 v0 => ?_)
  have F0 : Fx PMo hm hm0 := f0.mono (fun T k i q => Or.inl q.1)
  have R0 : RR hc hm0 sz g nw sn e t := by
    have ma : ∀ s, MA hm hm0 s := fun s => MA.fx f0 (fun T h1 h2 => by omega) (fun T i h1 h2 h3 => by omega) (fun i h1 h2 => by omega)
    have f7 : ∀ i, ¬ (5 ≤ i ∧ i ≤ 7) → hm0.1 7 0 i = hm.1 7 0 i := fun i hi => f0.1 7 0 i (by omega)
    refine ⟨r1.fx f0 (by omega) (by omega), ⟨fun i hi => ?_, ⟨(f7 0 (by decide)).trans a2.1, a2.2⟩, (f7 1 (by decide)).trans a3, (f7 32 (by decide)).trans a4, (f7 33 (by decide)).trans a5, (f7 34 (by decide)).trans a6, (f7 39 (by decide)).trans a7, (f7 38 (by decide)).trans a8, fun i hi => ?_, (f7 8 (by decide)).trans a10⟩, r3, r4, r5.cg rfl (fun _ => rfl) (fun _ => rfl) (fun _ => rfl) (fun _ => rfl) (f7 35 (by decide)) (fun j => f0.2.1 44 0 j (by omega)), r6, fun s hs => (r7 s hs).cg .rf (ma s) (Nat.le_refl _) (Nat.le_refl _), fun s h1 h2 => (r8 s h1 h2).cg (ma s)⟩
    · rw [f0.1 20 0 i (by omega)]; exact a1 i hi
    · rw [f0.1 45 0 i (by omega)]; exact a9 i hi
  clear r1 r3 r4 r5 r6 r7 r8 a1 a2 a3 a4 a5 a6 a7 a8 a9 a10
  have R0' := R0
  obtain ⟨r1, r2, r3, r4, r5, r6, r7, r8⟩ := R0
  obtain ⟨a1, a2, a3, a4, a5, a6, a7, a8, a9, a10⟩ := r2
  refine ⟨fun (c1 : dk_fault hc sn ≤ 0) => ?_, fun (c1 : ¬ dk_fault hc sn ≤ 0) => ?_⟩
  rotate_left
  · have f2 : Fx (fun T _ i => T = 7 ∧ i = 34) hm0 (sd_pi hm0 7 0 34 (hm0.1 7 0 34 + 1)) := Fx.rf.pi ⟨rfl, rfl⟩
    have x2 : Fx (fun T _ i => T = 0 ∧ i = 10) hc (sd_pi hc 0 0 10 (hc.1 0 0 10 + 1)) := Fx.rf.pi ⟨rfl, rfl⟩
    have ma : ∀ s, MA hm0 (sd_pi hm0 7 0 34 (hm0.1 7 0 34 + 1)) s := fun s => MA.fx f2 (fun T h1 h2 => by omega) (fun T i h1 h2 h3 => by omega) (fun i h1 h2 => by omega)
    refine kf (fun z => c1 (by rw [z]; decide)) (sd_pi hm0 7 0 34 (hm0.1 7 0 34 + 1)) ?_ (F0.pi (Or.inl rfl))
    refine ⟨r1.cg x2 f2 (by omega) (by omega) (by omega) (by omega), ⟨a1, a2, a3, a4, a5, ?_, a7, a8, a9, a10⟩, r3.fx x2 (by omega), r4.fx x2, r5.cg rfl (fun _ => rfl) (fun _ => rfl) (fun _ => rfl) (fun _ => rfl) rfl (fun _ => rfl), by omega, fun s hs => (r7 s hs).cg (CA.fx x2 (fun T i h => by omega)) (ma s) (Nat.le_refl _) (by omega), fun s h1 h2 => (r8 s h1 h2).cg (ma s)⟩
    show hm0.1 7 0 34 + 1 = hc.1 0 0 10 + 1
    rw [a6]
  have c1 : dk_fault hc sn = 0 := by
    rcases dk_fault_c hc sn with ⟨e, z⟩ | ⟨e, z⟩
    · rw [e] at c1 ⊢
      rcases df_shape_c hc with q | q | q | q | q | q
      · exact q
      all_goals (rw [q] at c1; exact absurd c1 (by decide))
    · rcases z with q | q | q
      · exact q
      all_goals (rw [q] at c1; exact absurd c1 (by decide))
  have ky := ky c1
  have c0 : df_shape hc = 0 := by
    rcases dk_fault_c hc sn with ⟨e, z⟩ | ⟨e, z⟩
    · exact absurd (e.symm.trans c1) z
    · exact e
  obtain ⟨hsz, -⟩ := v0 c0
  have crt : ¬ dk_rt hc = 0 ∧ (sn < 6 ∨ ¬ dk_find hc (pk_4 hc 8) 0 sn = none) := by
    unfold dk_fault at c1
    rw [if_pos c0] at c1
    by_cases z : dk_rt hc = 0
    · rw [if_pos z] at c1; exact absurd c1 (by decide)
    · rw [if_neg z] at c1
      refine ⟨z, ?_⟩
      by_cases y : sn < 6
      · exact Or.inl y
      · rw [if_neg y] at c1
        by_cases x : dk_find hc (pk_4 hc 8) 0 sn = none
        · rw [if_pos x] at c1; exact absurd c1 (by decide)
        · exact Or.inr x
  obtain ⟨s1, s2, s3⟩ := r1.sort hsz
  have hrt0 : 0 < dk_rt hc := by
    have := (a1 (g 1 % 128) (by omega)).2
    rw [← s3] at this
    have nz : ¬ (dk_rt hc).toInt = 0 := fun z => crt.1 (i_z.mpr z)
    rw [Int32.lt_iff_toInt_lt]
    show (0 : Int) < _
    omega
  refine sm_four (j := 8) (by decide) rfl ?_
  refine sm_two (j := 2) (by decide) rfl ?_
  refine sm_four (j := 4) (by decide) rfl ?_
  have g8 : m4 hm0 8 = pk_4 hc 8 := r1.four (j := 8) (by omega)
  have g4' : m4 hm0 4 = pk_4 hc 4 := r1.four (j := 4) (by omega)
  have g2' : m2 hm0 2 = pk_2 hc 2 := r1.two (j := 2) (by omega)
  rw [g8, g4', g2']
  refine ⟨1, ⟨show 1 < 300 by decide, rfl⟩, g 1 % 128, ⟨show g 1 % 128 < 128 by omega, s2⟩, ?_⟩
  have er : hm0.1 20 0 (g 1 % 128) = dk_rt hc := by rw [s3]; exact (a1 _ (by omega)).1
  rw [er]
  have hqb : 0 ≤ (pk_2 hc 2).toInt ∧ (pk_2 hc 2).toInt < 65536 := by
    rw [show (2 : Int32) = nI 2 from rfl]
    obtain ⟨b, b1, b2, -⟩ := r1.h0 (j := 2) (by omega)
    rw [b2, nI_toInt (by omega)]; omega
  refine sm_senderOf (hc := hc) (sn := sn) a10 r3.2.1 (fun s hs => (r7 s hs).1) ?_
  have hfl : ∀ s, dk_find hc (pk_4 hc 8) 0 sn = some s → s < 6 := fun s q => by have := dk_find_lt _ _ _ q; have := r3.2.1; omega
  show (¬ m_o (dk_find hc (pk_4 hc 8) 0 sn) = -1 → _) ∧ (m_o (dk_find hc (pk_4 hc 8) 0 sn) = -1 → _)
  cases hf : dk_find hc (pk_4 hc 8) 0 sn with
  | some s =>
    rw [hf] at hfl
    refine ⟨fun _ => ?_, fun c => absurd ((m_o_n hfl).mp c) (by intro z; cases z)⟩
    have hs : s < sn := by have := dk_find_lt _ _ _ hf; omega
    exact sq_take86 (h1 := hc) (s := s) R0' hs ht hsz rfl rfl rfl hrt0 (fun hm' e' rr f => ky hc s sn (Or.inl ⟨hf, rfl⟩) hm' e' rr (F0.tr f))
  | none =>
    have h6 : sn < 6 := by
      rcases crt.2 with z | z
      · exact z
      · exact absurd hf z
    refine ⟨fun c => absurd rfl c, fun _ => ?_⟩
    refine sm_comes (sn := sn) a10 h6 (fun hm1 f1 e21 mn e8 => ?_)
    have R1 := RR.new R0' h6 hqb f1 e21 mn e8
    refine sq_take86 (h1 := dk_new hc sn (pk_4 hc 8) (pk_2 hc 2)) (s := sn) R1 (by omega) ht hsz rfl rfl rfl hrt0 (fun hm' e' rr f => ky _ sn (sn + 1) (Or.inr ⟨hf, h6, rfl, rfl⟩) hm' e' rr ((F0.tr (f1.mono (fun T k i q => ?_))).tr f))
    unfold PC0 at q; unfold PMo; omega
end MTK
end
section
/-! the reference: pass -/
theorem RS.play {hx hmx X hm' : sd_H} {s ex eX t : Nat} {nw nw' : Int32} (r : RS hx hmx s ex t nw) (x : Fx (PCp s) hx X) (f : Fx (PPm s) hmx hm') (p : PM X hm' s eX 0) (nd : ND hm' s nw') (hz : ¬ hx.1 4 s 4 = 0 → hm'.2.1 38 0 s = 0 ∧ ∀ k, k < 32 → hm'.1 41 0 (32 * s + k) = 0) : RS X hm' s eX t nw' := by
  obtain ⟨r1, r2, r3, r4, r5, r6, r7, r8, r9, r10, r11, r12⟩ := r
  have x3 : ∀ i, X.1 3 s i = hx.1 3 s i := fun i => x.1 3 s i (by unfold PCp; omega)
  have x4 : X.1 4 s = hx.1 4 s := funext fun i => x.1 4 s i (by unfold PCp; omega)
  have x5 : X.1 5 s = hx.1 5 s := funext fun i => x.1 5 s i (by unfold PCp; omega)
  have fi : ∀ T, 21 ≤ T → T ≤ 37 → hm'.1 T 0 s = hmx.1 T 0 s := fun T h1 h2 => f.1 T 0 s (by unfold PPm; omega)
  refine ⟨?_, ?_, ?_, ?_, ?_, ?_, ?_, ?_, p, nd, ?_, ?_⟩
  · rw [x3, fi 21 (by decide) (by decide)]; exact r1
  · rw [x4]; intro i hi; rw [fi _ (by omega) (by omega)]; exact r2 i hi
  · rw [x4]; exact r3
  · rw [x5]
    exact ⟨(fi 32 (by decide) (by decide)).trans r4.1, (fi 31 (by decide) (by decide)).trans r4.2.1, (fi 30 (by decide) (by decide)).trans r4.2.2.1, r4.2.2.2⟩
  · rw [x3, fi 33 (by decide) (by decide)]; exact r5
  · rw [x3, fi 34 (by decide) (by decide)]; exact r6
  · rw [x3, fi 35 (by decide) (by decide)]; exact r7
  · rw [x3, fi 36 (by decide) (by decide)]; exact r8
  · rw [x4, fi 37 (by decide) (by decide)]; exact r11
  · rw [x4]; exact hz
/-- nothing waits: nothing plays -/
theorem pl_play_z {h hm : sd_H} {s e : Nat} {nw d : Int32} (p : PM h hm s e 0) (hz : ∀ k, k < 32 → hm.1 41 0 (32 * s + k) = 0) : pl_play s nw 32 h e d = (d, h, e) :=
  pl_play_no p (fun k hk hw => absurd (hz k hk) hw)
section PA
variable {l : Launch} {Q : Option sd_V → sd_H → Prop}
def IP (hx hmx : sd_H) (sz : Nat) (g : Nat → Nat) (nw nw' sn e t i : Nat) : Prop :=
  PK hx hmx sz g ∧ RG hx hmx nw' sn ∧ SN hx sn ∧ SC hx sn ∧ EV hx hmx e ∧ (∀ s, s < i → RS hx hmx s e t (nI nw')) ∧ (∀ s, i ≤ s → s < sn → RS hx hmx s e t (nI nw)) ∧ ∀ s, sn ≤ s → s < 6 → RZ hmx s
theorem RG.fx {P P' : Nat → Nat → Nat → Prop} {hc hm hc' hm' : sd_H} {nw sn : Nat} (r : RG hc hm nw sn) (x : Fx P hc hc') (z : Fx P' hm hm') (h1 : ∀ T i, (T = 0 ∨ T = 8 ∨ T = 10) → ¬ P T 0 i) (h2 : ∀ i, ¬ P' 20 0 i) (h3 : ∀ i, ¬ P' 45 0 i) (h4 : ∀ i, (i = 0 ∨ i = 1 ∨ i = 8 ∨ (32 ≤ i ∧ i ≤ 39 ∧ i ≠ 35 ∧ i ≠ 37)) → ¬ P' 7 0 i) : RG hc' hm' nw sn := by
  obtain ⟨a1, a2, a3, a4, a5, a6, a7, a8, a9, a10⟩ := r
  have x0 : ∀ i, hc'.1 0 0 i = hc.1 0 0 i := fun i => x.1 0 0 i (h1 0 i (by omega))
  refine ⟨fun i hi => ?_, ⟨?_, ?_, a2.2.2⟩, ?_, ?_, ?_, ?_, ?_, ?_, fun i hi => ?_, ?_⟩
  · rw [x.1 8 0 i (h1 8 i (by omega)), z.1 20 0 i (h2 i)]; exact a1 i hi
  · rw [z.1 7 0 0 (h4 _ (by omega))]; exact a2.1
  · rw [x0]; exact a2.2.1
  · rw [x0, z.1 7 0 1 (h4 _ (by omega))]; exact a3
  · rw [x0, z.1 7 0 32 (h4 _ (by omega))]; exact a4
  · rw [x0, z.1 7 0 33 (h4 _ (by omega))]; exact a5
  · rw [x0, z.1 7 0 34 (h4 _ (by omega))]; exact a6
  · rw [x0, z.1 7 0 39 (h4 _ (by omega))]; exact a7
  · rw [x0, z.1 7 0 38 (h4 _ (by omega))]; exact a8
  · rw [x.1 10 0 i (h1 10 i (by omega)), z.1 45 0 i (h3 i)]; exact a9 i hi
  · rw [z.1 7 0 8 (h4 _ (by omega))]; exact a10
set_option maxRecDepth 100000 in
theorem sq_mpass {sz nw nw' sn t : Nat} {g : Nat → Nat} {ms : Int32} : ∀ (n i : Nat) (hx hmx : sd_H) (e : Nat) (d : Int32), i + n = sn → IP hx hmx sz g nw nw' sn e t i → e + 2000 + 1056 * n < 2 ^ 30 → (∀ hm' e', IP (dk_pass (nI nw') i n hx e d).2.1 hm' sz g nw nw' sn e' t sn → e' ≤ e + 1056 * n → Fx PMo hmx hm' → Q (some (v_i (dk_pass (nI nw') i n hx e d).1)) hm') → sd_Wq l none y_X9_pass true Q 43 [some (v_r 7 0), some (v_i ms), some (v_i d), some (v_i (nI i))] [] hmx 0 0
  | 0, i, hx, hmx, e, d, hi, I, hb, k => by
    refine sd_go [43] 60 (cd := cd_X9_pass) (by decide) rfl ?_
    have I' := I
    obtain ⟨i1, i2, i3, i4, i5, i6, i7, i8⟩ := I
    have hN : hmx.1 7 0 8 = nI sn := i2.2.2.2.2.2.2.2.2.2
    refine ⟨fun _ => ?_, fun c => absurd ?_ c⟩
    · refine k hmx e ?_ (by omega) .rf
      rw [show i = sn by omega] at I'
      exact I'
    · show hmx.1 7 0 8 ≤ nI i
      rw [hN, show sn = i by omega]
      exact Int32.le_refl _
  | n + 1, i, hx, hmx, e, d, hi, I, hb, k => by
    refine sd_go [43] 60 (cd := cd_X9_pass) (by decide) rfl ?_
    obtain ⟨i1, i2, i3, i4, i5, i6, i7, i8⟩ := I
    have hN : hmx.1 7 0 8 = nI sn := i2.2.2.2.2.2.2.2.2.2
    have n6 := i3.2.1
    refine ⟨fun c => absurd c ?_, fun _ => ?_⟩
    · show ¬ hmx.1 7 0 8 ≤ nI i
      rw [hN]
      exact nI_ge (by omega) (by omega)
    have r := i7 i (Nat.le_refl _) (by omega)
    refine sm_plays (hc := hx) (e := e) (nw := nI nw') (by omega) r.2.2.2.2.2.2.2.2.1 i5 i2.2.1.1 (by omega) (fun hm' p' v' f' nd' => ?_)
    have le := pl_play_le (s := i) (nw := nI nw') 32 hx e 0
    have xp : Fx (PCp i) hx (pl_play i (nI nw') 32 hx e 0).2.1 := pl_play_fx _ _ _ _ .rf
    have hz : ¬ hx.1 4 i 4 = 0 → hm'.2.1 38 0 i = 0 ∧ ∀ k, k < 32 → hm'.1 41 0 (32 * i + k) = 0 := by
      intro z
      obtain ⟨y1, y2⟩ := r.2.2.2.2.2.2.2.2.2.2.2 z
      have e0 := pl_play_z (nw := nI nw') (d := 0) r.2.2.2.2.2.2.2.2.1 y2
      rw [e0] at p'
      have y3 : hx.2.1 6 i 6 = 0 := by rw [r.2.2.2.2.2.2.2.2.1.2.1, y1]; rfl
      have y4 : hm'.2.1 38 0 i = 0 := by
        have := p'.2.1
        rw [y3] at this
        rw [show hm'.2.1 38 0 i + lN 0 = hm'.2.1 38 0 i from Int64.add_zero _] at this
        exact this.symm
      refine ⟨y4, fun k hk => ?_⟩
      have y5 := p'.2.2.1 k hk
      rw [if_neg (by omega), y4] at y5
      have y6 := r.2.2.2.2.2.2.2.2.1.2.2.1 k hk
      rw [if_neg (by omega), y1, y2 k hk] at y6
      rw [← y5, y6]
    generalize hX : pl_play i (nI nw') 32 hx e 0 = X at le xp p' v' ⊢
    have k : ∀ hm' e', IP (dk_pass (nI nw') (i + 1) n X.2.1 X.2.2 (d + X.1)).2.1 hm' sz g nw nw' sn e' t sn → e' ≤ e + 1056 * (n + 1) → Fx PMo hmx hm' → Q (some (v_i (dk_pass (nI nw') (i + 1) n X.2.1 X.2.2 (d + X.1)).1)) hm' := by
      rw [← hX]; exact k
    show sd_Wq l none y_X9_pass true Q 43 [some (v_r 7 0), some (v_i ms), some (v_i (d + X.1)), some (v_i (nI i + 1))] [] hm' 0 0
    rw [nI_1]
    have FM : Fx PMo hmx hm' := f'.mono (fun T k i q => by unfold PPm at q; unfold PMo; omega)
    refine sq_mpass n (i + 1) X.2.1 hm' X.2.2 (d + X.1) (by omega) ?_ (by omega) (fun hm2 e2 I2 le2 f2 => k hm2 e2 I2 (by omega) (FM.tr f2))
    have ma : ∀ s, s ≠ i → MA hmx hm' s := fun s hs => MA.fx f' (fun T h1 h2 => by unfold PPm; omega) (fun T i h1 h2 h3 => by unfold PPm; omega) (fun i h1 h2 => by unfold PPm; omega)
    have ca : ∀ s, s ≠ i → CA hx X.2.1 s := fun s hs => CA.fx xp (fun T i h => by unfold PCp; omega)
    refine ⟨i1.cg xp f' (by unfold PCp; omega) (by unfold PCp; omega) (by unfold PPm; omega) (by unfold PPm; omega), i2.fx xp f' (fun T i h => by unfold PCp; omega) (fun i => by unfold PPm; omega) (fun i => by unfold PPm; omega) (fun i h => by unfold PPm; omega), i3.fx xp (by unfold PCp; omega), i4.fx xp, v', fun s hs => ?_, fun s h1 h2 => (i7 s (by omega) h2).cg (ca s (by omega)) (ma s (by omega)) le.1 (Nat.le_refl _), fun s h1 h2 => (i8 s h1 h2).cg (ma s (by omega))⟩
    by_cases z : s = i
    · subst z
      exact r.play xp f' p' nd' hz
    · exact (i6 s (by omega)).cg (ca s z) (ma s z) le.1 (Nat.le_refl _)
theorem sm_pass {hc hm : sd_H} {sz nw sn e t : Nat} {g : Nat → Nat} {ms : Int32} (R : RR hc hm sz g nw sn e t) (ht : t ≤ 1000) (kb : (ms < 0 ∨ 10000 < ms) → Q (some (v_i (-2))) hm) (kf : ∀ m : Nat, m ≤ 10000 → ms = nI m → 100000000 < nw + m → Q (some (v_i (-3))) hm)
    (ky : ∀ m : Nat, m ≤ 10000 → ms = nI m → nw + m ≤ 100000000 → ∀ hm' e', RR (dk_pass (nI (nw + m)) 0 sn (sd_pi hc 0 0 6 (nI (nw + m))) e 0).2.1 hm' sz g (nw + m) sn e' (t + 1) → Fx PMo hm hm' → Q (some (v_i (dk_pass (nI (nw + m)) 0 sn (sd_pi hc 0 0 6 (nI (nw + m))) e 0).1)) hm') : sd_E1 l y_X9_pass [v_r 7 0, v_i ms] hm Q := by
  obtain ⟨r1, r2, r3, r4, r5, r6, r7, r8⟩ := R
  obtain ⟨a1, a2, a3, a4, a5, a6, a7, a8, a9, a10⟩ := r2
  refine sd_e1 [43] 60 (cd := cd_X9_pass) (by decide) rfl (Nat.le_of_ble_eq_true rfl) ?_
  refine sm_in (lo := 0) (hi := 10000) (by decide) (by decide) (fun c => ?_) (fun c => ?_)
  · refine ⟨fun q => absurd rfl q, fun _ => kb ?_⟩
    by_cases c1 : ms < 0
    · exact Or.inl c1
    · exact Or.inr (i_nle fun q => c ⟨i_nlt c1, q⟩)
  refine ⟨fun _ => ?_, fun q => absurd q (by decide)⟩
  obtain ⟨m, hm0, rfl⟩ := nI_of2 (M := 10000) (n := 10000) rfl (Int32.not_lt.mpr c.1) c.2
  have nwb := a2.2.2
  refine ⟨fun (c1 : hm.1 7 0 0 + nI m ≤ 100000000) => ?_, fun (c1 : ¬ hm.1 7 0 0 + nI m ≤ 100000000) => ?_⟩
  rotate_left
  · rw [a2.1, nI_add] at c1
    exact kf m hm0 rfl (by
      rcases Nat.lt_or_ge 100000000 (nw + m) with q | q
      · exact q
      · exact absurd (nI_le (b := 100000000) q (by decide)) c1)
  rw [a2.1, nI_add] at c1
  have c1 := (nI_leI (b := 100000000) (by omega) (by decide)).mp c1
  have k := ky m hm0 rfl c1
  show sd_Wq l none y_X9_pass true Q 43 [some (v_r 7 0), some (v_i (nI m)), some (v_i 0), some (v_i (nI 0))] [] (sd_pi hm 7 0 0 (hm.1 7 0 0 + nI m)) 0 0
  rw [a2.1, nI_add]
  have f0 : Fx (fun T _ i => T = 7 ∧ i = 0) hm (sd_pi hm 7 0 0 (nI (nw + m))) := Fx.rf.pi ⟨rfl, rfl⟩
  have x0 : Fx (fun T _ i => T = 0 ∧ i = 6) hc (sd_pi hc 0 0 6 (nI (nw + m))) := Fx.rf.pi ⟨rfl, rfl⟩
  have ma : ∀ s, MA hm (sd_pi hm 7 0 0 (nI (nw + m))) s := fun s => MA.fx f0 (fun T h1 h2 => by omega) (fun T i h1 h2 h3 => by omega) (fun i h1 h2 => by omega)
  have ca : ∀ s, CA hc (sd_pi hc 0 0 6 (nI (nw + m))) s := fun s => CA.fx x0 (fun T i h => by omega)
  have I : IP (sd_pi hc 0 0 6 (nI (nw + m))) (sd_pi hm 7 0 0 (nI (nw + m))) sz g nw (nw + m) sn e (t + 1) 0 := by
    refine ⟨r1.cg x0 f0 (by omega) (by omega) (by omega) (by omega), ⟨a1, ⟨rfl, rfl, c1⟩, a3, a4, a5, a6, a7, a8, a9, a10⟩, r3.fx x0 (by omega), r4.fx x0, r5.cg rfl (fun _ => rfl) (fun _ => rfl) (fun _ => rfl) (fun _ => rfl) rfl (fun _ => rfl), fun s hs => by omega, fun s _ hs => (r7 s hs).cg (ca s) (ma s) (Nat.le_refl _) (by omega), fun s h1 h2 => (r8 s h1 h2).cg (ma s)⟩
  have n6 := r3.2.1
  refine sq_mpass sn 0 _ _ e 0 (by omega) I (by omega) (fun hm' e' I' le' f' => ?_)
  obtain ⟨j1, j2, j3, j4, j5, j6, j7, j8⟩ := I'
  exact k hm' e' ⟨j1, j2, j3, j4, j5, by omega, j6, j8⟩ ((f0.mono (fun T k i q => Or.inl q.1)).tr f')
end PA
end
section
/-! the reference: sender, next, time, event -/
theorem lo_e1 : (8388607 : Int32).toInt = 8388607 := rfl
theorem lo_e2 : (-8388608 : Int32).toInt = -8388608 := rfl
theorem lo_1 {x : Int32} (c : ¬ x ≤ 8388607) : i_max (-8388608) (i_min 8388607 x) = 8388607 := by
  have e1 := lo_e1
  unfold i_min
  rw [if_neg (fun q => c (by rw [Int32.le_iff_toInt_le]; rw [Int32.lt_iff_toInt_lt] at q; omega))]
  rfl
theorem lo_m {x : Int32} (c : x ≤ 8388607) : i_min 8388607 x = x := by
  have e1 := lo_e1
  unfold i_min
  by_cases q : x < 8388607
  · rw [if_pos q]
  · rw [if_neg q]
    apply Int32.toInt_inj.mp
    rw [Int32.le_iff_toInt_le] at c
    rw [Int32.lt_iff_toInt_lt] at q
    omega
theorem lo_2 {x : Int32} (c : x ≤ 8388607) (c2 : -8388608 ≤ x) : i_max (-8388608) (i_min 8388607 x) = x := by
  have e2 := lo_e2
  rw [lo_m c]
  unfold i_max
  by_cases q : -8388608 < x
  · rw [if_pos q]
  · rw [if_neg q]
    apply Int32.toInt_inj.mp
    rw [Int32.le_iff_toInt_le] at c2
    rw [Int32.lt_iff_toInt_lt] at q
    omega
theorem lo_3 {x : Int32} (c : x ≤ 8388607) (c2 : ¬ -8388608 ≤ x) : i_max (-8388608) (i_min 8388607 x) = -8388608 := by
  have e2 := lo_e2
  rw [lo_m c]
  unfold i_max
  rw [if_neg (fun q => c2 (by rw [Int32.le_iff_toInt_le]; rw [Int32.lt_iff_toInt_lt] at q; omega))]
section RD
variable {l : Launch} {Q : Option sd_V → sd_H → Prop} {hc hm : sd_H} {s sn : Nat} {f : Nat → Int32}
theorem sm_isS {i : Int32} (hN : hm.1 7 0 8 = nI sn) (h6 : sn ≤ 6) (kn : (i < 0 ∨ nI sn ≤ i) → Q (some (v_i 0)) hm) (ky : ∀ s, s < sn → i = nI s → Q (some (v_i 1)) hm) : sd_E1 l y_X9_isSender [v_r 7 0, v_i i] hm Q := by
  refine sd_e1 [] 60 (cd := cd_X9_isSender) (by decide) rfl (Nat.le_of_ble_eq_true rfl) ?_
  refine sm_in (lo := 0) (hi := hm.1 7 0 8 - 1) (by decide) rfl (fun c => ?_) (fun c => ?_)
  · refine ⟨Or.inl rfl, kn ?_⟩
    by_cases c1 : i < 0
    · exact Or.inl c1
    · right
      obtain ⟨j, hj, rfl⟩ := nI_of c1
      rcases Nat.lt_or_ge j sn with q | q
      · exfalso
        apply c
        refine ⟨nI_pos' hj, ?_⟩
        rw [hN, show nI sn - 1 = nI (sn - 1) by rw [show sn = (sn - 1) + 1 by omega, nI_pred]; rfl]
        exact nI_le (by omega) (by omega)
      · exact nI_le q hj
  · refine ⟨Or.inr rfl, ?_⟩
    obtain ⟨j, hj, rfl⟩ := nI_of (Int32.not_lt.mpr c.1)
    refine ky j ?_ rfl
    have c2 := c.2
    rw [hN] at c2
    rcases Nat.eq_zero_or_pos sn with q | q
    · subst q
      exact absurd (show nI j ≤ -1 from c2) (Int32.not_le.mpr (by
        have := nI_pos' hj
        rw [Int32.le_iff_toInt_le] at this
        rw [Int32.lt_iff_toInt_lt]
        have e0 : (0 : Int32).toInt = 0 := rfl
        have e1 : (-1 : Int32).toInt = -1 := rfl
        omega))
    · rw [show nI sn - 1 = nI (sn - 1) by rw [show sn = (sn - 1) + 1 by omega, nI_pred]; rfl] at c2
      have := (nI_leI hj (by omega)).mp c2
      omega
theorem sm_dueOf (hs : s < 6) (m : MN hm s f) (k : Q (some (v_i (nb_due f))) hm) : sd_E1 l y_X9_dueOf [v_r 7 0, v_i (nI s)] hm Q := by
  refine sd_e1 [] 60 (cd := cd_X9_dueOf) (by decide) rfl (Nat.le_of_ble_eq_true rfl) ?_
  have s6 : s < 6 := hs
  refine ⟨s, ⟨s6, rfl⟩, s, ⟨s6, rfl⟩, s, ⟨s6, rfl⟩, ?_⟩
  show Q (some (v_i (hm.1 23 0 s + hm.1 22 0 s - hm.1 24 0 s + 1))) hm
  rw [show hm.1 23 0 s = f 1 from m 1 (by decide), show hm.1 22 0 s = f 0 from m 0 (by decide), show hm.1 24 0 s = f 2 from m 2 (by decide)]
  exact k
theorem sm_lostOf (hs : s < 6) (m : MN hm s f) (k : Q (some (v_i (nb_lost f))) hm) : sd_E1 l y_X9_lostOf [v_r 7 0, v_i (nI s)] hm Q := by
  refine sd_e1 [] 60 (cd := cd_X9_lostOf) (by decide) rfl (Nat.le_of_ble_eq_true rfl) ?_
  have s6 : s < 6 := hs
  refine sm_dueOf hs m ?_
  refine ⟨s, ⟨s6, rfl⟩, ?_⟩
  unfold nb_lost at k
  rw [show hm.1 27 0 s = f 5 from m 5 (by decide)]
  refine ⟨fun c1 => ?_, fun c1 => ?_⟩
  rotate_left
  · rw [lo_1 c1] at k; exact k
  refine ⟨fun c2 => ?_, fun c2 => ?_⟩
  · rw [lo_2 c1 c2] at k; exact k
  · rw [lo_3 c1 c2] at k; exact k
theorem sm_sender {e t : Nat} {nw i w : Int32} (hN : hm.1 7 0 8 = nI sn) (h6 : sn ≤ 6) (r : ∀ s, s < sn → RS hc hm s e t nw) (kn : (i < 0 ∨ nI sn ≤ i) → Q (some (v_i (-2147483648))) hm) (ky : ∀ s, s < sn → i = nI s → Q (some (v_i (sn_fld hc s w))) hm) : sd_E1 l y_X9_sender [v_r 7 0, v_i i, v_i w] hm Q := by
  refine sd_e1 [] 60 (cd := cd_X9_sender) (by decide) rfl (Nat.le_of_ble_eq_true rfl) ?_
  refine sm_isS hN h6 (fun c => ⟨fun q => absurd rfl q, fun _ => kn c⟩) (fun s hs es => ⟨fun _ => ?_, fun q => absurd q (by decide)⟩)
  subst es
  have k := ky s hs rfl
  have s6 : s < 6 := by omega
  obtain ⟨t1, t2, t3, t4, t5, t6, t7, t8, t9, t10, t11, t12⟩ := r s hs
  have m0 : hm.1 22 0 s = hc.1 4 s 0 := t2 0 (by decide)
  have m1 : hm.1 23 0 s = hc.1 4 s 1 := t2 1 (by decide)
  have m2 : hm.1 24 0 s = hc.1 4 s 2 := t2 2 (by decide)
  have m3 : hm.1 25 0 s = hc.1 4 s 3 := t2 3 (by decide)
  have m4 : hm.1 26 0 s = hc.1 4 s 4 := t2 4 (by decide)
  have m5 : hm.1 27 0 s = hc.1 4 s 5 := t2 5 (by decide)
  have b4 : hc.1 4 s 4 ≤ 0 ↔ hc.1 4 s 4 = 0 := by
    have := t3.2.2.2.1
    rw [i_le0, i_z]; omega
  have cnt : ∀ (x : Nat), 1 ≤ x → x ≤ 5 → hm.1 43 0 (6 * s + x) = hc.1 16 s x := t9.2.2.2.2.2.2.1
  unfold sn_fld at k
  refine ⟨fun (c : w = 0) => ?_, fun (c : ¬ w = 0) => ?_⟩
  · rw [if_pos c, ← t1] at k; exact ⟨s, ⟨s6, rfl⟩, k⟩
  rw [if_neg c] at k
  refine ⟨fun (c : w = 1) => ?_, fun (c : ¬ w = 1) => ?_⟩
  · rw [if_pos c, ← m0] at k; exact ⟨s, ⟨s6, rfl⟩, k⟩
  rw [if_neg c] at k
  refine ⟨fun (c : w = 2) => ?_, fun (c : ¬ w = 2) => ?_⟩
  · rw [if_pos c, ← m1] at k; exact ⟨s, ⟨s6, rfl⟩, k⟩
  rw [if_neg c] at k
  refine ⟨fun (c : w = 3) => ?_, fun (c : ¬ w = 3) => ?_⟩
  · rw [if_pos c, ← m2] at k; exact ⟨s, ⟨s6, rfl⟩, k⟩
  rw [if_neg c] at k
  refine ⟨fun (c : w = 4) => ?_, fun (c : ¬ w = 4) => ?_⟩
  · rw [if_pos c, ← m3] at k; exact ⟨s, ⟨s6, rfl⟩, k⟩
  rw [if_neg c] at k
  refine ⟨fun (c : w = 5) => ?_, fun (c : ¬ w = 5) => ?_⟩
  · rw [if_pos c, ← m4] at k; exact ⟨s, ⟨s6, rfl⟩, k⟩
  rw [if_neg c] at k
  refine ⟨fun (c : w = 6) => ?_, fun (c : ¬ w = 6) => ?_⟩
  · rw [if_pos c, ← m5] at k; exact ⟨s, ⟨s6, rfl⟩, k⟩
  rw [if_neg c] at k
  refine ⟨fun (c : w = 7) => ?_, fun (c : ¬ w = 7) => ?_⟩
  · rw [if_pos c, ← t4.1] at k; exact ⟨s, ⟨s6, rfl⟩, k⟩
  rw [if_neg c] at k
  refine ⟨fun (c : w = 8) => ?_, fun (c : ¬ w = 8) => ?_⟩
  · rw [if_pos c] at k
    refine ⟨s, ⟨s6, rfl⟩, fun (z : hm.1 26 0 s ≤ 0) => ?_, fun (z : ¬ hm.1 26 0 s ≤ 0) => ?_⟩
    · rw [m4] at z; rw [if_pos (b4.mp z)] at k
      exact sm_dueOf s6 t2 k
    · rw [m4] at z; rw [if_neg (fun y => z (b4.mpr y))] at k
      exact k
  rw [if_neg c] at k
  refine ⟨fun (c : w = 9) => ?_, fun (c : ¬ w = 9) => ?_⟩
  · rw [if_pos c] at k
    refine ⟨s, ⟨s6, rfl⟩, fun (z : hm.1 26 0 s ≤ 0) => ?_, fun (z : ¬ hm.1 26 0 s ≤ 0) => ?_⟩
    · rw [m4] at z; rw [if_pos (b4.mp z)] at k
      exact sm_lostOf s6 t2 k
    · rw [m4] at z; rw [if_neg (fun y => z (b4.mpr y))] at k
      exact k
  rw [if_neg c] at k
  have cx : ∀ x : Nat, 1 ≤ x → x ≤ 5 → w = nI (x + 9) → (6 : Int32) * nI s + w - 9 = nI (6 * s + x) := fun x h1 h2 ew => by
    rw [ew, ix6, show (9 : Int32) = nI 9 from rfl, pk_sub (by omega)]
    congr 1
  refine ⟨fun (c : w = 10) => ?_, fun (c : ¬ w = 10) => ?_⟩
  · rw [if_pos c, ← cnt 1 (by decide) (by decide)] at k
    exact ⟨6 * s + 1, ⟨show 6 * s + 1 < 36 by omega, cx 1 (by decide) (by decide) c⟩, k⟩
  rw [if_neg c] at k
  refine ⟨fun (c : w = 11) => ?_, fun (c : ¬ w = 11) => ?_⟩
  · rw [if_pos c, ← cnt 2 (by decide) (by decide)] at k
    exact ⟨6 * s + 2, ⟨show 6 * s + 2 < 36 by omega, cx 2 (by decide) (by decide) c⟩, k⟩
  rw [if_neg c] at k
  refine ⟨fun (c : w = 12) => ?_, fun (c : ¬ w = 12) => ?_⟩
  · rw [if_pos c, ← cnt 3 (by decide) (by decide)] at k
    exact ⟨6 * s + 3, ⟨show 6 * s + 3 < 36 by omega, cx 3 (by decide) (by decide) c⟩, k⟩
  rw [if_neg c] at k
  refine ⟨fun (c : w = 13) => ?_, fun (c : ¬ w = 13) => ?_⟩
  · rw [if_pos c, ← cnt 4 (by decide) (by decide)] at k
    exact ⟨6 * s + 4, ⟨show 6 * s + 4 < 36 by omega, cx 4 (by decide) (by decide) c⟩, k⟩
  rw [if_neg c] at k
  refine ⟨fun (c : w = 14) => ?_, fun (c : ¬ w = 14) => ?_⟩
  · rw [if_pos c, ← cnt 5 (by decide) (by decide)] at k
    exact ⟨6 * s + 5, ⟨show 6 * s + 5 < 36 by omega, cx 5 (by decide) (by decide) c⟩, k⟩
  rw [if_neg c] at k
  refine ⟨fun (c : w = 15) => ?_, fun (c : ¬ w = 15) => ?_⟩
  · rw [if_pos c, t9.2.2.2.2.2.1] at k
    exact sm_waiting s6 k
  rw [if_neg c] at k
  refine ⟨fun (c : w = 16) => ?_, fun (c : ¬ w = 16) => ?_⟩
  · rw [if_pos c] at k
    refine ⟨s, ⟨s6, rfl⟩, fun (z : hm.1 33 0 s = 0) => ?_, fun (z : ¬ hm.1 33 0 s = 0) => ?_⟩
    · rw [t5.1] at z; rw [if_pos z] at k; exact k
    · rw [t5.1] at z; rw [if_neg z] at k; exact k
  rw [if_neg c] at k
  exact k
theorem RS.next {e t : Nat} {nw : Int32} (r : RS hc hm s e t nw) : hc.2.1 6 s 6 = hm.2.1 38 0 s := by
  rw [r.2.2.2.2.2.2.2.2.1.2.1]; exact Int64.add_zero _
theorem sm_next {e t : Nat} {nw i : Int32} (hN : hm.1 7 0 8 = nI sn) (h6 : sn ≤ 6) (r : ∀ s, s < sn → RS hc hm s e t nw) (kn : (i < 0 ∨ nI sn ≤ i) → Q (some (v_l 0)) hm) (ky : ∀ s, s < sn → i = nI s → Q (some (v_l (hc.2.1 6 s 6))) hm) : sd_E1 l y_X9_next [v_r 7 0, v_i i] hm Q := by
  refine sd_e1 [] 60 (cd := cd_X9_next) (by decide) rfl (Nat.le_of_ble_eq_true rfl) ?_
  refine sm_isS hN h6 (fun c => ⟨fun _ => kn c, fun q => absurd rfl q⟩) (fun s hs es => ⟨fun q => absurd q (by decide), fun _ => ?_⟩)
  subst es
  have k := ky s hs rfl
  have s6 : s < 6 := by omega
  have R := r s hs
  rw [R.next] at k
  obtain ⟨t1, t2, t3, t4, t5, t6, t7, t8, t9, t10, t11, t12⟩ := R
  refine ⟨s, ⟨s6, rfl⟩, fun (z : hm.1 37 0 s = 0) => ?_, fun (z : ¬ hm.1 37 0 s = 0) => ?_⟩
  · rw [t11] at z
    have z4 : ¬ hc.1 4 s 4 = 0 := fun y => by rw [if_pos y] at z; exact absurd z (by decide)
    rw [(t12 z4).1] at k
    exact k
  · exact ⟨s, ⟨s6, rfl⟩, k⟩
theorem sm_time {e t : Nat} {nw i : Int32} {n : Int64} (hN : hm.1 7 0 8 = nI sn) (h6 : sn ≤ 6) (r : ∀ s, s < sn → RS hc hm s e t nw) (kn : (i < 0 ∨ nI sn ≤ i) → Q (some (v_l (-2))) hm) (ky : ∀ s, s < sn → i = nI s → Q (some (v_l (if pl_waits hc s n = 0 then -1 else hc.2.1 17 s (sl n)))) hm) : sd_E1 l y_X9_time [v_r 7 0, v_i i, v_l n] hm Q := by
  refine sd_e1 [] 60 (cd := cd_X9_time) (by decide) rfl (Nat.le_of_ble_eq_true rfl) ?_
  refine sm_isS hN h6 (fun c => ⟨fun q => absurd rfl q, fun _ => kn c⟩) (fun s hs es => ⟨fun _ => ?_, fun q => absurd q (by decide)⟩)
  subst es
  have k := ky s hs rfl
  have s6 : s < 6 := by omega
  have R := r s hs
  have hn := R.next
  obtain ⟨t1, t2, t3, t4, t5, t6, t7, t8, t9, t10, t11, t12⟩ := R
  obtain ⟨u1, u2, u3, u4, u5, u6, u7, u8, u9, u10, u11⟩ := t9
  unfold pl_waits at k
  rw [hn] at k
  refine ⟨s, ⟨s6, rfl⟩, fun (z : hm.1 37 0 s = 0) => ?_, fun (z : ¬ hm.1 37 0 s = 0) => ?_⟩
  · rw [t11] at z
    have z4 : ¬ hc.1 4 s 4 = 0 := fun y => by rw [if_pos y] at z; exact absurd z (by decide)
    have ez : hc.1 18 s (sl n) = 0 := by
      have hl := sl_lt n
      have e1 := u3 (sl n) hl
      rw [if_neg (by omega), (t12 z4).1, (t12 z4).2 _ hl] at e1
      have e2 : sl (0 + lN (sl n)) = sl n := by
        rw [sl_add _ _ (by omega), show sl 0 = 0 from rfl]; omega
      rw [e2] at e1
      exact e1
    have ew : (if n < hm.2.1 38 0 s then (0 : Int32) else if ¬ n - hm.2.1 38 0 s < 32 then 0 else if hc.1 18 s (sl n) = 0 then 0 else 1) = 0 := by
      rw [if_pos ez]
      split
      · rfl
      · split <;> rfl
    rw [if_pos ew] at k
    exact k
  · refine ⟨s, ⟨s6, rfl⟩, fun c1 => ?_, fun c1 => ?_⟩
    · rw [if_pos (lc_lt.mp c1)] at k
      exact k
    have c1 : ¬ n < hm.2.1 38 0 s := fun q => c1 (lc_lt.mpr q)
    rw [if_neg c1] at k
    have l31 : (31 < n - hm.2.1 38 0 s) ↔ ¬ n - hm.2.1 38 0 s < 32 := by
      rw [Int64.lt_iff_toInt_lt, Int64.lt_iff_toInt_lt, show (31 : Int64).toInt = 31 from rfl, show (32 : Int64).toInt = 32 from rfl]
      omega
    refine ⟨s, ⟨s6, rfl⟩, fun c2 => ?_, fun c2 => ?_⟩
    rotate_left
    · have c2 : 31 < n - hm.2.1 38 0 s := Classical.not_not.mp fun q => c2 (lc_le.mpr q)
      rw [if_pos (l31.mp c2)] at k
      exact k
    have c2 : ¬ 31 < n - hm.2.1 38 0 s := lc_le.mp c2
    rw [if_neg (fun q => c2 (l31.mpr q))] at k
    have c2' : n - hm.2.1 38 0 s < 32 := Classical.not_not.mp fun q => c2 (l31.mpr q)
    have hmin := Int64.minValue_le_toInt n
    have hmax := Int64.toInt_le n
    have c1' : (hm.2.1 38 0 s).toInt ≤ n.toInt := by
      have := c1; rw [Int64.lt_iff_toInt_lt] at this; omega
    have hmax2 := Int64.toInt_lt n
    have hd : (n - hm.2.1 38 0 s).toInt = n.toInt - (hm.2.1 38 0 s).toInt := by
      rw [Int64.toInt_sub]
      exact Int.bmod_eq_of_le (by omega) (by omega)
    rw [Int64.lt_iff_toInt_lt, hd, show (32 : Int64).toInt = 32 from rfl] at c2'
    obtain ⟨x, hx, ex⟩ : ∃ x : Nat, x < 32 ∧ n - hm.2.1 38 0 s = lN x := by
      refine ⟨(n.toInt - (hm.2.1 38 0 s).toInt).toNat, by omega, Int64.toInt_inj.mp ?_⟩
      rw [hd, lN_toInt (by omega)]
      omega
    have en : n = hm.2.1 38 0 s + lN x := by
      rw [← ex, Int64.add_comm, Int64.sub_add_cancel]
    have I : 32 * s + x < 192 := by omega
    have ei : (32 : Int32) * nI s + (n - hm.2.1 38 0 s).toInt32 = nI (32 * s + x) := by rw [ex, lN_i, ix32]
    have hh : hc.1 18 s (sl n) = hm.1 41 0 (32 * s + x) := by rw [en, u3 x hx, if_neg (by omega)]
    refine ⟨s, ⟨s6, rfl⟩, 32 * s + x, ⟨I, ei⟩, fun (c3 : hm.1 41 0 (32 * s + x) = 0) => ?_, fun (c3 : ¬ hm.1 41 0 (32 * s + x) = 0) => ?_⟩
    · rw [hh, if_pos c3] at k
      exact k
    · rw [hh, if_neg c3, if_neg (by decide), en, ← u4 x hx (by omega) c3] at k
      exact ⟨32 * s + x, ⟨I, ei⟩, k⟩
theorem sm_event {e : Nat} {i w : Int32} (v : EV hc hm e) (hb : e < 2 ^ 30) (kn : (i < 0 ∨ 64 ≤ i ∨ nI e ≤ i) → Q (some (v_l (-1))) hm) (kb : ∀ i0, i0 < 64 → i0 < e → i = nI i0 → (w < 0 ∨ 3 < w) → Q (some (v_l (-2))) hm) (ky : ∀ i0, i0 < 64 → i0 < e → i = nI i0 → 0 ≤ w → w ≤ 3 → Q (some (v_l (ev_fld hc ((e - 1 - i0) % 64) w))) hm) : sd_E1 l y_X9_event [v_r 7 0, v_i i, v_i w] hm Q := by
  obtain ⟨v1, v2, v3⟩ := v
  refine sd_e1 [] 60 (cd := cd_X9_event) (by decide) rfl (Nat.le_of_ble_eq_true rfl) ?_
  refine sm_in (lo := 0) (hi := 63) (by decide) (by decide) (fun c => ?_) (fun c => ?_)
  · refine ⟨fun _ => kn ?_, fun q => absurd rfl q⟩
    by_cases c1 : i < 0
    · exact Or.inl c1
    · right; left
      rw [Int32.le_iff_toInt_le]
      have e1 : (64 : Int32).toInt = 64 := rfl
      have e2 : (63 : Int32).toInt = 63 := rfl
      have : ¬ i ≤ 63 := fun q => c ⟨i_nlt c1, q⟩
      rw [Int32.le_iff_toInt_le] at this
      omega
  refine ⟨fun q => absurd q (by decide), fun _ => ?_⟩
  obtain ⟨i0, hi0, rfl⟩ := nI_of2 (M := 63) (n := 63) rfl (Int32.not_lt.mpr c.1) c.2
  refine ⟨fun (c1 : nI i0 < hm.1 7 0 35) => ?_, fun (c1 : ¬ nI i0 < hm.1 7 0 35) => ?_⟩
  rotate_left
  · rw [v2] at c1
    exact kn (Or.inr (Or.inr (i_nlt c1)))
  rw [v2] at c1
  have c1 := (nI_ltI (by omega) (by omega)).mp c1
  refine sm_in (lo := 0) (hi := 3) (by decide) (by decide) (fun c2 => ?_) (fun c2 => ?_)
  · refine ⟨fun _ => kb i0 (by omega) c1 rfl ?_, fun q => absurd rfl q⟩
    by_cases c3 : w < 0
    · exact Or.inl c3
    · exact Or.inr (i_nle fun q => c2 ⟨i_nlt c3, q⟩)
  refine ⟨fun q => absurd q (by decide), fun _ => ?_⟩
  have k := ky i0 (by omega) c1 rfl c2.1 c2.2
  refine ⟨by decide, ?_⟩
  obtain ⟨w0, hw, rfl⟩ := nI_of2 (M := 3) (n := 3) rfl (Int32.not_lt.mpr c2.1) c2.2
  have e1 : hm.1 7 0 35 - 1 - nI i0 = nI (e - 1 - i0) := by
    rw [v2, show (1 : Int32) = nI 1 from rfl, pk_sub (by omega), pk_sub (by omega)]
  have ej : (4 : Int32) * (hm.1 7 0 35 - 1 - nI i0 - (hm.1 7 0 35 - 1 - nI i0) / 64 * 64) + nI w0 = nI (4 * ((e - 1 - i0) % 64) + w0) := by
    rw [e1, show nI (e - 1 - i0) - nI (e - 1 - i0) / 64 * 64 = nI ((e - 1 - i0) % 64) from pk_rem (d := 64) (by omega) (by decide) (by decide), show (4 : Int32) = nI 4 from rfl, pk_mul, nI_add]
  have hm64 : (e - 1 - i0) % 64 < 64 := Nat.mod_lt _ (by decide)
  refine ⟨4 * ((e - 1 - i0) % 64) + w0, ⟨show 4 * ((e - 1 - i0) % 64) + w0 < 256 by omega, ej⟩, ?_⟩
  have v := v3 _ hm64
  have ek : hm.2.1 44 0 (4 * ((e - 1 - i0) % 64) + w0) = ev_fld hc ((e - 1 - i0) % 64) (nI w0) := by
    generalize (e - 1 - i0) % 64 = j at v
    unfold ev_fld
    rcases (show w0 = 0 ∨ w0 = 1 ∨ w0 = 2 ∨ w0 = 3 by omega) with rfl | rfl | rfl | rfl
    · rw [if_pos (by rfl)]; exact v.1
    · rw [if_neg (by decide), if_pos (by rfl)]; exact v.2.1
    · rw [if_neg (by decide), if_neg (by decide), if_pos (by rfl)]; exact v.2.2.1
    · rw [if_neg (by decide), if_neg (by decide), if_neg (by decide), if_pos (by rfl)]; exact v.2.2.2
  show Q (some (v_l (hm.2.1 44 0 (4 * ((e - 1 - i0) % 64) + w0)))) hm
  rw [ek]
  exact k
end RD
end
section
/-! bytes of numbers; THE PACKET grows on both sides -/
theorem bv_1 (x : BitVec 64) (m : Nat) (hm : m ≤ 56) : (x >>> m).setWidth 32 &&& 255#32 = (x.sshiftRight m).setWidth 32 &&& 255#32 := by
  apply BitVec.eq_of_getLsbD_eq
  intro i hi
  simp only [BitVec.getLsbD_and, BitVec.getLsbD_setWidth, BitVec.getLsbD_ushiftRight, BitVec.getLsbD_sshiftRight]
  by_cases h8 : i < 8
  · simp [hi, show m + i < 64 by omega, show ¬ 64 ≤ i by omega]
  · have : (255#32).getLsbD i = false := by
      have e : (255#32).toNat = 2 ^ 8 - 1 := rfl
      rw [BitVec.getLsbD, e, Nat.testBit_two_pow_sub_one]
      simp [h8]
    rw [this]; simp
theorem bv_2 (x : BitVec 64) (m : Nat) (hm : m ≤ 24) : (x >>> m).setWidth 32 &&& 255#32 = (x.setWidth 32).sshiftRight m &&& 255#32 := by
  apply BitVec.eq_of_getLsbD_eq
  intro i hi
  simp only [BitVec.getLsbD_and, BitVec.getLsbD_setWidth, BitVec.getLsbD_ushiftRight, BitVec.getLsbD_sshiftRight]
  by_cases h8 : i < 8
  · simp [hi, show m + i < 32 by omega, show ¬ 32 ≤ i by omega]
  · have : (255#32).getLsbD i = false := by
      have e : (255#32).toNat = 2 ^ 8 - 1 := rfl
      rw [BitVec.getLsbD, e, Nat.testBit_two_pow_sub_one]
      simp [h8]
    rw [this]; simp
theorem ab_mt (v : Int64) : ∀ k, k < 8 → ab v k = mt v k := by
  have key : ∀ k m : Nat, m ≤ 56 → (((8 : Int32) * nI k).toInt64.toUInt64 &&& Int64.toUInt64 63).toBitVec % 64 = BitVec.ofNat 64 m → (((8 : Int32) * nI k).toInt64 &&& 63).toBitVec.smod 64 = BitVec.ofNat 64 m → ab v k = mt v k := by
    intro k m hm e1 e2
    apply Int32.toBitVec_inj.mp
    show (v.toBitVec >>> ((((8 : Int32) * nI k).toInt64.toUInt64 &&& Int64.toUInt64 63).toBitVec % 64)).signExtend 32 &&& 255#32 = (v.toBitVec.sshiftRight' ((((8 : Int32) * nI k).toInt64 &&& 63).toBitVec.smod 64)).signExtend 32 &&& 255#32
    rw [e1, e2]
    have em : (BitVec.ofNat 64 m).toNat = m := by rw [BitVec.toNat_ofNat]; exact Nat.mod_eq_of_lt (by omega)
    show (v.toBitVec >>> (BitVec.ofNat 64 m).toNat).signExtend 32 &&& 255#32 = (v.toBitVec.sshiftRight (BitVec.ofNat 64 m).toNat).signExtend 32 &&& 255#32
    rw [em, BitVec.signExtend_eq_setWidth_of_le _ (by decide), BitVec.signExtend_eq_setWidth_of_le _ (by decide)]
    exact bv_1 _ _ hm
  intro k hk
  rcases (show k = 0 ∨ k = 1 ∨ k = 2 ∨ k = 3 ∨ k = 4 ∨ k = 5 ∨ k = 6 ∨ k = 7 by omega) with rfl | rfl | rfl | rfl | rfl | rfl | rfl | rfl
  · exact key 0 0 (by decide) (by decide) (by decide)
  · exact key 1 8 (by decide) (by decide) (by decide)
  · exact key 2 16 (by decide) (by decide) (by decide)
  · exact key 3 24 (by decide) (by decide) (by decide)
  · exact key 4 32 (by decide) (by decide) (by decide)
  · exact key 5 40 (by decide) (by decide) (by decide)
  · exact key 6 48 (by decide) (by decide) (by decide)
  · exact key 7 56 (by decide) (by decide) (by decide)
theorem ab_mb (v : Int64) : ∀ k, k < 4 → ab v k = mb v.toInt32 k := by
  have key : ∀ k m : Nat, m ≤ 24 → (((8 : Int32) * nI k).toInt64.toUInt64 &&& Int64.toUInt64 63).toBitVec % 64 = BitVec.ofNat 64 m → (((8 : Int32) * nI k) &&& 31).toBitVec.smod 32 = BitVec.ofNat 32 m → ab v k = mb v.toInt32 k := by
    intro k m hm e1 e2
    apply Int32.toBitVec_inj.mp
    show (v.toBitVec >>> ((((8 : Int32) * nI k).toInt64.toUInt64 &&& Int64.toUInt64 63).toBitVec % 64)).signExtend 32 &&& 255#32 = (v.toBitVec.signExtend 32).sshiftRight' ((((8 : Int32) * nI k) &&& 31).toBitVec.smod 32) &&& 255#32
    rw [e1, e2]
    have em : (BitVec.ofNat 64 m).toNat = m := by rw [BitVec.toNat_ofNat]; exact Nat.mod_eq_of_lt (by omega)
    have em2 : (BitVec.ofNat 32 m).toNat = m := by rw [BitVec.toNat_ofNat]; exact Nat.mod_eq_of_lt (by omega)
    show (v.toBitVec >>> (BitVec.ofNat 64 m).toNat).signExtend 32 &&& 255#32 = (v.toBitVec.signExtend 32).sshiftRight (BitVec.ofNat 32 m).toNat &&& 255#32
    rw [em, em2, BitVec.signExtend_eq_setWidth_of_le _ (by decide), BitVec.signExtend_eq_setWidth_of_le _ (by decide)]
    exact bv_2 _ _ hm
  intro k hk
  rcases (show k = 0 ∨ k = 1 ∨ k = 2 ∨ k = 3 by omega) with rfl | rfl | rfl | rfl
  · exact key 0 0 (by decide) (by decide) (by decide)
  · exact key 1 8 (by decide) (by decide) (by decide)
  · exact key 2 16 (by decide) (by decide) (by decide)
  · exact key 3 24 (by decide) (by decide) (by decide)
theorem ab_mbI (x : Int32) {k : Nat} (hk : k < 4) : ab x.toInt64 k = mb x k := by
  rw [ab_mb _ k hk, Int32.toInt32_toInt64]
theorem mb_0 (x : Int32) : mb x 0 = x &&& 255 := by
  unfold mb
  have : (x >>> (((8 : Int32) * nI 0) &&& 31)) = x := by
    apply Int32.toInt_inj.mp
    rw [pk_shr x (((8 : Int32) * nI 0) &&& 31) 0 (by decide)]
    exact Int.shiftRight_zero _
  rw [this]
section AP
variable {hc hm : sd_H} {sz : Nat} {g : Nat → Nat}
theorem PK.put {x : Int32} {b : Nat} (p : PK hc hm sz g) (hs : sz < 300) (hx : x = nI b) (hb : b < 256) : PK (sd_pi (sd_pi hc 11 0 sz x) 1 0 1 (nI (sz + 1))) (sd_pi (sd_pi hm 19 0 sz x) 7 0 2 (nI (sz + 1))) (sz + 1) (fun i => if i = sz then b else g i) := by
  obtain ⟨p1, p2, p3, p4⟩ := p
  refine ⟨rfl, rfl, by omega, fun i hi => ?_⟩
  show (sd_pi hm 19 0 sz x).1 19 0 i = nI (if i = sz then b else g i) ∧ (sd_pi hc 11 0 sz x).1 11 0 i = nI (if i = sz then b else g i) ∧ (if i = sz then b else g i) < 256
  by_cases q : i = sz
  · rw [q, sd_pi_eq, sd_pi_eq, if_pos rfl]; exact ⟨hx, hx, hb⟩
  · rw [sd_pi_ne (fun z => q z.2.2), sd_pi_ne (fun z => q z.2.2), if_neg q]; exact p4 i hi
theorem PK.app {v : Int64} {b : Nat → Int32} : ∀ (n : Nat) (hc hm : sd_H) (sz : Nat) (g : Nat → Nat), PK hc hm sz g → sz + n ≤ 300 → (∀ k, k < n → ab v k = b k) → ∃ g', PK (pk_app v n hc sz) (mp_all b n hm sz) (sz + n) g'
  | 0, hc, hm, sz, g, p, _, _ => ⟨g, p⟩
  | n + 1, hc, hm, sz, g, p, hle, hb => by
    obtain ⟨j, hj, ej⟩ : ∃ j : Nat, j < 2 ^ 8 ∧ ab v n = nI j := pk_andE _ 8 (by decide)
    have p1 := p.put (x := ab v n) (by omega) ej hj
    have := PK.app (v := v) (b := b) n _ _ _ _ p1 (by omega) (fun k hk => hb k (by omega))
    obtain ⟨g', p'⟩ := this
    refine ⟨g', ?_⟩
    show PK (pk_app v n (sd_pi (sd_pi hc 11 0 sz (ab v n)) 1 0 1 (nI (sz + 1))) (sz + 1)) (mp_all b n (sd_pi (sd_pi hm 19 0 sz (b n)) 7 0 2 (nI (sz + 1))) (sz + 1)) (sz + (n + 1)) g'
    rw [← hb n (by omega), show sz + (n + 1) = sz + 1 + n by omega]
    exact p'
theorem mp_all_fx {b : Nat → Int32} {h : sd_H} {P : Nat → Nat → Nat → Prop} (hp : P 7 0 2) (hp2 : ∀ i, P 19 0 i) : ∀ (n : Nat) (hm : sd_H) (sz : Nat), Fx P h hm → Fx P h (mp_all b n hm sz)
  | 0, _, _, x => x
  | n + 1, hm, sz, x => mp_all_fx hp hp2 n _ _ ((x.pi (hp2 _)).pi hp)
theorem pk_app_fx {v : Int64} {h : sd_H} {P : Nat → Nat → Nat → Prop} (hp : P 1 0 1) (hp2 : ∀ i, P 11 0 i) : ∀ (n : Nat) (hc : sd_H) (sz : Nat), Fx P h hc → Fx P h (pk_app v n hc sz)
  | 0, _, _, x => x
  | n + 1, hc, sz, x => pk_app_fx hp hp2 n _ _ ((x.pi (hp2 _)).pi hp)
def PKc (T _k _i : Nat) : Prop := T = 1 ∨ T = 11
def PKm (T _k i : Nat) : Prop := (T = 7 ∧ i = 2) ∨ T = 19
theorem RR.pk {hc' hm' : sd_H} {sz' nw sn e t : Nat} {g' : Nat → Nat} (R : RR hc hm sz g nw sn e t) (x : Fx PKc hc hc') (z : Fx PKm hm hm') (p : PK hc' hm' sz' g') : RR hc' hm' sz' g' nw sn e (t + 1) := by
  obtain ⟨r1, r2, r3, r4, r5, r6, r7, r8⟩ := R
  have ma : ∀ s, MA hm hm' s := fun s => MA.fx z (fun T h1 h2 => by unfold PKm; omega) (fun T i h1 h2 h3 => by unfold PKm; omega) (fun i h1 h2 => by unfold PKm; omega)
  have ca : ∀ s, CA hc hc' s := fun s => CA.fx x (fun T i h => by unfold PKc; omega)
  exact ⟨p, r2.fx x z (fun T i h => by unfold PKc; omega) (fun i => by unfold PKm; omega) (fun i => by unfold PKm; omega) (fun i h => by unfold PKm; omega), r3.fx x (by unfold PKc; omega), r4.fx x, r5.cg (x.1 2 0 4 (by unfold PKc; omega)) (fun j => x.1 12 0 j (by unfold PKc; omega)) (fun j => x.1 13 0 j (by unfold PKc; omega)) (fun j => x.2.1 14 0 j (by unfold PKc; omega)) (fun j => x.1 15 0 j (by unfold PKc; omega)) (z.1 7 0 35 (by unfold PKm; omega)) (fun j => z.2.1 44 0 j (by unfold PKm; omega)), by omega, fun s hs => (r7 s hs).cg (ca s) (ma s) (Nat.le_refl _) (by omega), fun s h1 h2 => (r8 s h1 h2).cg (ma s)⟩
end AP
end
