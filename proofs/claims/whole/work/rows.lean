section
-- ===== PART A: goes FIRST, ahead of the names: the tables' words, and 'selects' of the private methods out of them =====
/-- a private method of a class that the tables say can be made, by its rows of tables_1 -/
def lw_okq (q : MethodName × Nat) : Prop := (q.1.cls ≠ "java/lang/invoke/MethodHandle" ∧ q.1.cls ≠ "java/lang/invoke/VarHandle") ∧ Cond.instantiable q.1.cls q.2 ∈ tables_1 ∧ Cond.privateMethod q.1 ∈ tables_1 ∧ Cond.instanceMethod q.1 ∈ tables_1
theorem lw_p0 : lw_okq (⟨"CounterDeals", "settle", "(I)I"⟩, 4) := ⟨⟨by decide +kernel, by decide +kernel⟩, List.mem_of_getElem? (i := 13) (by decide +kernel), List.mem_of_getElem? (i := 327) (by decide +kernel), List.mem_of_getElem? (i := 328) (by decide +kernel)⟩
theorem lw_p1 : lw_okq (⟨"CounterDeals", "answer", "(I)I"⟩, 4) := ⟨⟨by decide +kernel, by decide +kernel⟩, List.mem_of_getElem? (i := 13) (by decide +kernel), List.mem_of_getElem? (i := 339) (by decide +kernel), List.mem_of_getElem? (i := 340) (by decide +kernel)⟩
theorem lw_p2 : lw_okq (⟨"CounterDeals$State", "runSlice", "(I)V"⟩, 11) := ⟨⟨by decide +kernel, by decide +kernel⟩, List.mem_of_getElem? (i := 42) (by decide +kernel), List.mem_of_getElem? (i := 465) (by decide +kernel), List.mem_of_getElem? (i := 466) (by decide +kernel)⟩
theorem lw_p3 : lw_okq (⟨"CounterDeals$State", "watchersOf", "(I)I"⟩, 11) := ⟨⟨by decide +kernel, by decide +kernel⟩, List.mem_of_getElem? (i := 42) (by decide +kernel), List.mem_of_getElem? (i := 469) (by decide +kernel), List.mem_of_getElem? (i := 470) (by decide +kernel)⟩
theorem lw_p4 : lw_okq (⟨"CounterDeals$State", "dealCounters", "(I)V"⟩, 11) := ⟨⟨by decide +kernel, by decide +kernel⟩, List.mem_of_getElem? (i := 42) (by decide +kernel), List.mem_of_getElem? (i := 477) (by decide +kernel), List.mem_of_getElem? (i := 478) (by decide +kernel)⟩
theorem lw_p5 : lw_okq (⟨"CounterDeals$State", "showSeats", "()V"⟩, 11) := ⟨⟨by decide +kernel, by decide +kernel⟩, List.mem_of_getElem? (i := 42) (by decide +kernel), List.mem_of_getElem? (i := 503) (by decide +kernel), List.mem_of_getElem? (i := 504) (by decide +kernel)⟩
theorem lw_p6 : lw_okq (⟨"CounterDeals$State", "showSeatsOf", "(LCounterDeals$Group;I)I"⟩, 11) := ⟨⟨by decide +kernel, by decide +kernel⟩, List.mem_of_getElem? (i := 42) (by decide +kernel), List.mem_of_getElem? (i := 507) (by decide +kernel), List.mem_of_getElem? (i := 508) (by decide +kernel)⟩
theorem lw_p7 : lw_okq (⟨"CounterDeals$State", "countSlice", "(II)V"⟩, 11) := ⟨⟨by decide +kernel, by decide +kernel⟩, List.mem_of_getElem? (i := 42) (by decide +kernel), List.mem_of_getElem? (i := 511) (by decide +kernel), List.mem_of_getElem? (i := 512) (by decide +kernel)⟩
theorem lw_p8 : lw_okq (⟨"CounterDeals$State", "takeSamples", "(I)V"⟩, 11) := ⟨⟨by decide +kernel, by decide +kernel⟩, List.mem_of_getElem? (i := 42) (by decide +kernel), List.mem_of_getElem? (i := 523) (by decide +kernel), List.mem_of_getElem? (i := 524) (by decide +kernel)⟩
theorem lw_p9 : lw_okq (⟨"CounterDeals$Samples", "keep", "(III)V"⟩, 8) := ⟨⟨by decide +kernel, by decide +kernel⟩, List.mem_of_getElem? (i := 73) (by decide +kernel), List.mem_of_getElem? (i := 536) (by decide +kernel), List.mem_of_getElem? (i := 537) (by decide +kernel)⟩
theorem lw_p10 : lw_okq (⟨"CounterDeals$State", "takeTurn", "(I)V"⟩, 11) := ⟨⟨by decide +kernel, by decide +kernel⟩, List.mem_of_getElem? (i := 42) (by decide +kernel), List.mem_of_getElem? (i := 540) (by decide +kernel), List.mem_of_getElem? (i := 541) (by decide +kernel)⟩
theorem lw_p11 : lw_okq (⟨"CounterDeals$State", "moveToEnd", "(I)V"⟩, 11) := ⟨⟨by decide +kernel, by decide +kernel⟩, List.mem_of_getElem? (i := 42) (by decide +kernel), List.mem_of_getElem? (i := 544) (by decide +kernel), List.mem_of_getElem? (i := 545) (by decide +kernel)⟩
theorem lw_p12 : lw_okq (⟨"CounterDeals$State", "placeInLine", "(I)I"⟩, 11) := ⟨⟨by decide +kernel, by decide +kernel⟩, List.mem_of_getElem? (i := 42) (by decide +kernel), List.mem_of_getElem? (i := 564) (by decide +kernel), List.mem_of_getElem? (i := 565) (by decide +kernel)⟩
theorem lw_p13 : lw_okq (⟨"CounterDeals$State", "groupsOn", "()I"⟩, 11) := ⟨⟨by decide +kernel, by decide +kernel⟩, List.mem_of_getElem? (i := 42) (by decide +kernel), List.mem_of_getElem? (i := 668) (by decide +kernel), List.mem_of_getElem? (i := 669) (by decide +kernel)⟩
theorem lw_p14 : lw_okq (⟨"CounterDeals$Text", "readByte", "(I)Z"⟩, 8) := ⟨⟨by decide +kernel, by decide +kernel⟩, List.mem_of_getElem? (i := 238) (by decide +kernel), List.mem_of_getElem? (i := 693) (by decide +kernel), List.mem_of_getElem? (i := 694) (by decide +kernel)⟩
theorem lw_p15 : lw_okq (⟨"CounterDeals$Text", "readLetter", "(I)Z"⟩, 8) := ⟨⟨by decide +kernel, by decide +kernel⟩, List.mem_of_getElem? (i := 238) (by decide +kernel), List.mem_of_getElem? (i := 697) (by decide +kernel), List.mem_of_getElem? (i := 698) (by decide +kernel)⟩
def lw_privs_1 : List (MethodName × Nat) := [(⟨"CounterDeals", "settle", "(I)I"⟩, 4), (⟨"CounterDeals", "answer", "(I)I"⟩, 4), (⟨"CounterDeals$State", "runSlice", "(I)V"⟩, 11), (⟨"CounterDeals$State", "watchersOf", "(I)I"⟩, 11), (⟨"CounterDeals$State", "dealCounters", "(I)V"⟩, 11), (⟨"CounterDeals$State", "showSeats", "()V"⟩, 11), (⟨"CounterDeals$State", "showSeatsOf", "(LCounterDeals$Group;I)I"⟩, 11), (⟨"CounterDeals$State", "countSlice", "(II)V"⟩, 11), (⟨"CounterDeals$State", "takeSamples", "(I)V"⟩, 11), (⟨"CounterDeals$Samples", "keep", "(III)V"⟩, 8), (⟨"CounterDeals$State", "takeTurn", "(I)V"⟩, 11), (⟨"CounterDeals$State", "moveToEnd", "(I)V"⟩, 11), (⟨"CounterDeals$State", "placeInLine", "(I)I"⟩, 11), (⟨"CounterDeals$State", "groupsOn", "()I"⟩, 11), (⟨"CounterDeals$Text", "readByte", "(I)Z"⟩, 8), (⟨"CounterDeals$Text", "readLetter", "(I)Z"⟩, 8)]
theorem lw_r1 : ∀ q ∈ lw_privs_1, lw_okq q := List.forall_mem_cons.mpr ⟨lw_p0, List.forall_mem_cons.mpr ⟨lw_p1, List.forall_mem_cons.mpr ⟨lw_p2, List.forall_mem_cons.mpr ⟨lw_p3, List.forall_mem_cons.mpr ⟨lw_p4, List.forall_mem_cons.mpr ⟨lw_p5, List.forall_mem_cons.mpr ⟨lw_p6, List.forall_mem_cons.mpr ⟨lw_p7, List.forall_mem_cons.mpr ⟨lw_p8, List.forall_mem_cons.mpr ⟨lw_p9, List.forall_mem_cons.mpr ⟨lw_p10, List.forall_mem_cons.mpr ⟨lw_p11, List.forall_mem_cons.mpr ⟨lw_p12, List.forall_mem_cons.mpr ⟨lw_p13, List.forall_mem_cons.mpr ⟨lw_p14, List.forall_mem_cons.mpr ⟨lw_p15, fun _ h => absurd h List.not_mem_nil⟩⟩⟩⟩⟩⟩⟩⟩⟩⟩⟩⟩⟩⟩⟩⟩
theorem lw_p16 : lw_okq (⟨"CounterDeals$Text", "readFigure", "(I)Z"⟩, 8) := ⟨⟨by decide +kernel, by decide +kernel⟩, List.mem_of_getElem? (i := 238) (by decide +kernel), List.mem_of_getElem? (i := 704) (by decide +kernel), List.mem_of_getElem? (i := 705) (by decide +kernel)⟩
theorem lw_p17 : lw_okq (⟨"CounterDeals$Text", "readFirstFigure", "(I)Z"⟩, 8) := ⟨⟨by decide +kernel, by decide +kernel⟩, List.mem_of_getElem? (i := 238) (by decide +kernel), List.mem_of_getElem? (i := 708) (by decide +kernel), List.mem_of_getElem? (i := 709) (by decide +kernel)⟩
theorem lw_p18 : lw_okq (⟨"CounterDeals$Text", "readEnd", "()Z"⟩, 8) := ⟨⟨by decide +kernel, by decide +kernel⟩, List.mem_of_getElem? (i := 238) (by decide +kernel), List.mem_of_getElem? (i := 712) (by decide +kernel), List.mem_of_getElem? (i := 713) (by decide +kernel)⟩
theorem lw_p19 : lw_okq (⟨"CounterDeals", "carryOut", "(I)I"⟩, 4) := ⟨⟨by decide +kernel, by decide +kernel⟩, List.mem_of_getElem? (i := 13) (by decide +kernel), List.mem_of_getElem? (i := 719) (by decide +kernel), List.mem_of_getElem? (i := 720) (by decide +kernel)⟩
theorem lw_p20 : lw_okq (⟨"CounterDeals", "carryOutGroup", "(I)I"⟩, 4) := ⟨⟨by decide +kernel, by decide +kernel⟩, List.mem_of_getElem? (i := 13) (by decide +kernel), List.mem_of_getElem? (i := 735) (by decide +kernel), List.mem_of_getElem? (i := 736) (by decide +kernel)⟩
theorem lw_p21 : lw_okq (⟨"CounterDeals", "refusedFact", "(I)I"⟩, 4) := ⟨⟨by decide +kernel, by decide +kernel⟩, List.mem_of_getElem? (i := 13) (by decide +kernel), List.mem_of_getElem? (i := 756) (by decide +kernel), List.mem_of_getElem? (i := 757) (by decide +kernel)⟩
theorem lw_p22 : lw_okq (⟨"CounterDeals", "mixedTask", "(JI)J"⟩, 4) := ⟨⟨by decide +kernel, by decide +kernel⟩, List.mem_of_getElem? (i := 13) (by decide +kernel), List.mem_of_getElem? (i := 769) (by decide +kernel), List.mem_of_getElem? (i := 770) (by decide +kernel)⟩
theorem lw_p23 : lw_okq (⟨"CounterDeals", "mixedGroup", "(JI)J"⟩, 4) := ⟨⟨by decide +kernel, by decide +kernel⟩, List.mem_of_getElem? (i := 13) (by decide +kernel), List.mem_of_getElem? (i := 774) (by decide +kernel), List.mem_of_getElem? (i := 775) (by decide +kernel)⟩
theorem lw_p24 : lw_okq (⟨"CounterDeals", "mixedEvent", "(JII)J"⟩, 4) := ⟨⟨by decide +kernel, by decide +kernel⟩, List.mem_of_getElem? (i := 13) (by decide +kernel), List.mem_of_getElem? (i := 778) (by decide +kernel), List.mem_of_getElem? (i := 779) (by decide +kernel)⟩
theorem lw_p25 : lw_okq (⟨"CounterDealsModel", "no", "()I"⟩, 18) := ⟨⟨by decide +kernel, by decide +kernel⟩, List.mem_of_getElem? (i := 782) (by decide +kernel), List.mem_of_getElem? (i := 847) (by decide +kernel), List.mem_of_getElem? (i := 848) (by decide +kernel)⟩
theorem lw_p26 : lw_okq (⟨"CounterDealsModel", "bad", "()I"⟩, 18) := ⟨⟨by decide +kernel, by decide +kernel⟩, List.mem_of_getElem? (i := 782) (by decide +kernel), List.mem_of_getElem? (i := 858) (by decide +kernel), List.mem_of_getElem? (i := 859) (by decide +kernel)⟩
theorem lw_p27 : lw_okq (⟨"CounterDealsModel", "remembers", "()V"⟩, 18) := ⟨⟨by decide +kernel, by decide +kernel⟩, List.mem_of_getElem? (i := 782) (by decide +kernel), List.mem_of_getElem? (i := 862) (by decide +kernel), List.mem_of_getElem? (i := 863) (by decide +kernel)⟩
theorem lw_p28 : lw_okq (⟨"CounterDealsModel", "exchanges", "(II)I"⟩, 18) := ⟨⟨by decide +kernel, by decide +kernel⟩, List.mem_of_getElem? (i := 782) (by decide +kernel), List.mem_of_getElem? (i := 866) (by decide +kernel), List.mem_of_getElem? (i := 867) (by decide +kernel)⟩
theorem lw_p29 : lw_okq (⟨"CounterDealsModel", "canRate", "(III)Z"⟩, 18) := ⟨⟨by decide +kernel, by decide +kernel⟩, List.mem_of_getElem? (i := 782) (by decide +kernel), List.mem_of_getElem? (i := 884) (by decide +kernel), List.mem_of_getElem? (i := 885) (by decide +kernel)⟩
theorem lw_p30 : lw_okq (⟨"CounterDealsModel", "isTask", "(I)Z"⟩, 18) := ⟨⟨by decide +kernel, by decide +kernel⟩, List.mem_of_getElem? (i := 782) (by decide +kernel), List.mem_of_getElem? (i := 888) (by decide +kernel), List.mem_of_getElem? (i := 889) (by decide +kernel)⟩
theorem lw_p31 : lw_okq (⟨"CounterDealsModel", "hasEnded", "(I)Z"⟩, 18) := ⟨⟨by decide +kernel, by decide +kernel⟩, List.mem_of_getElem? (i := 782) (by decide +kernel), List.mem_of_getElem? (i := 899) (by decide +kernel), List.mem_of_getElem? (i := 900) (by decide +kernel)⟩
def lw_privs_2 : List (MethodName × Nat) := [(⟨"CounterDeals$Text", "readFigure", "(I)Z"⟩, 8), (⟨"CounterDeals$Text", "readFirstFigure", "(I)Z"⟩, 8), (⟨"CounterDeals$Text", "readEnd", "()Z"⟩, 8), (⟨"CounterDeals", "carryOut", "(I)I"⟩, 4), (⟨"CounterDeals", "carryOutGroup", "(I)I"⟩, 4), (⟨"CounterDeals", "refusedFact", "(I)I"⟩, 4), (⟨"CounterDeals", "mixedTask", "(JI)J"⟩, 4), (⟨"CounterDeals", "mixedGroup", "(JI)J"⟩, 4), (⟨"CounterDeals", "mixedEvent", "(JII)J"⟩, 4), (⟨"CounterDealsModel", "no", "()I"⟩, 18), (⟨"CounterDealsModel", "bad", "()I"⟩, 18), (⟨"CounterDealsModel", "remembers", "()V"⟩, 18), (⟨"CounterDealsModel", "exchanges", "(II)I"⟩, 18), (⟨"CounterDealsModel", "canRate", "(III)Z"⟩, 18), (⟨"CounterDealsModel", "isTask", "(I)Z"⟩, 18), (⟨"CounterDealsModel", "hasEnded", "(I)Z"⟩, 18)]
theorem lw_r2 : ∀ q ∈ lw_privs_2, lw_okq q := List.forall_mem_cons.mpr ⟨lw_p16, List.forall_mem_cons.mpr ⟨lw_p17, List.forall_mem_cons.mpr ⟨lw_p18, List.forall_mem_cons.mpr ⟨lw_p19, List.forall_mem_cons.mpr ⟨lw_p20, List.forall_mem_cons.mpr ⟨lw_p21, List.forall_mem_cons.mpr ⟨lw_p22, List.forall_mem_cons.mpr ⟨lw_p23, List.forall_mem_cons.mpr ⟨lw_p24, List.forall_mem_cons.mpr ⟨lw_p25, List.forall_mem_cons.mpr ⟨lw_p26, List.forall_mem_cons.mpr ⟨lw_p27, List.forall_mem_cons.mpr ⟨lw_p28, List.forall_mem_cons.mpr ⟨lw_p29, List.forall_mem_cons.mpr ⟨lw_p30, List.forall_mem_cons.mpr ⟨lw_p31, fun _ h => absurd h List.not_mem_nil⟩⟩⟩⟩⟩⟩⟩⟩⟩⟩⟩⟩⟩⟩⟩⟩
theorem lw_p32 : lw_okq (⟨"CounterDealsModel", "full", "()I"⟩, 18) := ⟨⟨by decide +kernel, by decide +kernel⟩, List.mem_of_getElem? (i := 782) (by decide +kernel), List.mem_of_getElem? (i := 903) (by decide +kernel), List.mem_of_getElem? (i := 904) (by decide +kernel)⟩
theorem lw_p33 : lw_okq (⟨"CounterDealsModel", "comesOf", "(I)I"⟩, 18) := ⟨⟨by decide +kernel, by decide +kernel⟩, List.mem_of_getElem? (i := 782) (by decide +kernel), List.mem_of_getElem? (i := 907) (by decide +kernel), List.mem_of_getElem? (i := 908) (by decide +kernel)⟩
theorem lw_p34 : lw_okq (⟨"CounterDealsModel", "rateOf", "(II)I"⟩, 18) := ⟨⟨by decide +kernel, by decide +kernel⟩, List.mem_of_getElem? (i := 782) (by decide +kernel), List.mem_of_getElem? (i := 911) (by decide +kernel), List.mem_of_getElem? (i := 912) (by decide +kernel)⟩
theorem lw_p35 : lw_okq (⟨"CounterDealsModel", "canEnd", "(I)Z"⟩, 18) := ⟨⟨by decide +kernel, by decide +kernel⟩, List.mem_of_getElem? (i := 782) (by decide +kernel), List.mem_of_getElem? (i := 919) (by decide +kernel), List.mem_of_getElem? (i := 920) (by decide +kernel)⟩
theorem lw_p36 : lw_okq (⟨"CounterDealsModel", "moves", "(II)V"⟩, 18) := ⟨⟨by decide +kernel, by decide +kernel⟩, List.mem_of_getElem? (i := 782) (by decide +kernel), List.mem_of_getElem? (i := 926) (by decide +kernel), List.mem_of_getElem? (i := 927) (by decide +kernel)⟩
theorem lw_p37 : lw_okq (⟨"CounterDealsModel", "ofGroup", "(II)I"⟩, 18) := ⟨⟨by decide +kernel, by decide +kernel⟩, List.mem_of_getElem? (i := 782) (by decide +kernel), List.mem_of_getElem? (i := 930) (by decide +kernel), List.mem_of_getElem? (i := 931) (by decide +kernel)⟩
theorem lw_p38 : lw_okq (⟨"CounterDealsModel", "canGroup", "(IIIII)Z"⟩, 18) := ⟨⟨by decide +kernel, by decide +kernel⟩, List.mem_of_getElem? (i := 782) (by decide +kernel), List.mem_of_getElem? (i := 941) (by decide +kernel), List.mem_of_getElem? (i := 942) (by decide +kernel)⟩
theorem lw_p39 : lw_okq (⟨"CounterDealsModel", "comesGroup", "(IIIII)I"⟩, 18) := ⟨⟨by decide +kernel, by decide +kernel⟩, List.mem_of_getElem? (i := 782) (by decide +kernel), List.mem_of_getElem? (i := 945) (by decide +kernel), List.mem_of_getElem? (i := 946) (by decide +kernel)⟩
theorem lw_p40 : lw_okq (⟨"CounterDealsModel", "addsEvent", "(II)I"⟩, 18) := ⟨⟨by decide +kernel, by decide +kernel⟩, List.mem_of_getElem? (i := 782) (by decide +kernel), List.mem_of_getElem? (i := 949) (by decide +kernel), List.mem_of_getElem? (i := 950) (by decide +kernel)⟩
theorem lw_p41 : lw_okq (⟨"CounterDealsModel", "isGroup", "(I)Z"⟩, 18) := ⟨⟨by decide +kernel, by decide +kernel⟩, List.mem_of_getElem? (i := 782) (by decide +kernel), List.mem_of_getElem? (i := 960) (by decide +kernel), List.mem_of_getElem? (i := 961) (by decide +kernel)⟩
theorem lw_p42 : lw_okq (⟨"CounterDealsModel", "isRun", "(II)Z"⟩, 18) := ⟨⟨by decide +kernel, by decide +kernel⟩, List.mem_of_getElem? (i := 782) (by decide +kernel), List.mem_of_getElem? (i := 980) (by decide +kernel), List.mem_of_getElem? (i := 981) (by decide +kernel)⟩
theorem lw_p43 : lw_okq (⟨"CounterDealsModel", "goes", "(II)I"⟩, 18) := ⟨⟨by decide +kernel, by decide +kernel⟩, List.mem_of_getElem? (i := 782) (by decide +kernel), List.mem_of_getElem? (i := 984) (by decide +kernel), List.mem_of_getElem? (i := 985) (by decide +kernel)⟩
theorem lw_p44 : lw_okq (⟨"CounterDealsModel", "watchers", "(I)I"⟩, 18) := ⟨⟨by decide +kernel, by decide +kernel⟩, List.mem_of_getElem? (i := 782) (by decide +kernel), List.mem_of_getElem? (i := 988) (by decide +kernel), List.mem_of_getElem? (i := 989) (by decide +kernel)⟩
theorem lw_p45 : lw_okq (⟨"CounterDealsModel", "isOf", "(II)Z"⟩, 18) := ⟨⟨by decide +kernel, by decide +kernel⟩, List.mem_of_getElem? (i := 782) (by decide +kernel), List.mem_of_getElem? (i := 992) (by decide +kernel), List.mem_of_getElem? (i := 993) (by decide +kernel)⟩
theorem lw_p46 : lw_okq (⟨"CounterDealsModel", "joins", "(I)V"⟩, 18) := ⟨⟨by decide +kernel, by decide +kernel⟩, List.mem_of_getElem? (i := 782) (by decide +kernel), List.mem_of_getElem? (i := 996) (by decide +kernel), List.mem_of_getElem? (i := 997) (by decide +kernel)⟩
theorem lw_p47 : lw_okq (⟨"CounterDealsModel", "clears", "()V"⟩, 18) := ⟨⟨by decide +kernel, by decide +kernel⟩, List.mem_of_getElem? (i := 782) (by decide +kernel), List.mem_of_getElem? (i := 1000) (by decide +kernel), List.mem_of_getElem? (i := 1001) (by decide +kernel)⟩
def lw_privs_3 : List (MethodName × Nat) := [(⟨"CounterDealsModel", "full", "()I"⟩, 18), (⟨"CounterDealsModel", "comesOf", "(I)I"⟩, 18), (⟨"CounterDealsModel", "rateOf", "(II)I"⟩, 18), (⟨"CounterDealsModel", "canEnd", "(I)Z"⟩, 18), (⟨"CounterDealsModel", "moves", "(II)V"⟩, 18), (⟨"CounterDealsModel", "ofGroup", "(II)I"⟩, 18), (⟨"CounterDealsModel", "canGroup", "(IIIII)Z"⟩, 18), (⟨"CounterDealsModel", "comesGroup", "(IIIII)I"⟩, 18), (⟨"CounterDealsModel", "addsEvent", "(II)I"⟩, 18), (⟨"CounterDealsModel", "isGroup", "(I)Z"⟩, 18), (⟨"CounterDealsModel", "isRun", "(II)Z"⟩, 18), (⟨"CounterDealsModel", "goes", "(II)I"⟩, 18), (⟨"CounterDealsModel", "watchers", "(I)I"⟩, 18), (⟨"CounterDealsModel", "isOf", "(II)Z"⟩, 18), (⟨"CounterDealsModel", "joins", "(I)V"⟩, 18), (⟨"CounterDealsModel", "clears", "()V"⟩, 18)]
theorem lw_r3 : ∀ q ∈ lw_privs_3, lw_okq q := List.forall_mem_cons.mpr ⟨lw_p32, List.forall_mem_cons.mpr ⟨lw_p33, List.forall_mem_cons.mpr ⟨lw_p34, List.forall_mem_cons.mpr ⟨lw_p35, List.forall_mem_cons.mpr ⟨lw_p36, List.forall_mem_cons.mpr ⟨lw_p37, List.forall_mem_cons.mpr ⟨lw_p38, List.forall_mem_cons.mpr ⟨lw_p39, List.forall_mem_cons.mpr ⟨lw_p40, List.forall_mem_cons.mpr ⟨lw_p41, List.forall_mem_cons.mpr ⟨lw_p42, List.forall_mem_cons.mpr ⟨lw_p43, List.forall_mem_cons.mpr ⟨lw_p44, List.forall_mem_cons.mpr ⟨lw_p45, List.forall_mem_cons.mpr ⟨lw_p46, List.forall_mem_cons.mpr ⟨lw_p47, fun _ h => absurd h List.not_mem_nil⟩⟩⟩⟩⟩⟩⟩⟩⟩⟩⟩⟩⟩⟩⟩⟩
theorem lw_p48 : lw_okq (⟨"CounterDealsModel", "isJoined", "(I)Z"⟩, 18) := ⟨⟨by decide +kernel, by decide +kernel⟩, List.mem_of_getElem? (i := 782) (by decide +kernel), List.mem_of_getElem? (i := 1007) (by decide +kernel), List.mem_of_getElem? (i := 1008) (by decide +kernel)⟩
theorem lw_p49 : lw_okq (⟨"CounterDealsModel", "canSit", "()Z"⟩, 18) := ⟨⟨by decide +kernel, by decide +kernel⟩, List.mem_of_getElem? (i := 782) (by decide +kernel), List.mem_of_getElem? (i := 1011) (by decide +kernel), List.mem_of_getElem? (i := 1012) (by decide +kernel)⟩
theorem lw_p50 : lw_okq (⟨"CounterDealsModel", "isRow", "(I)Z"⟩, 18) := ⟨⟨by decide +kernel, by decide +kernel⟩, List.mem_of_getElem? (i := 782) (by decide +kernel), List.mem_of_getElem? (i := 1015) (by decide +kernel), List.mem_of_getElem? (i := 1016) (by decide +kernel)⟩
theorem lw_p51 : lw_okq (⟨"CounterDealsModel", "counts", "(II)V"⟩, 18) := ⟨⟨by decide +kernel, by decide +kernel⟩, List.mem_of_getElem? (i := 782) (by decide +kernel), List.mem_of_getElem? (i := 1019) (by decide +kernel), List.mem_of_getElem? (i := 1020) (by decide +kernel)⟩
theorem lw_p52 : lw_okq (⟨"CounterDealsModel", "samplesCome", "(I)V"⟩, 18) := ⟨⟨by decide +kernel, by decide +kernel⟩, List.mem_of_getElem? (i := 782) (by decide +kernel), List.mem_of_getElem? (i := 1023) (by decide +kernel), List.mem_of_getElem? (i := 1024) (by decide +kernel)⟩
theorem lw_p53 : lw_okq (⟨"CounterDealsModel", "tellsDue", "(I)V"⟩, 18) := ⟨⟨by decide +kernel, by decide +kernel⟩, List.mem_of_getElem? (i := 782) (by decide +kernel), List.mem_of_getElem? (i := 1027) (by decide +kernel), List.mem_of_getElem? (i := 1028) (by decide +kernel)⟩
theorem lw_p54 : lw_okq (⟨"CounterDealsModel", "tellsOne", "(II)V"⟩, 18) := ⟨⟨by decide +kernel, by decide +kernel⟩, List.mem_of_getElem? (i := 782) (by decide +kernel), List.mem_of_getElem? (i := 1031) (by decide +kernel), List.mem_of_getElem? (i := 1032) (by decide +kernel)⟩
theorem lw_p55 : lw_okq (⟨"CounterDealsModel", "turns", "(I)V"⟩, 18) := ⟨⟨by decide +kernel, by decide +kernel⟩, List.mem_of_getElem? (i := 782) (by decide +kernel), List.mem_of_getElem? (i := 1035) (by decide +kernel), List.mem_of_getElem? (i := 1036) (by decide +kernel)⟩
theorem lw_p56 : lw_okq (⟨"CounterDealsModel", "aboutTask", "(II)I"⟩, 18) := ⟨⟨by decide +kernel, by decide +kernel⟩, List.mem_of_getElem? (i := 782) (by decide +kernel), List.mem_of_getElem? (i := 1043) (by decide +kernel), List.mem_of_getElem? (i := 1044) (by decide +kernel)⟩
theorem lw_p57 : lw_okq (⟨"CounterDealsModel", "aboutGroup", "(II)I"⟩, 18) := ⟨⟨by decide +kernel, by decide +kernel⟩, List.mem_of_getElem? (i := 782) (by decide +kernel), List.mem_of_getElem? (i := 1051) (by decide +kernel), List.mem_of_getElem? (i := 1052) (by decide +kernel)⟩
theorem lw_p58 : lw_okq (⟨"CounterDealsModel", "placeOf", "(I)I"⟩, 18) := ⟨⟨by decide +kernel, by decide +kernel⟩, List.mem_of_getElem? (i := 782) (by decide +kernel), List.mem_of_getElem? (i := 1055) (by decide +kernel), List.mem_of_getElem? (i := 1056) (by decide +kernel)⟩
theorem lw_p59 : lw_okq (⟨"CounterDealsModel", "isEvent", "(II)Z"⟩, 18) := ⟨⟨by decide +kernel, by decide +kernel⟩, List.mem_of_getElem? (i := 782) (by decide +kernel), List.mem_of_getElem? (i := 1063) (by decide +kernel), List.mem_of_getElem? (i := 1064) (by decide +kernel)⟩
theorem lw_p60 : lw_okq (⟨"CounterDealsModel", "sumAt", "(II)I"⟩, 18) := ⟨⟨by decide +kernel, by decide +kernel⟩, List.mem_of_getElem? (i := 782) (by decide +kernel), List.mem_of_getElem? (i := 1071) (by decide +kernel), List.mem_of_getElem? (i := 1072) (by decide +kernel)⟩
theorem lw_p61 : lw_okq (⟨"CounterDealsModel", "scaledOf", "(III)I"⟩, 18) := ⟨⟨by decide +kernel, by decide +kernel⟩, List.mem_of_getElem? (i := 782) (by decide +kernel), List.mem_of_getElem? (i := 1083) (by decide +kernel), List.mem_of_getElem? (i := 1084) (by decide +kernel)⟩
theorem lw_p62 : lw_okq (⟨"CounterDealsModel", "fitOf", "(I)I"⟩, 18) := ⟨⟨by decide +kernel, by decide +kernel⟩, List.mem_of_getElem? (i := 782) (by decide +kernel), List.mem_of_getElem? (i := 1091) (by decide +kernel), List.mem_of_getElem? (i := 1092) (by decide +kernel)⟩
theorem lw_p63 : lw_okq (⟨"CounterDealsModel", "toldOf", "(I)I"⟩, 18) := ⟨⟨by decide +kernel, by decide +kernel⟩, List.mem_of_getElem? (i := 782) (by decide +kernel), List.mem_of_getElem? (i := 1107) (by decide +kernel), List.mem_of_getElem? (i := 1108) (by decide +kernel)⟩
def lw_privs_4 : List (MethodName × Nat) := [(⟨"CounterDealsModel", "isJoined", "(I)Z"⟩, 18), (⟨"CounterDealsModel", "canSit", "()Z"⟩, 18), (⟨"CounterDealsModel", "isRow", "(I)Z"⟩, 18), (⟨"CounterDealsModel", "counts", "(II)V"⟩, 18), (⟨"CounterDealsModel", "samplesCome", "(I)V"⟩, 18), (⟨"CounterDealsModel", "tellsDue", "(I)V"⟩, 18), (⟨"CounterDealsModel", "tellsOne", "(II)V"⟩, 18), (⟨"CounterDealsModel", "turns", "(I)V"⟩, 18), (⟨"CounterDealsModel", "aboutTask", "(II)I"⟩, 18), (⟨"CounterDealsModel", "aboutGroup", "(II)I"⟩, 18), (⟨"CounterDealsModel", "placeOf", "(I)I"⟩, 18), (⟨"CounterDealsModel", "isEvent", "(II)Z"⟩, 18), (⟨"CounterDealsModel", "sumAt", "(II)I"⟩, 18), (⟨"CounterDealsModel", "scaledOf", "(III)I"⟩, 18), (⟨"CounterDealsModel", "fitOf", "(I)I"⟩, 18), (⟨"CounterDealsModel", "toldOf", "(I)I"⟩, 18)]
theorem lw_r4 : ∀ q ∈ lw_privs_4, lw_okq q := List.forall_mem_cons.mpr ⟨lw_p48, List.forall_mem_cons.mpr ⟨lw_p49, List.forall_mem_cons.mpr ⟨lw_p50, List.forall_mem_cons.mpr ⟨lw_p51, List.forall_mem_cons.mpr ⟨lw_p52, List.forall_mem_cons.mpr ⟨lw_p53, List.forall_mem_cons.mpr ⟨lw_p54, List.forall_mem_cons.mpr ⟨lw_p55, List.forall_mem_cons.mpr ⟨lw_p56, List.forall_mem_cons.mpr ⟨lw_p57, List.forall_mem_cons.mpr ⟨lw_p58, List.forall_mem_cons.mpr ⟨lw_p59, List.forall_mem_cons.mpr ⟨lw_p60, List.forall_mem_cons.mpr ⟨lw_p61, List.forall_mem_cons.mpr ⟨lw_p62, List.forall_mem_cons.mpr ⟨lw_p63, fun _ h => absurd h List.not_mem_nil⟩⟩⟩⟩⟩⟩⟩⟩⟩⟩⟩⟩⟩⟩⟩⟩
theorem lw_p64 : lw_okq (⟨"CounterDealsModel", "onNow", "()I"⟩, 18) := ⟨⟨by decide +kernel, by decide +kernel⟩, List.mem_of_getElem? (i := 782) (by decide +kernel), List.mem_of_getElem? (i := 1111) (by decide +kernel), List.mem_of_getElem? (i := 1112) (by decide +kernel)⟩
theorem lw_p65 : lw_okq (⟨"CounterDealsModel", "isRead", "()Z"⟩, 18) := ⟨⟨by decide +kernel, by decide +kernel⟩, List.mem_of_getElem? (i := 782) (by decide +kernel), List.mem_of_getElem? (i := 1127) (by decide +kernel), List.mem_of_getElem? (i := 1128) (by decide +kernel)⟩
theorem lw_p66 : lw_okq (⟨"CounterDealsModel", "blanks", "()V"⟩, 18) := ⟨⟨by decide +kernel, by decide +kernel⟩, List.mem_of_getElem? (i := 782) (by decide +kernel), List.mem_of_getElem? (i := 1131) (by decide +kernel), List.mem_of_getElem? (i := 1132) (by decide +kernel)⟩
theorem lw_p67 : lw_okq (⟨"CounterDealsModel", "isAt", "(II)Z"⟩, 18) := ⟨⟨by decide +kernel, by decide +kernel⟩, List.mem_of_getElem? (i := 782) (by decide +kernel), List.mem_of_getElem? (i := 1135) (by decide +kernel), List.mem_of_getElem? (i := 1136) (by decide +kernel)⟩
theorem lw_p68 : lw_okq (⟨"CounterDealsModel", "takesOrder", "()Z"⟩, 18) := ⟨⟨by decide +kernel, by decide +kernel⟩, List.mem_of_getElem? (i := 782) (by decide +kernel), List.mem_of_getElem? (i := 1139) (by decide +kernel), List.mem_of_getElem? (i := 1140) (by decide +kernel)⟩
theorem lw_p69 : lw_okq (⟨"CounterDealsModel", "fails", "(I)Z"⟩, 18) := ⟨⟨by decide +kernel, by decide +kernel⟩, List.mem_of_getElem? (i := 782) (by decide +kernel), List.mem_of_getElem? (i := 1146) (by decide +kernel), List.mem_of_getElem? (i := 1147) (by decide +kernel)⟩
theorem lw_p70 : lw_okq (⟨"CounterDealsModel", "takesNumber", "(I)Z"⟩, 18) := ⟨⟨by decide +kernel, by decide +kernel⟩, List.mem_of_getElem? (i := 782) (by decide +kernel), List.mem_of_getElem? (i := 1150) (by decide +kernel), List.mem_of_getElem? (i := 1151) (by decide +kernel)⟩
theorem lw_p71 : lw_okq (⟨"CounterDealsModel", "obeys", "(I)Z"⟩, 18) := ⟨⟨by decide +kernel, by decide +kernel⟩, List.mem_of_getElem? (i := 782) (by decide +kernel), List.mem_of_getElem? (i := 1154) (by decide +kernel), List.mem_of_getElem? (i := 1155) (by decide +kernel)⟩
theorem lw_p72 : lw_okq (⟨"CounterDealsModel", "puts", "(ZII)Z"⟩, 18) := ⟨⟨by decide +kernel, by decide +kernel⟩, List.mem_of_getElem? (i := 782) (by decide +kernel), List.mem_of_getElem? (i := 1158) (by decide +kernel), List.mem_of_getElem? (i := 1159) (by decide +kernel)⟩
theorem lw_p73 : lw_okq (⟨"CounterDealsModel", "groupTold", "(II)Z"⟩, 18) := ⟨⟨by decide +kernel, by decide +kernel⟩, List.mem_of_getElem? (i := 782) (by decide +kernel), List.mem_of_getElem? (i := 1162) (by decide +kernel), List.mem_of_getElem? (i := 1163) (by decide +kernel)⟩
theorem lw_p74 : lw_okq (⟨"CounterDealsModel", "swapsAside", "()V"⟩, 18) := ⟨⟨by decide +kernel, by decide +kernel⟩, List.mem_of_getElem? (i := 782) (by decide +kernel), List.mem_of_getElem? (i := 1166) (by decide +kernel), List.mem_of_getElem? (i := 1167) (by decide +kernel)⟩
theorem lw_p75 : lw_okq (⟨"CounterDealsModel", "refusedOf", "(I)I"⟩, 18) := ⟨⟨by decide +kernel, by decide +kernel⟩, List.mem_of_getElem? (i := 782) (by decide +kernel), List.mem_of_getElem? (i := 1174) (by decide +kernel), List.mem_of_getElem? (i := 1175) (by decide +kernel)⟩
theorem lw_p76 : lw_okq (⟨"CounterDealsModel", "mix", "(J)V"⟩, 18) := ⟨⟨by decide +kernel, by decide +kernel⟩, List.mem_of_getElem? (i := 782) (by decide +kernel), List.mem_of_getElem? (i := 1183) (by decide +kernel), List.mem_of_getElem? (i := 1184) (by decide +kernel)⟩
theorem lw_p77 : lw_okq (⟨"CounterDealsModel", "mixGroup", "(I)V"⟩, 18) := ⟨⟨by decide +kernel, by decide +kernel⟩, List.mem_of_getElem? (i := 782) (by decide +kernel), List.mem_of_getElem? (i := 1188) (by decide +kernel), List.mem_of_getElem? (i := 1189) (by decide +kernel)⟩
def lw_privs_5 : List (MethodName × Nat) := [(⟨"CounterDealsModel", "onNow", "()I"⟩, 18), (⟨"CounterDealsModel", "isRead", "()Z"⟩, 18), (⟨"CounterDealsModel", "blanks", "()V"⟩, 18), (⟨"CounterDealsModel", "isAt", "(II)Z"⟩, 18), (⟨"CounterDealsModel", "takesOrder", "()Z"⟩, 18), (⟨"CounterDealsModel", "fails", "(I)Z"⟩, 18), (⟨"CounterDealsModel", "takesNumber", "(I)Z"⟩, 18), (⟨"CounterDealsModel", "obeys", "(I)Z"⟩, 18), (⟨"CounterDealsModel", "puts", "(ZII)Z"⟩, 18), (⟨"CounterDealsModel", "groupTold", "(II)Z"⟩, 18), (⟨"CounterDealsModel", "swapsAside", "()V"⟩, 18), (⟨"CounterDealsModel", "refusedOf", "(I)I"⟩, 18), (⟨"CounterDealsModel", "mix", "(J)V"⟩, 18), (⟨"CounterDealsModel", "mixGroup", "(I)V"⟩, 18)]
theorem lw_r5 : ∀ q ∈ lw_privs_5, lw_okq q := List.forall_mem_cons.mpr ⟨lw_p64, List.forall_mem_cons.mpr ⟨lw_p65, List.forall_mem_cons.mpr ⟨lw_p66, List.forall_mem_cons.mpr ⟨lw_p67, List.forall_mem_cons.mpr ⟨lw_p68, List.forall_mem_cons.mpr ⟨lw_p69, List.forall_mem_cons.mpr ⟨lw_p70, List.forall_mem_cons.mpr ⟨lw_p71, List.forall_mem_cons.mpr ⟨lw_p72, List.forall_mem_cons.mpr ⟨lw_p73, List.forall_mem_cons.mpr ⟨lw_p74, List.forall_mem_cons.mpr ⟨lw_p75, List.forall_mem_cons.mpr ⟨lw_p76, List.forall_mem_cons.mpr ⟨lw_p77, fun _ h => absurd h List.not_mem_nil⟩⟩⟩⟩⟩⟩⟩⟩⟩⟩⟩⟩⟩⟩
def lw_privs : List (MethodName × Nat) := lw_privs_1 ++ (lw_privs_2 ++ (lw_privs_3 ++ (lw_privs_4 ++ (lw_privs_5))))
def lw_tbl : List Cond := k2_sels lw_privs ++ tables_1
theorem lw_privs_ok : ∀ q ∈ lw_privs, lw_okq q := by
  show ∀ q ∈ lw_privs_1 ++ (lw_privs_2 ++ (lw_privs_3 ++ (lw_privs_4 ++ (lw_privs_5)))), lw_okq q
  exact List.forall_mem_append.mpr ⟨lw_r1, List.forall_mem_append.mpr ⟨lw_r2, List.forall_mem_append.mpr ⟨lw_r3, List.forall_mem_append.mpr ⟨lw_r4, lw_r5⟩⟩⟩⟩
-- ===== end of PART A; then your names; then what follows =====
end
section
def RX0 : String := "CounterDeals$Group"
def TX0 : u_T := fun k => match k with
  | 0 => ("CounterDeals$Group", "task", "I", false)
  | 1 => ("CounterDeals$Group", "weight", "I", false)
  | 2 => ("CounterDeals$Group", "pinned", "Z", false)
  | 3 => ("CounterDeals$Group", "inherits", "Z", false)
  | 4 => ("CounterDeals$Group", "live", "Z", false)
  | 5 => ("CounterDeals$Group", "on", "Z", false)
  | 6 => ("CounterDeals$Group", "events", "I", false)
  | 7 => ("CounterDeals$Group", "turn", "I", false)
  | 8 => ("CounterDeals$Group", "period", "I", false)
  | 9 => ("CounterDeals$Group", "left", "I", false)
  | 10 => ("CounterDeals$Group", "kinds", "[I", true)
  | 11 => ("CounterDeals$Group", "peaks", "[I", true)
  | 12 => ("CounterDeals$Group", "seats", "[I", true)
  | 13 => ("CounterDeals$Group", "counts", "[I", true)
  | 14 => ("CounterDeals$Group", "enabled", "[I", true)
  | _ => ("CounterDeals$Group", "running", "[I", true)
def tyX0 : Nat → FieldType := fun k => match k with
  | 0 => .int
  | 1 => .int
  | 2 => .boolean
  | 3 => .boolean
  | 4 => .boolean
  | 5 => .boolean
  | 6 => .int
  | 7 => .int
  | 8 => .int
  | 9 => .int
  | 10 => .array .int
  | 11 => .array .int
  | 12 => .array .int
  | 13 => .array .int
  | 14 => .array .int
  | _ => .array .int
abbrev wsX00 : List Cond := u_ws RX0 TX0 16
theorem nmX0 : ∀ a, a < 16 → ∀ b, b < 16 → a ≠ b → (TX0 a).2.1 ≠ (TX0 b).2.1 := by decide +kernel
theorem tyX0_ok : ∀ k, k < 16 → parseFieldDescriptor (TX0 k).2.2.1 = some (tyX0 k) := by decide +kernel
abbrev cX0_init : ByteArray := prog_2_method_1_code
def yX0_init : MethodName := ⟨RX0, "<init>", "()V"⟩
abbrev cX0_begin : ByteArray := prog_2_method_2_code
def yX0_begin : MethodName := ⟨RX0, "begin", "(IIZZ)V"⟩
abbrev cX0_become : ByteArray := prog_2_method_3_code
def yX0_become : MethodName := ⟨RX0, "become", "(LCounterDeals$Group;)V"⟩
abbrev cX0_hasEvent : ByteArray := prog_2_method_4_code
def yX0_hasEvent : MethodName := ⟨RX0, "hasEvent", "(I)Z"⟩
abbrev cX0_append : ByteArray := prog_2_method_5_code
def yX0_append : MethodName := ⟨RX0, "append", "(I)I"⟩
abbrev cX0_leaveSeats : ByteArray := prog_2_method_6_code
def yX0_leaveSeats : MethodName := ⟨RX0, "leaveSeats", "()V"⟩
abbrev cX0_countSlice : ByteArray := prog_2_method_7_code
def yX0_countSlice : MethodName := ⟨RX0, "countSlice", "(LCounterDeals$Tasks;I)V"⟩
abbrev cX0_moveTo : ByteArray := prog_2_method_8_code
def yX0_moveTo : MethodName := ⟨RX0, "moveTo", "(II)V"⟩
abbrev cX0_moveCell : ByteArray := prog_2_method_9_code
def yX0_moveCell : MethodName := ⟨RX0, "moveCell", "([III)V"⟩
abbrev cX0_countIn : ByteArray := prog_2_method_10_code
def yX0_countIn : MethodName := ⟨RX0, "countIn", "(II)I"⟩
abbrev cX0_enabledIn : ByteArray := prog_2_method_11_code
def yX0_enabledIn : MethodName := ⟨RX0, "enabledIn", "(I)I"⟩
abbrev cX0_runningIn : ByteArray := prog_2_method_12_code
def yX0_runningIn : MethodName := ⟨RX0, "runningIn", "(I)I"⟩
abbrev cX0_cellOrSum : ByteArray := prog_2_method_13_code
def yX0_cellOrSum : MethodName := ⟨RX0, "cellOrSum", "([III)I"⟩
abbrev cX0_scaledCount : ByteArray := prog_2_method_14_code
def yX0_scaledCount : MethodName := ⟨RX0, "scaledCount", "(I)I"⟩
abbrev cX0_mostCount : ByteArray := prog_2_method_15_code
def yX0_mostCount : MethodName := ⟨RX0, "mostCount", "(I)I"⟩
def RX1 : String := "CounterDeals$Past"
def TX1 : u_T := fun k => match k with
  | 0 => ("CounterDeals$Past", "size", "I", false)
  | 1 => ("CounterDeals$Past", "next", "I", false)
  | _ => ("CounterDeals$Past", "states", "[LCounterDeals$State;", true)
def tyX1 : Nat → FieldType := fun k => match k with
  | 0 => .int
  | 1 => .int
  | _ => .array (.object "CounterDeals$State")
abbrev wsX10 : List Cond := u_ws RX1 TX1 3
theorem nmX1 : ∀ a, a < 3 → ∀ b, b < 3 → a ≠ b → (TX1 a).2.1 ≠ (TX1 b).2.1 := by decide +kernel
theorem tyX1_ok : ∀ k, k < 3 → parseFieldDescriptor (TX1 k).2.2.1 = some (tyX1 k) := by decide +kernel
abbrev cX1_init : ByteArray := prog_3_method_1_code
def yX1_init : MethodName := ⟨RX1, "<init>", "(LCounterDeals$Seating;)V"⟩
abbrev cX1_hold : ByteArray := prog_3_method_2_code
def yX1_hold : MethodName := ⟨RX1, "hold", "(LCounterDeals$State;)V"⟩
abbrev cX1_undo : ByteArray := prog_3_method_3_code
def yX1_undo : MethodName := ⟨RX1, "undo", "(LCounterDeals$State;)V"⟩
abbrev cX1_keep : ByteArray := prog_3_method_4_code
def yX1_keep : MethodName := ⟨RX1, "keep", "()V"⟩
abbrev cX1_stepBack : ByteArray := prog_3_method_5_code
def yX1_stepBack : MethodName := ⟨RX1, "stepBack", "(LCounterDeals$State;)I"⟩
def RX2 : String := "CounterDeals$Samples"
def TX2 : u_T := fun k => match k with
  | 0 => ("CounterDeals$Samples", "waiting", "I", false)
  | 1 => ("CounterDeals$Samples", "kept", "I", false)
  | 2 => ("CounterDeals$Samples", "lost", "I", false)
  | 3 => ("CounterDeals$Samples", "waitGroups", "[I", true)
  | 4 => ("CounterDeals$Samples", "waitDues", "[I", true)
  | 5 => ("CounterDeals$Samples", "keptGroups", "[I", true)
  | 6 => ("CounterDeals$Samples", "keptTasks", "[I", true)
  | _ => ("CounterDeals$Samples", "keptSlices", "[I", true)
def tyX2 : Nat → FieldType := fun k => match k with
  | 0 => .int
  | 1 => .int
  | 2 => .int
  | 3 => .array .int
  | 4 => .array .int
  | 5 => .array .int
  | 6 => .array .int
  | _ => .array .int
abbrev wsX20 : List Cond := u_ws RX2 TX2 8
theorem nmX2 : ∀ a, a < 8 → ∀ b, b < 8 → a ≠ b → (TX2 a).2.1 ≠ (TX2 b).2.1 := by decide +kernel
theorem tyX2_ok : ∀ k, k < 8 → parseFieldDescriptor (TX2 k).2.2.1 = some (tyX2 k) := by decide +kernel
abbrev cX2_init : ByteArray := prog_4_method_1_code
def yX2_init : MethodName := ⟨RX2, "<init>", "()V"⟩
abbrev cX2_become : ByteArray := prog_4_method_2_code
def yX2_become : MethodName := ⟨RX2, "become", "(LCounterDeals$Samples;)V"⟩
abbrev cX2_await : ByteArray := prog_4_method_3_code
def yX2_await : MethodName := ⟨RX2, "await", "(II)V"⟩
abbrev cX2_tellDue : ByteArray := prog_4_method_4_code
def yX2_tellDue : MethodName := ⟨RX2, "tellDue", "(II)V"⟩
abbrev cX2_keep : ByteArray := prog_4_method_5_code
def yX2_keep : MethodName := ⟨RX2, "keep", "(III)V"⟩
abbrev cX2_keptFact : ByteArray := prog_4_method_6_code
def yX2_keptFact : MethodName := ⟨RX2, "keptFact", "(II)I"⟩
def RX3 : String := "CounterDeals$Seating"
def TX3 : u_T := fun k => match k with
  | 0 => ("CounterDeals$Seating", "size", "I", false)
  | 1 => ("CounterDeals$Seating", "free", "I", false)
  | 2 => ("CounterDeals$Seating", "wants", "[I", true)
  | _ => ("CounterDeals$Seating", "seats", "[I", true)
def tyX3 : Nat → FieldType := fun k => match k with
  | 0 => .int
  | 1 => .int
  | 2 => .array .int
  | _ => .array .int
abbrev wsX30 : List Cond := u_ws RX3 TX3 4
theorem nmX3 : ∀ a, a < 4 → ∀ b, b < 4 → a ≠ b → (TX3 a).2.1 ≠ (TX3 b).2.1 := by decide +kernel
theorem tyX3_ok : ∀ k, k < 4 → parseFieldDescriptor (TX3 k).2.2.1 = some (tyX3 k) := by decide +kernel
abbrev cX3_init : ByteArray := prog_5_method_1_code
def yX3_init : MethodName := ⟨RX3, "<init>", "()V"⟩
abbrev cX3_open : ByteArray := prog_5_method_2_code
def yX3_open : MethodName := ⟨RX3, "open", "(I)V"⟩
abbrev cX3_take : ByteArray := prog_5_method_3_code
def yX3_take : MethodName := ⟨RX3, "take", "(LCounterDeals$Group;[I)Z"⟩
abbrev cX3_sitAll : ByteArray := prog_5_method_4_code
def yX3_sitAll : MethodName := ⟨RX3, "sitAll", "()V"⟩
abbrev cX3_sit : ByteArray := prog_5_method_5_code
def yX3_sit : MethodName := ⟨RX3, "sit", "([I[IIII)Z"⟩
def RX4 : String := "CounterDeals$State"
def TX4 : u_T := fun k => match k with
  | 0 => ("CounterDeals$State", "counters", "I", false)
  | 1 => ("CounterDeals$State", "skid", "I", false)
  | 2 => ("CounterDeals$State", "slice", "I", false)
  | 3 => ("CounterDeals$State", "size", "I", false)
  | 4 => ("CounterDeals$State", "queued", "I", false)
  | 5 => ("CounterDeals$State", "masks", "[I", true)
  | 6 => ("CounterDeals$State", "tasks", "LCounterDeals$Tasks;", true)
  | 7 => ("CounterDeals$State", "groups", "[LCounterDeals$Group;", true)
  | 8 => ("CounterDeals$State", "line", "[I", true)
  | 9 => ("CounterDeals$State", "samples", "LCounterDeals$Samples;", true)
  | _ => ("CounterDeals$State", "seating", "LCounterDeals$Seating;", true)
def tyX4 : Nat → FieldType := fun k => match k with
  | 0 => .int
  | 1 => .int
  | 2 => .int
  | 3 => .int
  | 4 => .int
  | 5 => .array .int
  | 6 => .object "CounterDeals$Tasks"
  | 7 => .array (.object "CounterDeals$Group")
  | 8 => .array .int
  | 9 => .object "CounterDeals$Samples"
  | _ => .object "CounterDeals$Seating"
abbrev wsX40 : List Cond := u_ws RX4 TX4 11
theorem nmX4 : ∀ a, a < 11 → ∀ b, b < 11 → a ≠ b → (TX4 a).2.1 ≠ (TX4 b).2.1 := by decide +kernel
theorem tyX4_ok : ∀ k, k < 11 → parseFieldDescriptor (TX4 k).2.2.1 = some (tyX4 k) := by decide +kernel
abbrev cX4_init : ByteArray := prog_6_method_1_code
def yX4_init : MethodName := ⟨RX4, "<init>", "(LCounterDeals$Seating;)V"⟩
abbrev cX4_become : ByteArray := prog_6_method_2_code
def yX4_become : MethodName := ⟨RX4, "become", "(LCounterDeals$State;)V"⟩
abbrev cX4_hasGroup : ByteArray := prog_6_method_3_code
def yX4_hasGroup : MethodName := ⟨RX4, "hasGroup", "(I)Z"⟩
abbrev cX4_hasEvent : ByteArray := prog_6_method_4_code
def yX4_hasEvent : MethodName := ⟨RX4, "hasEvent", "(II)Z"⟩
abbrev cX4_putCounters : ByteArray := prog_6_method_5_code
def yX4_putCounters : MethodName := ⟨RX4, "putCounters", "(I)I"⟩
abbrev cX4_putMask : ByteArray := prog_6_method_6_code
def yX4_putMask : MethodName := ⟨RX4, "putMask", "(II)I"⟩
abbrev cX4_endTask : ByteArray := prog_6_method_7_code
def yX4_endTask : MethodName := ⟨RX4, "endTask", "(I)I"⟩
abbrev cX4_addGroup : ByteArray := prog_6_method_8_code
def yX4_addGroup : MethodName := ⟨RX4, "addGroup", "(IIIII)I"⟩
abbrev cX4_addEvent : ByteArray := prog_6_method_9_code
def yX4_addEvent : MethodName := ⟨RX4, "addEvent", "(II)I"⟩
abbrev cX4_putPeriod : ByteArray := prog_6_method_10_code
def yX4_putPeriod : MethodName := ⟨RX4, "putPeriod", "(II)I"⟩
abbrev cX4_putSkid : ByteArray := prog_6_method_11_code
def yX4_putSkid : MethodName := ⟨RX4, "putSkid", "(I)I"⟩
abbrev cX4_putLive : ByteArray := prog_6_method_12_code
def yX4_putLive : MethodName := ⟨RX4, "putLive", "(II)I"⟩
abbrev cX4_runSlices : ByteArray := prog_6_method_13_code
def yX4_runSlices : MethodName := ⟨RX4, "runSlices", "(II)I"⟩
abbrev cX4_runSlice : ByteArray := prog_6_method_14_code
def yX4_runSlice : MethodName := ⟨RX4, "runSlice", "(I)V"⟩
abbrev cX4_watchersOf : ByteArray := prog_6_method_15_code
def yX4_watchersOf : MethodName := ⟨RX4, "watchersOf", "(I)I"⟩
abbrev cX4_isIn : ByteArray := prog_6_method_16_code
def yX4_isIn : MethodName := ⟨RX4, "isIn", "(II)Z"⟩
abbrev cX4_dealCounters : ByteArray := prog_6_method_17_code
def yX4_dealCounters : MethodName := ⟨RX4, "dealCounters", "(I)V"⟩
abbrev cX4_showSeats : ByteArray := prog_6_method_18_code
def yX4_showSeats : MethodName := ⟨RX4, "showSeats", "()V"⟩
abbrev cX4_showSeatsOf : ByteArray := prog_6_method_19_code
def yX4_showSeatsOf : MethodName := ⟨RX4, "showSeatsOf", "(LCounterDeals$Group;I)I"⟩
abbrev cX4_countSlice : ByteArray := prog_6_method_20_code
def yX4_countSlice : MethodName := ⟨RX4, "countSlice", "(II)V"⟩
abbrev cX4_takeSamples : ByteArray := prog_6_method_21_code
def yX4_takeSamples : MethodName := ⟨RX4, "takeSamples", "(I)V"⟩
abbrev cX4_takeTurn : ByteArray := prog_6_method_22_code
def yX4_takeTurn : MethodName := ⟨RX4, "takeTurn", "(I)V"⟩
abbrev cX4_moveToEnd : ByteArray := prog_6_method_23_code
def yX4_moveToEnd : MethodName := ⟨RX4, "moveToEnd", "(I)V"⟩
abbrev cX4_taskFact : ByteArray := prog_6_method_24_code
def yX4_taskFact : MethodName := ⟨RX4, "taskFact", "(II)I"⟩
abbrev cX4_groupFact : ByteArray := prog_6_method_25_code
def yX4_groupFact : MethodName := ⟨RX4, "groupFact", "(II)I"⟩
abbrev cX4_placeInLine : ByteArray := prog_6_method_26_code
def yX4_placeInLine : MethodName := ⟨RX4, "placeInLine", "(I)I"⟩
abbrev cX4_eventFact : ByteArray := prog_6_method_27_code
def yX4_eventFact : MethodName := ⟨RX4, "eventFact", "(III)I"⟩
abbrev cX4_countFact : ByteArray := prog_6_method_28_code
def yX4_countFact : MethodName := ⟨RX4, "countFact", "(III)I"⟩
abbrev cX4_timeFact : ByteArray := prog_6_method_29_code
def yX4_timeFact : MethodName := ⟨RX4, "timeFact", "(III)I"⟩
abbrev cX4_scaledFact : ByteArray := prog_6_method_30_code
def yX4_scaledFact : MethodName := ⟨RX4, "scaledFact", "(III)I"⟩
abbrev cX4_fitFact : ByteArray := prog_6_method_31_code
def yX4_fitFact : MethodName := ⟨RX4, "fitFact", "(I)I"⟩
abbrev cX4_queueFact : ByteArray := prog_6_method_32_code
def yX4_queueFact : MethodName := ⟨RX4, "queueFact", "(I)I"⟩
abbrev cX4_wholeFact : ByteArray := prog_6_method_33_code
def yX4_wholeFact : MethodName := ⟨RX4, "wholeFact", "(I)I"⟩
abbrev cX4_groupsOn : ByteArray := prog_6_method_34_code
def yX4_groupsOn : MethodName := ⟨RX4, "groupsOn", "()I"⟩
def RX5 : String := "CounterDeals$Tasks"
def TX5 : u_T := fun k => match k with
  | 0 => ("CounterDeals$Tasks", "size", "I", false)
  | 1 => ("CounterDeals$Tasks", "parents", "[I", true)
  | 2 => ("CounterDeals$Tasks", "ended", "[I", true)
  | _ => ("CounterDeals$Tasks", "rates", "[I", true)
def tyX5 : Nat → FieldType := fun k => match k with
  | 0 => .int
  | 1 => .array .int
  | 2 => .array .int
  | _ => .array .int
abbrev wsX50 : List Cond := u_ws RX5 TX5 4
theorem nmX5 : ∀ a, a < 4 → ∀ b, b < 4 → a ≠ b → (TX5 a).2.1 ≠ (TX5 b).2.1 := by decide +kernel
theorem tyX5_ok : ∀ k, k < 4 → parseFieldDescriptor (TX5 k).2.2.1 = some (tyX5 k) := by decide +kernel
abbrev cX5_init : ByteArray := prog_7_method_1_code
def yX5_init : MethodName := ⟨RX5, "<init>", "()V"⟩
abbrev cX5_become : ByteArray := prog_7_method_2_code
def yX5_become : MethodName := ⟨RX5, "become", "(LCounterDeals$Tasks;)V"⟩
abbrev cX5_has : ByteArray := prog_7_method_3_code
def yX5_has : MethodName := ⟨RX5, "has", "(I)Z"⟩
abbrev cX5_hasEnded : ByteArray := prog_7_method_4_code
def yX5_hasEnded : MethodName := ⟨RX5, "hasEnded", "(I)Z"⟩
abbrev cX5_rateOf : ByteArray := prog_7_method_5_code
def yX5_rateOf : MethodName := ⟨RX5, "rateOf", "(II)I"⟩
abbrev cX5_putRate : ByteArray := prog_7_method_6_code
def yX5_putRate : MethodName := ⟨RX5, "putRate", "(III)I"⟩
abbrev cX5_fork : ByteArray := prog_7_method_7_code
def yX5_fork : MethodName := ⟨RX5, "fork", "(I)I"⟩
abbrev cX5_hasOpenChild : ByteArray := prog_7_method_8_code
def yX5_hasOpenChild : MethodName := ⟨RX5, "hasOpenChild", "(I)Z"⟩
abbrev cX5_reachesByParents : ByteArray := prog_7_method_9_code
def yX5_reachesByParents : MethodName := ⟨RX5, "reachesByParents", "(II)Z"⟩
def RX6 : String := "CounterDeals$Text"
def TX6 : u_T := fun k => match k with
  | 0 => ("CounterDeals$Text", "length", "I", false)
  | 1 => ("CounterDeals$Text", "orders", "I", false)
  | 2 => ("CounterDeals$Text", "bytes", "[I", true)
  | 3 => ("CounterDeals$Text", "letters", "[I", true)
  | 4 => ("CounterDeals$Text", "sizes", "[I", true)
  | 5 => ("CounterDeals$Text", "numbers", "[I", true)
  | 6 => ("CounterDeals$Text", "letter", "I", false)
  | _ => ("CounterDeals$Text", "figures", "I", false)
def tyX6 : Nat → FieldType := fun k => match k with
  | 0 => .int
  | 1 => .int
  | 2 => .array .int
  | 3 => .array .int
  | 4 => .array .int
  | 5 => .array .int
  | 6 => .int
  | _ => .int
abbrev wsX60 : List Cond := u_ws RX6 TX6 8
theorem nmX6 : ∀ a, a < 8 → ∀ b, b < 8 → a ≠ b → (TX6 a).2.1 ≠ (TX6 b).2.1 := by decide +kernel
theorem tyX6_ok : ∀ k, k < 8 → parseFieldDescriptor (TX6 k).2.2.1 = some (tyX6 k) := by decide +kernel
abbrev cX6_init : ByteArray := prog_8_method_1_code
def yX6_init : MethodName := ⟨RX6, "<init>", "()V"⟩
abbrev cX6_addByte : ByteArray := prog_8_method_2_code
def yX6_addByte : MethodName := ⟨RX6, "addByte", "(I)I"⟩
abbrev cX6_letterAt : ByteArray := prog_8_method_3_code
def yX6_letterAt : MethodName := ⟨RX6, "letterAt", "(I)I"⟩
abbrev cX6_numbersOf : ByteArray := prog_8_method_4_code
def yX6_numbersOf : MethodName := ⟨RX6, "numbersOf", "(I)I"⟩
abbrev cX6_numberAt : ByteArray := prog_8_method_5_code
def yX6_numberAt : MethodName := ⟨RX6, "numberAt", "(II)I"⟩
abbrev cX6_readOrders : ByteArray := prog_8_method_6_code
def yX6_readOrders : MethodName := ⟨RX6, "readOrders", "()I"⟩
abbrev cX6_readByte : ByteArray := prog_8_method_7_code
def yX6_readByte : MethodName := ⟨RX6, "readByte", "(I)Z"⟩
abbrev cX6_readLetter : ByteArray := prog_8_method_8_code
def yX6_readLetter : MethodName := ⟨RX6, "readLetter", "(I)Z"⟩
abbrev cX6_readFigure : ByteArray := prog_8_method_9_code
def yX6_readFigure : MethodName := ⟨RX6, "readFigure", "(I)Z"⟩
abbrev cX6_readFirstFigure : ByteArray := prog_8_method_10_code
def yX6_readFirstFigure : MethodName := ⟨RX6, "readFirstFigure", "(I)Z"⟩
abbrev cX6_readEnd : ByteArray := prog_8_method_11_code
def yX6_readEnd : MethodName := ⟨RX6, "readEnd", "()Z"⟩
abbrev cX6_mostNumbers : ByteArray := prog_8_method_12_code
def yX6_mostNumbers : MethodName := ⟨RX6, "mostNumbers", "(I)I"⟩
abbrev cX6_leastNumbers : ByteArray := prog_8_method_13_code
def yX6_leastNumbers : MethodName := ⟨RX6, "leastNumbers", "(I)I"⟩
def RX7 : String := "CounterDeals"
def TX7 : u_T := fun k => match k with
  | 0 => ("CounterDeals", "now", "LCounterDeals$State;", true)
  | 1 => ("CounterDeals", "past", "LCounterDeals$Past;", true)
  | 2 => ("CounterDeals", "text", "LCounterDeals$Text;", true)
  | _ => ("CounterDeals", "refusals", "[I", true)
def tyX7 : Nat → FieldType := fun k => match k with
  | 0 => .object "CounterDeals$State"
  | 1 => .object "CounterDeals$Past"
  | 2 => .object "CounterDeals$Text"
  | _ => .array .int
abbrev wsX70 : List Cond := u_ws RX7 TX7 4
theorem nmX7 : ∀ a, a < 4 → ∀ b, b < 4 → a ≠ b → (TX7 a).2.1 ≠ (TX7 b).2.1 := by decide +kernel
theorem tyX7_ok : ∀ k, k < 4 → parseFieldDescriptor (TX7 k).2.2.1 = some (tyX7 k) := by decide +kernel
abbrev cX7_init : ByteArray := prog_1_method_1_code
def yX7_init : MethodName := ⟨RX7, "<init>", "()V"⟩
abbrev cX7_counters : ByteArray := prog_1_method_2_code
def yX7_counters : MethodName := ⟨RX7, "counters", "(I)I"⟩
abbrev cX7_masks : ByteArray := prog_1_method_3_code
def yX7_masks : MethodName := ⟨RX7, "masks", "(II)I"⟩
abbrev cX7_rates : ByteArray := prog_1_method_4_code
def yX7_rates : MethodName := ⟨RX7, "rates", "(III)I"⟩
abbrev cX7_forks : ByteArray := prog_1_method_5_code
def yX7_forks : MethodName := ⟨RX7, "forks", "(I)I"⟩
abbrev cX7_exits : ByteArray := prog_1_method_6_code
def yX7_exits : MethodName := ⟨RX7, "exits", "(I)I"⟩
abbrev cX7_group : ByteArray := prog_1_method_7_code
def yX7_group : MethodName := ⟨RX7, "group", "(IIIII)I"⟩
abbrev cX7_event : ByteArray := prog_1_method_8_code
def yX7_event : MethodName := ⟨RX7, "event", "(II)I"⟩
abbrev cX7_periods : ByteArray := prog_1_method_9_code
def yX7_periods : MethodName := ⟨RX7, "periods", "(II)I"⟩
abbrev cX7_skids : ByteArray := prog_1_method_10_code
def yX7_skids : MethodName := ⟨RX7, "skids", "(I)I"⟩
abbrev cX7_lives : ByteArray := prog_1_method_11_code
def yX7_lives : MethodName := ⟨RX7, "lives", "(II)I"⟩
abbrev cX7_runs : ByteArray := prog_1_method_12_code
def yX7_runs : MethodName := ⟨RX7, "runs", "(II)I"⟩
abbrev cX7_task : ByteArray := prog_1_method_13_code
def yX7_task : MethodName := ⟨RX7, "task", "(II)I"⟩
abbrev cX7_of : ByteArray := prog_1_method_14_code
def yX7_of : MethodName := ⟨RX7, "of", "(II)I"⟩
abbrev cX7_about : ByteArray := prog_1_method_15_code
def yX7_about : MethodName := ⟨RX7, "about", "(III)I"⟩
abbrev cX7_count : ByteArray := prog_1_method_16_code
def yX7_count : MethodName := ⟨RX7, "count", "(III)I"⟩
abbrev cX7_times : ByteArray := prog_1_method_17_code
def yX7_times : MethodName := ⟨RX7, "times", "(III)I"⟩
abbrev cX7_scaled : ByteArray := prog_1_method_18_code
def yX7_scaled : MethodName := ⟨RX7, "scaled", "(III)I"⟩
abbrev cX7_fit : ByteArray := prog_1_method_19_code
def yX7_fit : MethodName := ⟨RX7, "fit", "(I)I"⟩
abbrev cX7_queue : ByteArray := prog_1_method_20_code
def yX7_queue : MethodName := ⟨RX7, "queue", "(I)I"⟩
abbrev cX7_sample : ByteArray := prog_1_method_21_code
def yX7_sample : MethodName := ⟨RX7, "sample", "(II)I"⟩
abbrev cX7_told : ByteArray := prog_1_method_22_code
def yX7_told : MethodName := ⟨RX7, "told", "(I)I"⟩
abbrev cX7_type : ByteArray := prog_1_method_23_code
def yX7_type : MethodName := ⟨RX7, "type", "(I)I"⟩
abbrev cX7_clear : ByteArray := prog_1_method_24_code
def yX7_clear : MethodName := ⟨RX7, "clear", "()I"⟩
abbrev cX7_does : ByteArray := prog_1_method_25_code
def yX7_does : MethodName := ⟨RX7, "does", "()I"⟩
abbrev cX7_back : ByteArray := prog_1_method_26_code
def yX7_back : MethodName := ⟨RX7, "back", "()I"⟩
abbrev cX7_refused : ByteArray := prog_1_method_27_code
def yX7_refused : MethodName := ⟨RX7, "refused", "(I)I"⟩
abbrev cX7_digest : ByteArray := prog_1_method_28_code
def yX7_digest : MethodName := ⟨RX7, "digest", "()J"⟩
abbrev cX7_mixed : ByteArray := prog_1_method_29_code
def yX7_mixed : MethodName := ⟨RX7, "mixed", "(JI)J"⟩
abbrev cX7_mixedTask : ByteArray := prog_1_method_30_code
def yX7_mixedTask : MethodName := ⟨RX7, "mixedTask", "(JI)J"⟩
abbrev cX7_mixedGroup : ByteArray := prog_1_method_31_code
def yX7_mixedGroup : MethodName := ⟨RX7, "mixedGroup", "(JI)J"⟩
abbrev cX7_mixedEvent : ByteArray := prog_1_method_32_code
def yX7_mixedEvent : MethodName := ⟨RX7, "mixedEvent", "(JII)J"⟩
abbrev cX7_refusedFact : ByteArray := prog_1_method_33_code
def yX7_refusedFact : MethodName := ⟨RX7, "refusedFact", "(I)I"⟩
abbrev cX7_carryOut : ByteArray := prog_1_method_34_code
def yX7_carryOut : MethodName := ⟨RX7, "carryOut", "(I)I"⟩
abbrev cX7_carryOutGroup : ByteArray := prog_1_method_35_code
def yX7_carryOutGroup : MethodName := ⟨RX7, "carryOutGroup", "(I)I"⟩
abbrev cX7_settle : ByteArray := prog_1_method_36_code
def yX7_settle : MethodName := ⟨RX7, "settle", "(I)I"⟩
abbrev cX7_answer : ByteArray := prog_1_method_37_code
def yX7_answer : MethodName := ⟨RX7, "answer", "(I)I"⟩
abbrev cX7_isRefusal : ByteArray := prog_1_method_38_code
def yX7_isRefusal : MethodName := ⟨RX7, "isRefusal", "(I)Z"⟩
abbrev cX7_isWithin : ByteArray := prog_1_method_39_code
def yX7_isWithin : MethodName := ⟨RX7, "isWithin", "(III)Z"⟩
abbrev cX7_bit : ByteArray := prog_1_method_40_code
def yX7_bit : MethodName := ⟨RX7, "bit", "(Z)I"⟩
abbrev cX7_copyRow : ByteArray := prog_1_method_41_code
def yX7_copyRow : MethodName := ⟨RX7, "copyRow", "([I[I)V"⟩
def RX8 : String := "CounterDealsModel"
def TX8 : u_T := fun k => match k with
  | 0 => ("CounterDealsModel", "now", "[I", true)
  | 1 => ("CounterDealsModel", "aside", "[I", true)
  | 2 => ("CounterDealsModel", "past", "[I", true)
  | 3 => ("CounterDealsModel", "states", "I", false)
  | 4 => ("CounterDealsModel", "refusals", "[I", true)
  | 5 => ("CounterDealsModel", "text", "[I", true)
  | 6 => ("CounterDealsModel", "bytes", "I", false)
  | 7 => ("CounterDealsModel", "kinds", "[I", true)
  | 8 => ("CounterDealsModel", "events", "[I", true)
  | 9 => ("CounterDealsModel", "many", "I", false)
  | 10 => ("CounterDealsModel", "seats", "[I", true)
  | 11 => ("CounterDealsModel", "letters", "[I", true)
  | 12 => ("CounterDealsModel", "from", "[I", true)
  | 13 => ("CounterDealsModel", "numbers", "[I", true)
  | 14 => ("CounterDealsModel", "orders", "I", false)
  | 15 => ("CounterDealsModel", "spot", "I", false)
  | 16 => ("CounterDealsModel", "wrongAt", "I", false)
  | _ => ("CounterDealsModel", "hash", "J", false)
def tyX8 : Nat → FieldType := fun k => match k with
  | 0 => .array .int
  | 1 => .array .int
  | 2 => .array .int
  | 3 => .int
  | 4 => .array .int
  | 5 => .array .int
  | 6 => .int
  | 7 => .array .int
  | 8 => .array .int
  | 9 => .int
  | 10 => .array .int
  | 11 => .array .int
  | 12 => .array .int
  | 13 => .array .int
  | 14 => .int
  | 15 => .int
  | 16 => .int
  | _ => .long
abbrev wsX80 : List Cond := u_ws RX8 TX8 18
theorem nmX8 : ∀ a, a < 18 → ∀ b, b < 18 → a ≠ b → (TX8 a).2.1 ≠ (TX8 b).2.1 := by decide +kernel
theorem tyX8_ok : ∀ k, k < 18 → parseFieldDescriptor (TX8 k).2.2.1 = some (tyX8 k) := by decide +kernel
abbrev cX8_init : ByteArray := prog_10_method_1_code
def yX8_init : MethodName := ⟨RX8, "<init>", "()V"⟩
abbrev cX8_in : ByteArray := prog_10_method_3_code
def yX8_in : MethodName := ⟨RX8, "in", "(III)Z"⟩
abbrev cX8_has : ByteArray := prog_10_method_4_code
def yX8_has : MethodName := ⟨RX8, "has", "(II)Z"⟩
abbrev cX8_bad : ByteArray := prog_10_method_5_code
def yX8_bad : MethodName := ⟨RX8, "bad", "()I"⟩
abbrev cX8_no : ByteArray := prog_10_method_6_code
def yX8_no : MethodName := ⟨RX8, "no", "()I"⟩
abbrev cX8_full : ByteArray := prog_10_method_7_code
def yX8_full : MethodName := ⟨RX8, "full", "()I"⟩
abbrev cX8_remembers : ByteArray := prog_10_method_8_code
def yX8_remembers : MethodName := ⟨RX8, "remembers", "()V"⟩
abbrev cX8_back : ByteArray := prog_10_method_9_code
def yX8_back : MethodName := ⟨RX8, "back", "()I"⟩
abbrev cX8_isTask : ByteArray := prog_10_method_10_code
def yX8_isTask : MethodName := ⟨RX8, "isTask", "(I)Z"⟩
abbrev cX8_taskAt : ByteArray := prog_10_method_11_code
def yX8_taskAt : MethodName := ⟨RX8, "taskAt", "(I)I"⟩
abbrev cX8_isGroup : ByteArray := prog_10_method_12_code
def yX8_isGroup : MethodName := ⟨RX8, "isGroup", "(I)Z"⟩
abbrev cX8_groupAt : ByteArray := prog_10_method_13_code
def yX8_groupAt : MethodName := ⟨RX8, "groupAt", "(I)I"⟩
abbrev cX8_ofGroup : ByteArray := prog_10_method_14_code
def yX8_ofGroup : MethodName := ⟨RX8, "ofGroup", "(II)I"⟩
abbrev cX8_isEvent : ByteArray := prog_10_method_15_code
def yX8_isEvent : MethodName := ⟨RX8, "isEvent", "(II)Z"⟩
abbrev cX8_eventAt : ByteArray := prog_10_method_16_code
def yX8_eventAt : MethodName := ⟨RX8, "eventAt", "(II)I"⟩
abbrev cX8_countAt : ByteArray := prog_10_method_17_code
def yX8_countAt : MethodName := ⟨RX8, "countAt", "(III)I"⟩
abbrev cX8_isKind : ByteArray := prog_10_method_18_code
def yX8_isKind : MethodName := ⟨RX8, "isKind", "(I)Z"⟩
abbrev cX8_rateOf : ByteArray := prog_10_method_19_code
def yX8_rateOf : MethodName := ⟨RX8, "rateOf", "(II)I"⟩
abbrev cX8_exchanges : ByteArray := prog_10_method_20_code
def yX8_exchanges : MethodName := ⟨RX8, "exchanges", "(II)I"⟩
abbrev cX8_counters : ByteArray := prog_10_method_21_code
def yX8_counters : MethodName := ⟨RX8, "counters", "(I)I"⟩
abbrev cX8_canMask : ByteArray := prog_10_method_22_code
def yX8_canMask : MethodName := ⟨RX8, "canMask", "(II)Z"⟩
abbrev cX8_masks : ByteArray := prog_10_method_23_code
def yX8_masks : MethodName := ⟨RX8, "masks", "(II)I"⟩
abbrev cX8_canRate : ByteArray := prog_10_method_24_code
def yX8_canRate : MethodName := ⟨RX8, "canRate", "(III)Z"⟩
abbrev cX8_rates : ByteArray := prog_10_method_25_code
def yX8_rates : MethodName := ⟨RX8, "rates", "(III)I"⟩
abbrev cX8_hasEnded : ByteArray := prog_10_method_26_code
def yX8_hasEnded : MethodName := ⟨RX8, "hasEnded", "(I)Z"⟩
abbrev cX8_comesOf : ByteArray := prog_10_method_27_code
def yX8_comesOf : MethodName := ⟨RX8, "comesOf", "(I)I"⟩
abbrev cX8_forks : ByteArray := prog_10_method_28_code
def yX8_forks : MethodName := ⟨RX8, "forks", "(I)I"⟩
abbrev cX8_canEnd : ByteArray := prog_10_method_29_code
def yX8_canEnd : MethodName := ⟨RX8, "canEnd", "(I)Z"⟩
abbrev cX8_moves : ByteArray := prog_10_method_30_code
def yX8_moves : MethodName := ⟨RX8, "moves", "(II)V"⟩
abbrev cX8_exits : ByteArray := prog_10_method_31_code
def yX8_exits : MethodName := ⟨RX8, "exits", "(I)I"⟩
abbrev cX8_canGroup : ByteArray := prog_10_method_32_code
def yX8_canGroup : MethodName := ⟨RX8, "canGroup", "(IIIII)Z"⟩
abbrev cX8_addsEvent : ByteArray := prog_10_method_33_code
def yX8_addsEvent : MethodName := ⟨RX8, "addsEvent", "(II)I"⟩
abbrev cX8_comesGroup : ByteArray := prog_10_method_34_code
def yX8_comesGroup : MethodName := ⟨RX8, "comesGroup", "(IIIII)I"⟩
abbrev cX8_group : ByteArray := prog_10_method_35_code
def yX8_group : MethodName := ⟨RX8, "group", "(IIIII)I"⟩
abbrev cX8_event : ByteArray := prog_10_method_36_code
def yX8_event : MethodName := ⟨RX8, "event", "(II)I"⟩
abbrev cX8_periods : ByteArray := prog_10_method_37_code
def yX8_periods : MethodName := ⟨RX8, "periods", "(II)I"⟩
abbrev cX8_skids : ByteArray := prog_10_method_38_code
def yX8_skids : MethodName := ⟨RX8, "skids", "(I)I"⟩
abbrev cX8_lives : ByteArray := prog_10_method_39_code
def yX8_lives : MethodName := ⟨RX8, "lives", "(II)I"⟩
abbrev cX8_isOf : ByteArray := prog_10_method_40_code
def yX8_isOf : MethodName := ⟨RX8, "isOf", "(II)Z"⟩
abbrev cX8_watchers : ByteArray := prog_10_method_41_code
def yX8_watchers : MethodName := ⟨RX8, "watchers", "(I)I"⟩
abbrev cX8_isRow : ByteArray := prog_10_method_42_code
def yX8_isRow : MethodName := ⟨RX8, "isRow", "(I)Z"⟩
abbrev cX8_canSit : ByteArray := prog_10_method_43_code
def yX8_canSit : MethodName := ⟨RX8, "canSit", "()Z"⟩
abbrev cX8_isJoined : ByteArray := prog_10_method_44_code
def yX8_isJoined : MethodName := ⟨RX8, "isJoined", "(I)Z"⟩
abbrev cX8_clears : ByteArray := prog_10_method_45_code
def yX8_clears : MethodName := ⟨RX8, "clears", "()V"⟩
abbrev cX8_joins : ByteArray := prog_10_method_46_code
def yX8_joins : MethodName := ⟨RX8, "joins", "(I)V"⟩
abbrev cX8_counts : ByteArray := prog_10_method_47_code
def yX8_counts : MethodName := ⟨RX8, "counts", "(II)V"⟩
abbrev cX8_samplesCome : ByteArray := prog_10_method_48_code
def yX8_samplesCome : MethodName := ⟨RX8, "samplesCome", "(I)V"⟩
abbrev cX8_tellsOne : ByteArray := prog_10_method_49_code
def yX8_tellsOne : MethodName := ⟨RX8, "tellsOne", "(II)V"⟩
abbrev cX8_tellsDue : ByteArray := prog_10_method_50_code
def yX8_tellsDue : MethodName := ⟨RX8, "tellsDue", "(I)V"⟩
abbrev cX8_turns : ByteArray := prog_10_method_51_code
def yX8_turns : MethodName := ⟨RX8, "turns", "(I)V"⟩
abbrev cX8_goes : ByteArray := prog_10_method_52_code
def yX8_goes : MethodName := ⟨RX8, "goes", "(II)I"⟩
abbrev cX8_isRun : ByteArray := prog_10_method_53_code
def yX8_isRun : MethodName := ⟨RX8, "isRun", "(II)Z"⟩
abbrev cX8_runs : ByteArray := prog_10_method_54_code
def yX8_runs : MethodName := ⟨RX8, "runs", "(II)I"⟩
abbrev cX8_aboutTask : ByteArray := prog_10_method_55_code
def yX8_aboutTask : MethodName := ⟨RX8, "aboutTask", "(II)I"⟩
abbrev cX8_task : ByteArray := prog_10_method_56_code
def yX8_task : MethodName := ⟨RX8, "task", "(II)I"⟩
abbrev cX8_placeOf : ByteArray := prog_10_method_57_code
def yX8_placeOf : MethodName := ⟨RX8, "placeOf", "(I)I"⟩
abbrev cX8_aboutGroup : ByteArray := prog_10_method_58_code
def yX8_aboutGroup : MethodName := ⟨RX8, "aboutGroup", "(II)I"⟩
abbrev cX8_of : ByteArray := prog_10_method_59_code
def yX8_of : MethodName := ⟨RX8, "of", "(II)I"⟩
abbrev cX8_about : ByteArray := prog_10_method_60_code
def yX8_about : MethodName := ⟨RX8, "about", "(III)I"⟩
abbrev cX8_sumAt : ByteArray := prog_10_method_61_code
def yX8_sumAt : MethodName := ⟨RX8, "sumAt", "(II)I"⟩
abbrev cX8_count : ByteArray := prog_10_method_62_code
def yX8_count : MethodName := ⟨RX8, "count", "(III)I"⟩
abbrev cX8_times : ByteArray := prog_10_method_63_code
def yX8_times : MethodName := ⟨RX8, "times", "(III)I"⟩
abbrev cX8_scaledOf : ByteArray := prog_10_method_64_code
def yX8_scaledOf : MethodName := ⟨RX8, "scaledOf", "(III)I"⟩
abbrev cX8_scaled : ByteArray := prog_10_method_65_code
def yX8_scaled : MethodName := ⟨RX8, "scaled", "(III)I"⟩
abbrev cX8_fitOf : ByteArray := prog_10_method_66_code
def yX8_fitOf : MethodName := ⟨RX8, "fitOf", "(I)I"⟩
abbrev cX8_fit : ByteArray := prog_10_method_67_code
def yX8_fit : MethodName := ⟨RX8, "fit", "(I)I"⟩
abbrev cX8_queue : ByteArray := prog_10_method_68_code
def yX8_queue : MethodName := ⟨RX8, "queue", "(I)I"⟩
abbrev cX8_sample : ByteArray := prog_10_method_69_code
def yX8_sample : MethodName := ⟨RX8, "sample", "(II)I"⟩
abbrev cX8_onNow : ByteArray := prog_10_method_70_code
def yX8_onNow : MethodName := ⟨RX8, "onNow", "()I"⟩
abbrev cX8_toldOf : ByteArray := prog_10_method_71_code
def yX8_toldOf : MethodName := ⟨RX8, "toldOf", "(I)I"⟩
abbrev cX8_told : ByteArray := prog_10_method_72_code
def yX8_told : MethodName := ⟨RX8, "told", "(I)I"⟩
abbrev cX8_type : ByteArray := prog_10_method_73_code
def yX8_type : MethodName := ⟨RX8, "type", "(I)I"⟩
abbrev cX8_clear : ByteArray := prog_10_method_74_code
def yX8_clear : MethodName := ⟨RX8, "clear", "()I"⟩
abbrev cX8_isAt : ByteArray := prog_10_method_75_code
def yX8_isAt : MethodName := ⟨RX8, "isAt", "(II)Z"⟩
abbrev cX8_blanks : ByteArray := prog_10_method_76_code
def yX8_blanks : MethodName := ⟨RX8, "blanks", "()V"⟩
abbrev cX8_fails : ByteArray := prog_10_method_77_code
def yX8_fails : MethodName := ⟨RX8, "fails", "(I)Z"⟩
abbrev cX8_leastOf : ByteArray := prog_10_method_78_code
def yX8_leastOf : MethodName := ⟨RX8, "leastOf", "(I)I"⟩
abbrev cX8_takesNumber : ByteArray := prog_10_method_79_code
def yX8_takesNumber : MethodName := ⟨RX8, "takesNumber", "(I)Z"⟩
abbrev cX8_takesOrder : ByteArray := prog_10_method_80_code
def yX8_takesOrder : MethodName := ⟨RX8, "takesOrder", "()Z"⟩
abbrev cX8_isRead : ByteArray := prog_10_method_81_code
def yX8_isRead : MethodName := ⟨RX8, "isRead", "()Z"⟩
abbrev cX8_puts : ByteArray := prog_10_method_82_code
def yX8_puts : MethodName := ⟨RX8, "puts", "(ZII)Z"⟩
abbrev cX8_groupTold : ByteArray := prog_10_method_83_code
def yX8_groupTold : MethodName := ⟨RX8, "groupTold", "(II)Z"⟩
abbrev cX8_obeys : ByteArray := prog_10_method_84_code
def yX8_obeys : MethodName := ⟨RX8, "obeys", "(I)Z"⟩
abbrev cX8_swapsAside : ByteArray := prog_10_method_85_code
def yX8_swapsAside : MethodName := ⟨RX8, "swapsAside", "()V"⟩
abbrev cX8_does : ByteArray := prog_10_method_86_code
def yX8_does : MethodName := ⟨RX8, "does", "()I"⟩
abbrev cX8_refusedOf : ByteArray := prog_10_method_87_code
def yX8_refusedOf : MethodName := ⟨RX8, "refusedOf", "(I)I"⟩
abbrev cX8_refused : ByteArray := prog_10_method_88_code
def yX8_refused : MethodName := ⟨RX8, "refused", "(I)I"⟩
abbrev cX8_mix : ByteArray := prog_10_method_89_code
def yX8_mix : MethodName := ⟨RX8, "mix", "(J)V"⟩
abbrev cX8_mixGroup : ByteArray := prog_10_method_90_code
def yX8_mixGroup : MethodName := ⟨RX8, "mixGroup", "(I)V"⟩
abbrev cX8_digest : ByteArray := prog_10_method_91_code
def yX8_digest : MethodName := ⟨RX8, "digest", "()J"⟩
def RJ9 : String := "java/lang/Math"
def TJ9 : u_T := fun k => match k with
  | _ => ("", "", "", false)
def tyJ9 : Nat → FieldType := fun k => match k with
  | _ => .int
abbrev wsJ90 : List Cond := u_ws RJ9 TJ9 0
theorem nmJ9 : ∀ a, a < 0 → ∀ b, b < 0 → a ≠ b → (TJ9 a).2.1 ≠ (TJ9 b).2.1 := by decide +kernel
theorem tyJ9_ok : ∀ k, k < 0 → parseFieldDescriptor (TJ9 k).2.2.1 = some (tyJ9 k) := by decide +kernel
abbrev cJ9_max_7cf53 : ByteArray := prog_11_method_65_code
def yJ9_max_7cf53 : MethodName := ⟨RJ9, "max", "(II)I"⟩
abbrev cJ9_min_7cf53 : ByteArray := prog_11_method_69_code
def yJ9_min_7cf53 : MethodName := ⟨RJ9, "min", "(II)I"⟩
def RJ10 : String := "java/lang/System"
def TJ10 : u_T := fun k => match k with
  | _ => ("", "", "", false)
def tyJ10 : Nat → FieldType := fun k => match k with
  | _ => .int
abbrev wsJ100 : List Cond := u_ws RJ10 TJ10 0
theorem nmJ10 : ∀ a, a < 0 → ∀ b, b < 0 → a ≠ b → (TJ10 a).2.1 ≠ (TJ10 b).2.1 := by decide +kernel
theorem tyJ10_ok : ∀ k, k < 0 → parseFieldDescriptor (TJ10 k).2.2.1 = some (tyJ10 k) := by decide +kernel
def RL : String := "CounterDealsLaw"
abbrev cL_law : ByteArray := code
def yL_law : MethodName := ⟨RL, "law", "([I)Z"⟩
abbrev vwCl : List vw_C := [(RX0, TX0, 16), (RX1, TX1, 3), (RX2, TX2, 8), (RX3, TX3, 4), (RX4, TX4, 11), (RX5, TX5, 4), (RX6, TX6, 8), (RX7, TX7, 4), (RX8, TX8, 18)]
end
section
-- THE WORDS: one list for all methods, cd_T: the good words of the tables; each word that is used, by its place
def cd_T : List Cond := lw_tbl.filter goodWord
theorem cd_T0 {w : Cond} (h : w ∈ k2_sels lw_privs) (g : goodWord w = true) : w ∈ cd_T := List.mem_filter.mpr ⟨List.mem_append_left _ h, g⟩
theorem cd_T1 {w : Cond} (h : w ∈ tables_1_1) (g : goodWord w = true) : w ∈ cd_T := List.mem_filter.mpr ⟨List.mem_append_right _ (List.mem_append_left _ h), g⟩
theorem cd_T2 {w : Cond} (h : w ∈ tables_1_2) (g : goodWord w = true) : w ∈ cd_T := List.mem_filter.mpr ⟨List.mem_append_right _ (List.mem_append_right _ (List.mem_append_left _ h)), g⟩
theorem cd_T3 {w : Cond} (h : w ∈ tables_1_3) (g : goodWord w = true) : w ∈ cd_T := List.mem_filter.mpr ⟨List.mem_append_right _ (List.mem_append_right _ (List.mem_append_right _ (List.mem_append_left _ h))), g⟩
theorem cd_T4 {w : Cond} (h : w ∈ tables_1_4) (g : goodWord w = true) : w ∈ cd_T := List.mem_filter.mpr ⟨List.mem_append_right _ (List.mem_append_right _ (List.mem_append_right _ (List.mem_append_right _ (List.mem_append_left _ h)))), g⟩
theorem cd_T5 {w : Cond} (h : w ∈ tables_1_5) (g : goodWord w = true) : w ∈ cd_T := List.mem_filter.mpr ⟨List.mem_append_right _ (List.mem_append_right _ (List.mem_append_right _ (List.mem_append_right _ (List.mem_append_right _ h)))), g⟩
theorem cd_T_in {w : Cond} (h : w ∈ cd_T) : w ∈ lw_tbl := (List.mem_filter.mp h).1
theorem cd_T_good {w : Cond} (h : w ∈ cd_T) : (w.onTables && w.keeps) = true ∨ ∃ ty, w = .arrayClass ty := good_of_word (List.mem_filter.mp h).2
theorem cd_e_X7_X7_settle : Cond.selects RX7 yX7_settle yX7_settle ∈ cd_T := cd_T0 (List.mem_of_getElem? (i := 0) (by decide +kernel)) (by decide +kernel)
theorem cd_e_X7_X7_answer : Cond.selects RX7 yX7_answer yX7_answer ∈ cd_T := cd_T0 (List.mem_of_getElem? (i := 1) (by decide +kernel)) (by decide +kernel)
theorem cd_e_X4_X4_runSlice : Cond.selects RX4 yX4_runSlice yX4_runSlice ∈ cd_T := cd_T0 (List.mem_of_getElem? (i := 2) (by decide +kernel)) (by decide +kernel)
theorem cd_e_X4_X4_watchersOf : Cond.selects RX4 yX4_watchersOf yX4_watchersOf ∈ cd_T := cd_T0 (List.mem_of_getElem? (i := 3) (by decide +kernel)) (by decide +kernel)
theorem cd_e_X4_X4_dealCounters : Cond.selects RX4 yX4_dealCounters yX4_dealCounters ∈ cd_T := cd_T0 (List.mem_of_getElem? (i := 4) (by decide +kernel)) (by decide +kernel)
theorem cd_e_X4_X4_showSeats : Cond.selects RX4 yX4_showSeats yX4_showSeats ∈ cd_T := cd_T0 (List.mem_of_getElem? (i := 5) (by decide +kernel)) (by decide +kernel)
theorem cd_e_X4_X4_showSeatsOf : Cond.selects RX4 yX4_showSeatsOf yX4_showSeatsOf ∈ cd_T := cd_T0 (List.mem_of_getElem? (i := 6) (by decide +kernel)) (by decide +kernel)
theorem cd_e_X4_X4_countSlice : Cond.selects RX4 yX4_countSlice yX4_countSlice ∈ cd_T := cd_T0 (List.mem_of_getElem? (i := 7) (by decide +kernel)) (by decide +kernel)
theorem cd_e_X4_X4_takeSamples : Cond.selects RX4 yX4_takeSamples yX4_takeSamples ∈ cd_T := cd_T0 (List.mem_of_getElem? (i := 8) (by decide +kernel)) (by decide +kernel)
theorem cd_e_X2_X2_keep : Cond.selects RX2 yX2_keep yX2_keep ∈ cd_T := cd_T0 (List.mem_of_getElem? (i := 9) (by decide +kernel)) (by decide +kernel)
theorem cd_e_X4_X4_takeTurn : Cond.selects RX4 yX4_takeTurn yX4_takeTurn ∈ cd_T := cd_T0 (List.mem_of_getElem? (i := 10) (by decide +kernel)) (by decide +kernel)
theorem cd_e_X4_X4_moveToEnd : Cond.selects RX4 yX4_moveToEnd yX4_moveToEnd ∈ cd_T := cd_T0 (List.mem_of_getElem? (i := 11) (by decide +kernel)) (by decide +kernel)
theorem cd_e_X4_X4_placeInLine : Cond.selects RX4 yX4_placeInLine yX4_placeInLine ∈ cd_T := cd_T0 (List.mem_of_getElem? (i := 12) (by decide +kernel)) (by decide +kernel)
theorem cd_e_X4_X4_groupsOn : Cond.selects RX4 yX4_groupsOn yX4_groupsOn ∈ cd_T := cd_T0 (List.mem_of_getElem? (i := 13) (by decide +kernel)) (by decide +kernel)
theorem cd_e_X6_X6_readByte : Cond.selects RX6 yX6_readByte yX6_readByte ∈ cd_T := cd_T0 (List.mem_of_getElem? (i := 14) (by decide +kernel)) (by decide +kernel)
theorem cd_e_X6_X6_readLetter : Cond.selects RX6 yX6_readLetter yX6_readLetter ∈ cd_T := cd_T0 (List.mem_of_getElem? (i := 15) (by decide +kernel)) (by decide +kernel)
theorem cd_e_X6_X6_readFigure : Cond.selects RX6 yX6_readFigure yX6_readFigure ∈ cd_T := cd_T0 (List.mem_of_getElem? (i := 16) (by decide +kernel)) (by decide +kernel)
theorem cd_e_X6_X6_readFirstFigure : Cond.selects RX6 yX6_readFirstFigure yX6_readFirstFigure ∈ cd_T := cd_T0 (List.mem_of_getElem? (i := 17) (by decide +kernel)) (by decide +kernel)
theorem cd_e_X6_X6_readEnd : Cond.selects RX6 yX6_readEnd yX6_readEnd ∈ cd_T := cd_T0 (List.mem_of_getElem? (i := 18) (by decide +kernel)) (by decide +kernel)
theorem cd_e_X7_X7_carryOut : Cond.selects RX7 yX7_carryOut yX7_carryOut ∈ cd_T := cd_T0 (List.mem_of_getElem? (i := 19) (by decide +kernel)) (by decide +kernel)
theorem cd_e_X7_X7_carryOutGroup : Cond.selects RX7 yX7_carryOutGroup yX7_carryOutGroup ∈ cd_T := cd_T0 (List.mem_of_getElem? (i := 20) (by decide +kernel)) (by decide +kernel)
theorem cd_e_X7_X7_refusedFact : Cond.selects RX7 yX7_refusedFact yX7_refusedFact ∈ cd_T := cd_T0 (List.mem_of_getElem? (i := 21) (by decide +kernel)) (by decide +kernel)
theorem cd_e_X7_X7_mixedTask : Cond.selects RX7 yX7_mixedTask yX7_mixedTask ∈ cd_T := cd_T0 (List.mem_of_getElem? (i := 22) (by decide +kernel)) (by decide +kernel)
theorem cd_e_X7_X7_mixedGroup : Cond.selects RX7 yX7_mixedGroup yX7_mixedGroup ∈ cd_T := cd_T0 (List.mem_of_getElem? (i := 23) (by decide +kernel)) (by decide +kernel)
theorem cd_e_X7_X7_mixedEvent : Cond.selects RX7 yX7_mixedEvent yX7_mixedEvent ∈ cd_T := cd_T0 (List.mem_of_getElem? (i := 24) (by decide +kernel)) (by decide +kernel)
theorem cd_e_X8_X8_no : Cond.selects RX8 yX8_no yX8_no ∈ cd_T := cd_T0 (List.mem_of_getElem? (i := 25) (by decide +kernel)) (by decide +kernel)
theorem cd_e_X8_X8_bad : Cond.selects RX8 yX8_bad yX8_bad ∈ cd_T := cd_T0 (List.mem_of_getElem? (i := 26) (by decide +kernel)) (by decide +kernel)
theorem cd_e_X8_X8_remembers : Cond.selects RX8 yX8_remembers yX8_remembers ∈ cd_T := cd_T0 (List.mem_of_getElem? (i := 27) (by decide +kernel)) (by decide +kernel)
theorem cd_e_X8_X8_exchanges : Cond.selects RX8 yX8_exchanges yX8_exchanges ∈ cd_T := cd_T0 (List.mem_of_getElem? (i := 28) (by decide +kernel)) (by decide +kernel)
theorem cd_e_X8_X8_canRate : Cond.selects RX8 yX8_canRate yX8_canRate ∈ cd_T := cd_T0 (List.mem_of_getElem? (i := 29) (by decide +kernel)) (by decide +kernel)
theorem cd_e_X8_X8_isTask : Cond.selects RX8 yX8_isTask yX8_isTask ∈ cd_T := cd_T0 (List.mem_of_getElem? (i := 30) (by decide +kernel)) (by decide +kernel)
theorem cd_e_X8_X8_hasEnded : Cond.selects RX8 yX8_hasEnded yX8_hasEnded ∈ cd_T := cd_T0 (List.mem_of_getElem? (i := 31) (by decide +kernel)) (by decide +kernel)
theorem cd_e_X8_X8_full : Cond.selects RX8 yX8_full yX8_full ∈ cd_T := cd_T0 (List.mem_of_getElem? (i := 32) (by decide +kernel)) (by decide +kernel)
theorem cd_e_X8_X8_comesOf : Cond.selects RX8 yX8_comesOf yX8_comesOf ∈ cd_T := cd_T0 (List.mem_of_getElem? (i := 33) (by decide +kernel)) (by decide +kernel)
theorem cd_e_X8_X8_rateOf : Cond.selects RX8 yX8_rateOf yX8_rateOf ∈ cd_T := cd_T0 (List.mem_of_getElem? (i := 34) (by decide +kernel)) (by decide +kernel)
theorem cd_e_X8_X8_canEnd : Cond.selects RX8 yX8_canEnd yX8_canEnd ∈ cd_T := cd_T0 (List.mem_of_getElem? (i := 35) (by decide +kernel)) (by decide +kernel)
theorem cd_e_X8_X8_moves : Cond.selects RX8 yX8_moves yX8_moves ∈ cd_T := cd_T0 (List.mem_of_getElem? (i := 36) (by decide +kernel)) (by decide +kernel)
theorem cd_e_X8_X8_ofGroup : Cond.selects RX8 yX8_ofGroup yX8_ofGroup ∈ cd_T := cd_T0 (List.mem_of_getElem? (i := 37) (by decide +kernel)) (by decide +kernel)
theorem cd_e_X8_X8_canGroup : Cond.selects RX8 yX8_canGroup yX8_canGroup ∈ cd_T := cd_T0 (List.mem_of_getElem? (i := 38) (by decide +kernel)) (by decide +kernel)
theorem cd_e_X8_X8_comesGroup : Cond.selects RX8 yX8_comesGroup yX8_comesGroup ∈ cd_T := cd_T0 (List.mem_of_getElem? (i := 39) (by decide +kernel)) (by decide +kernel)
theorem cd_e_X8_X8_addsEvent : Cond.selects RX8 yX8_addsEvent yX8_addsEvent ∈ cd_T := cd_T0 (List.mem_of_getElem? (i := 40) (by decide +kernel)) (by decide +kernel)
theorem cd_e_X8_X8_isGroup : Cond.selects RX8 yX8_isGroup yX8_isGroup ∈ cd_T := cd_T0 (List.mem_of_getElem? (i := 41) (by decide +kernel)) (by decide +kernel)
theorem cd_e_X8_X8_isRun : Cond.selects RX8 yX8_isRun yX8_isRun ∈ cd_T := cd_T0 (List.mem_of_getElem? (i := 42) (by decide +kernel)) (by decide +kernel)
theorem cd_e_X8_X8_goes : Cond.selects RX8 yX8_goes yX8_goes ∈ cd_T := cd_T0 (List.mem_of_getElem? (i := 43) (by decide +kernel)) (by decide +kernel)
theorem cd_e_X8_X8_watchers : Cond.selects RX8 yX8_watchers yX8_watchers ∈ cd_T := cd_T0 (List.mem_of_getElem? (i := 44) (by decide +kernel)) (by decide +kernel)
theorem cd_e_X8_X8_isOf : Cond.selects RX8 yX8_isOf yX8_isOf ∈ cd_T := cd_T0 (List.mem_of_getElem? (i := 45) (by decide +kernel)) (by decide +kernel)
theorem cd_e_X8_X8_joins : Cond.selects RX8 yX8_joins yX8_joins ∈ cd_T := cd_T0 (List.mem_of_getElem? (i := 46) (by decide +kernel)) (by decide +kernel)
theorem cd_e_X8_X8_clears : Cond.selects RX8 yX8_clears yX8_clears ∈ cd_T := cd_T0 (List.mem_of_getElem? (i := 47) (by decide +kernel)) (by decide +kernel)
theorem cd_e_X8_X8_isJoined : Cond.selects RX8 yX8_isJoined yX8_isJoined ∈ cd_T := cd_T0 (List.mem_of_getElem? (i := 48) (by decide +kernel)) (by decide +kernel)
theorem cd_e_X8_X8_canSit : Cond.selects RX8 yX8_canSit yX8_canSit ∈ cd_T := cd_T0 (List.mem_of_getElem? (i := 49) (by decide +kernel)) (by decide +kernel)
theorem cd_e_X8_X8_isRow : Cond.selects RX8 yX8_isRow yX8_isRow ∈ cd_T := cd_T0 (List.mem_of_getElem? (i := 50) (by decide +kernel)) (by decide +kernel)
theorem cd_e_X8_X8_counts : Cond.selects RX8 yX8_counts yX8_counts ∈ cd_T := cd_T0 (List.mem_of_getElem? (i := 51) (by decide +kernel)) (by decide +kernel)
theorem cd_e_X8_X8_samplesCome : Cond.selects RX8 yX8_samplesCome yX8_samplesCome ∈ cd_T := cd_T0 (List.mem_of_getElem? (i := 52) (by decide +kernel)) (by decide +kernel)
theorem cd_e_X8_X8_tellsDue : Cond.selects RX8 yX8_tellsDue yX8_tellsDue ∈ cd_T := cd_T0 (List.mem_of_getElem? (i := 53) (by decide +kernel)) (by decide +kernel)
theorem cd_e_X8_X8_tellsOne : Cond.selects RX8 yX8_tellsOne yX8_tellsOne ∈ cd_T := cd_T0 (List.mem_of_getElem? (i := 54) (by decide +kernel)) (by decide +kernel)
theorem cd_e_X8_X8_turns : Cond.selects RX8 yX8_turns yX8_turns ∈ cd_T := cd_T0 (List.mem_of_getElem? (i := 55) (by decide +kernel)) (by decide +kernel)
theorem cd_e_X8_X8_aboutTask : Cond.selects RX8 yX8_aboutTask yX8_aboutTask ∈ cd_T := cd_T0 (List.mem_of_getElem? (i := 56) (by decide +kernel)) (by decide +kernel)
theorem cd_e_X8_X8_aboutGroup : Cond.selects RX8 yX8_aboutGroup yX8_aboutGroup ∈ cd_T := cd_T0 (List.mem_of_getElem? (i := 57) (by decide +kernel)) (by decide +kernel)
theorem cd_e_X8_X8_placeOf : Cond.selects RX8 yX8_placeOf yX8_placeOf ∈ cd_T := cd_T0 (List.mem_of_getElem? (i := 58) (by decide +kernel)) (by decide +kernel)
theorem cd_e_X8_X8_isEvent : Cond.selects RX8 yX8_isEvent yX8_isEvent ∈ cd_T := cd_T0 (List.mem_of_getElem? (i := 59) (by decide +kernel)) (by decide +kernel)
theorem cd_e_X8_X8_sumAt : Cond.selects RX8 yX8_sumAt yX8_sumAt ∈ cd_T := cd_T0 (List.mem_of_getElem? (i := 60) (by decide +kernel)) (by decide +kernel)
theorem cd_e_X8_X8_scaledOf : Cond.selects RX8 yX8_scaledOf yX8_scaledOf ∈ cd_T := cd_T0 (List.mem_of_getElem? (i := 61) (by decide +kernel)) (by decide +kernel)
theorem cd_e_X8_X8_fitOf : Cond.selects RX8 yX8_fitOf yX8_fitOf ∈ cd_T := cd_T0 (List.mem_of_getElem? (i := 62) (by decide +kernel)) (by decide +kernel)
theorem cd_e_X8_X8_toldOf : Cond.selects RX8 yX8_toldOf yX8_toldOf ∈ cd_T := cd_T0 (List.mem_of_getElem? (i := 63) (by decide +kernel)) (by decide +kernel)
theorem cd_e_X8_X8_onNow : Cond.selects RX8 yX8_onNow yX8_onNow ∈ cd_T := cd_T0 (List.mem_of_getElem? (i := 64) (by decide +kernel)) (by decide +kernel)
theorem cd_e_X8_X8_isRead : Cond.selects RX8 yX8_isRead yX8_isRead ∈ cd_T := cd_T0 (List.mem_of_getElem? (i := 65) (by decide +kernel)) (by decide +kernel)
theorem cd_e_X8_X8_blanks : Cond.selects RX8 yX8_blanks yX8_blanks ∈ cd_T := cd_T0 (List.mem_of_getElem? (i := 66) (by decide +kernel)) (by decide +kernel)
theorem cd_e_X8_X8_isAt : Cond.selects RX8 yX8_isAt yX8_isAt ∈ cd_T := cd_T0 (List.mem_of_getElem? (i := 67) (by decide +kernel)) (by decide +kernel)
theorem cd_e_X8_X8_takesOrder : Cond.selects RX8 yX8_takesOrder yX8_takesOrder ∈ cd_T := cd_T0 (List.mem_of_getElem? (i := 68) (by decide +kernel)) (by decide +kernel)
theorem cd_e_X8_X8_fails : Cond.selects RX8 yX8_fails yX8_fails ∈ cd_T := cd_T0 (List.mem_of_getElem? (i := 69) (by decide +kernel)) (by decide +kernel)
theorem cd_e_X8_X8_takesNumber : Cond.selects RX8 yX8_takesNumber yX8_takesNumber ∈ cd_T := cd_T0 (List.mem_of_getElem? (i := 70) (by decide +kernel)) (by decide +kernel)
theorem cd_e_X8_X8_obeys : Cond.selects RX8 yX8_obeys yX8_obeys ∈ cd_T := cd_T0 (List.mem_of_getElem? (i := 71) (by decide +kernel)) (by decide +kernel)
theorem cd_e_X8_X8_puts : Cond.selects RX8 yX8_puts yX8_puts ∈ cd_T := cd_T0 (List.mem_of_getElem? (i := 72) (by decide +kernel)) (by decide +kernel)
theorem cd_e_X8_X8_groupTold : Cond.selects RX8 yX8_groupTold yX8_groupTold ∈ cd_T := cd_T0 (List.mem_of_getElem? (i := 73) (by decide +kernel)) (by decide +kernel)
theorem cd_e_X8_X8_swapsAside : Cond.selects RX8 yX8_swapsAside yX8_swapsAside ∈ cd_T := cd_T0 (List.mem_of_getElem? (i := 74) (by decide +kernel)) (by decide +kernel)
theorem cd_e_X8_X8_refusedOf : Cond.selects RX8 yX8_refusedOf yX8_refusedOf ∈ cd_T := cd_T0 (List.mem_of_getElem? (i := 75) (by decide +kernel)) (by decide +kernel)
theorem cd_e_X8_X8_mix : Cond.selects RX8 yX8_mix yX8_mix ∈ cd_T := cd_T0 (List.mem_of_getElem? (i := 76) (by decide +kernel)) (by decide +kernel)
theorem cd_e_X8_X8_mixGroup : Cond.selects RX8 yX8_mixGroup yX8_mixGroup ∈ cd_T := cd_T0 (List.mem_of_getElem? (i := 77) (by decide +kernel)) (by decide +kernel)
theorem cd_n_L : Cond.initialized RL ∈ cd_T := cd_T1 (List.mem_of_getElem? (i := 0) (by decide +kernel)) (by decide +kernel)
theorem cd_n_X7 : Cond.initialized RX7 ∈ cd_T := cd_T1 (List.mem_of_getElem? (i := 1) (by decide +kernel)) (by decide +kernel)
theorem cd_n_X3 : Cond.initialized RX3 ∈ cd_T := cd_T1 (List.mem_of_getElem? (i := 2) (by decide +kernel)) (by decide +kernel)
theorem cd_n_X4 : Cond.initialized RX4 ∈ cd_T := cd_T1 (List.mem_of_getElem? (i := 3) (by decide +kernel)) (by decide +kernel)
theorem cd_n_X5 : Cond.initialized RX5 ∈ cd_T := cd_T1 (List.mem_of_getElem? (i := 4) (by decide +kernel)) (by decide +kernel)
theorem cd_n_X2 : Cond.initialized RX2 ∈ cd_T := cd_T1 (List.mem_of_getElem? (i := 5) (by decide +kernel)) (by decide +kernel)
theorem cd_n_X0 : Cond.initialized RX0 ∈ cd_T := cd_T1 (List.mem_of_getElem? (i := 6) (by decide +kernel)) (by decide +kernel)
theorem cd_n_X1 : Cond.initialized RX1 ∈ cd_T := cd_T1 (List.mem_of_getElem? (i := 7) (by decide +kernel)) (by decide +kernel)
theorem cd_n_X6 : Cond.initialized RX6 ∈ cd_T := cd_T1 (List.mem_of_getElem? (i := 8) (by decide +kernel)) (by decide +kernel)
theorem cd_n_X8 : Cond.initialized RX8 ∈ cd_T := cd_T1 (List.mem_of_getElem? (i := 9) (by decide +kernel)) (by decide +kernel)
theorem cd_n_J9 : Cond.initialized RJ9 ∈ cd_T := cd_T1 (List.mem_of_getElem? (i := 10) (by decide +kernel)) (by decide +kernel)
theorem cd_n_J10 : Cond.initialized RJ10 ∈ cd_T := cd_T1 (List.mem_of_getElem? (i := 11) (by decide +kernel)) (by decide +kernel)
theorem cd_k_L_7 : Cond.classLink RL 7 RX7 ∈ cd_T := cd_T1 (List.mem_of_getElem? (i := 12) (by decide +kernel)) (by decide +kernel)
theorem cd_j_X7 : Cond.instantiable RX7 4 ∈ cd_T := cd_T1 (List.mem_of_getElem? (i := 13) (by decide +kernel)) (by decide +kernel)
theorem cd_m_L_9 : Cond.methodLink RL 9 yX7_init ∈ cd_T := cd_T1 (List.mem_of_getElem? (i := 14) (by decide +kernel)) (by decide +kernel)
theorem cd_i_X7_init : Cond.instanceMethod yX7_init ∈ cd_T := cd_T1 (List.mem_of_getElem? (i := 15) (by decide +kernel)) (by decide +kernel)
theorem cd_c_X7_init : Cond.code yX7_init cX7_init 2 none ∈ cd_T := cd_T1 (List.mem_of_getElem? (i := 16) (by decide +kernel)) (by decide +kernel)
theorem cd_m_X7_1 : Cond.methodLink RX7 1 objectInit ∈ cd_T := cd_T1 (List.mem_of_getElem? (i := 17) (by decide +kernel)) (by decide +kernel)
theorem cd_i_java_lang_Object__init_ : Cond.instanceMethod objectInit ∈ cd_T := cd_T1 (List.mem_of_getElem? (i := 18) (by decide +kernel)) (by decide +kernel)
theorem cd_c_java_lang_Object__init_ : Cond.code objectInit object_method_1_code 1 none ∈ cd_T := cd_T1 (List.mem_of_getElem? (i := 19) (by decide +kernel)) (by decide +kernel)
theorem cd_k_X7_7 : Cond.classLink RX7 7 RX3 ∈ cd_T := cd_T1 (List.mem_of_getElem? (i := 20) (by decide +kernel)) (by decide +kernel)
theorem cd_j_X3 : Cond.instantiable RX3 4 ∈ cd_T := cd_T1 (List.mem_of_getElem? (i := 21) (by decide +kernel)) (by decide +kernel)
theorem cd_m_X7_9 : Cond.methodLink RX7 9 yX3_init ∈ cd_T := cd_T1 (List.mem_of_getElem? (i := 22) (by decide +kernel)) (by decide +kernel)
theorem cd_i_X3_init : Cond.instanceMethod yX3_init ∈ cd_T := cd_T1 (List.mem_of_getElem? (i := 23) (by decide +kernel)) (by decide +kernel)
theorem cd_c_X3_init : Cond.code yX3_init cX3_init 1 none ∈ cd_T := cd_T1 (List.mem_of_getElem? (i := 24) (by decide +kernel)) (by decide +kernel)
theorem cd_m_X3_3 : Cond.methodLink RX3 3 objectInit ∈ cd_T := cd_T1 (List.mem_of_getElem? (i := 25) (by decide +kernel)) (by decide +kernel)
theorem cd_f_X3_18 : Cond.fieldLink RX3 18 (TX3 0).1 (TX3 0).2.1 (TX3 0).2.2.1 ∈ cd_T := cd_T1 (List.mem_of_getElem? (i := 26) (by decide +kernel)) (by decide +kernel)
theorem cd_f_X3_22 : Cond.fieldLink RX3 22 (TX3 1).1 (TX3 1).2.1 (TX3 1).2.2.1 ∈ cd_T := cd_T1 (List.mem_of_getElem? (i := 27) (by decide +kernel)) (by decide +kernel)
theorem cd_f_X3_9 : Cond.fieldLink RX3 9 (TX3 2).1 (TX3 2).2.1 (TX3 2).2.2.1 ∈ cd_T := cd_T1 (List.mem_of_getElem? (i := 28) (by decide +kernel)) (by decide +kernel)
theorem cd_f_X3_15 : Cond.fieldLink RX3 15 (TX3 3).1 (TX3 3).2.1 (TX3 3).2.2.1 ∈ cd_T := cd_T1 (List.mem_of_getElem? (i := 29) (by decide +kernel)) (by decide +kernel)
theorem cd_f_X4_194 : Cond.fieldLink RX4 194 (TX3 3).1 (TX3 3).2.1 (TX3 3).2.2.1 ∈ cd_T := cd_T1 (List.mem_of_getElem? (i := 30) (by decide +kernel)) (by decide +kernel)
theorem cd_a_Jvm_ClassFile_FieldType_int : Cond.arrayClass .int ∈ cd_T := cd_T1 (List.mem_of_getElem? (i := 40) (by decide +kernel)) (by decide +kernel)
theorem cd_k_X7_10 : Cond.classLink RX7 10 RX4 ∈ cd_T := cd_T1 (List.mem_of_getElem? (i := 41) (by decide +kernel)) (by decide +kernel)
theorem cd_j_X4 : Cond.instantiable RX4 11 ∈ cd_T := cd_T1 (List.mem_of_getElem? (i := 42) (by decide +kernel)) (by decide +kernel)
theorem cd_m_X7_12 : Cond.methodLink RX7 12 yX4_init ∈ cd_T := cd_T1 (List.mem_of_getElem? (i := 43) (by decide +kernel)) (by decide +kernel)
theorem cd_i_X4_init : Cond.instanceMethod yX4_init ∈ cd_T := cd_T1 (List.mem_of_getElem? (i := 44) (by decide +kernel)) (by decide +kernel)
theorem cd_c_X4_init : Cond.code yX4_init cX4_init 3 none ∈ cd_T := cd_T1 (List.mem_of_getElem? (i := 45) (by decide +kernel)) (by decide +kernel)
theorem cd_m_X4_3 : Cond.methodLink RX4 3 objectInit ∈ cd_T := cd_T1 (List.mem_of_getElem? (i := 46) (by decide +kernel)) (by decide +kernel)
theorem cd_k_X4_22 : Cond.classLink RX4 22 RX5 ∈ cd_T := cd_T1 (List.mem_of_getElem? (i := 47) (by decide +kernel)) (by decide +kernel)
theorem cd_j_X5 : Cond.instantiable RX5 4 ∈ cd_T := cd_T1 (List.mem_of_getElem? (i := 48) (by decide +kernel)) (by decide +kernel)
theorem cd_m_X4_24 : Cond.methodLink RX4 24 yX5_init ∈ cd_T := cd_T1 (List.mem_of_getElem? (i := 49) (by decide +kernel)) (by decide +kernel)
theorem cd_i_X5_init : Cond.instanceMethod yX5_init ∈ cd_T := cd_T1 (List.mem_of_getElem? (i := 50) (by decide +kernel)) (by decide +kernel)
theorem cd_c_X5_init : Cond.code yX5_init cX5_init 1 none ∈ cd_T := cd_T1 (List.mem_of_getElem? (i := 51) (by decide +kernel)) (by decide +kernel)
theorem cd_m_X5_3 : Cond.methodLink RX5 3 objectInit ∈ cd_T := cd_T1 (List.mem_of_getElem? (i := 52) (by decide +kernel)) (by decide +kernel)
theorem cd_f_X5_9 : Cond.fieldLink RX5 9 (TX5 0).1 (TX5 0).2.1 (TX5 0).2.2.1 ∈ cd_T := cd_T1 (List.mem_of_getElem? (i := 53) (by decide +kernel)) (by decide +kernel)
theorem cd_f_X7_171 : Cond.fieldLink RX7 171 (TX5 0).1 (TX5 0).2.1 (TX5 0).2.2.1 ∈ cd_T := cd_T1 (List.mem_of_getElem? (i := 54) (by decide +kernel)) (by decide +kernel)
theorem cd_f_X4_243 : Cond.fieldLink RX4 243 (TX5 0).1 (TX5 0).2.1 (TX5 0).2.2.1 ∈ cd_T := cd_T1 (List.mem_of_getElem? (i := 55) (by decide +kernel)) (by decide +kernel)
theorem cd_f_X5_15 : Cond.fieldLink RX5 15 (TX5 1).1 (TX5 1).2.1 (TX5 1).2.2.1 ∈ cd_T := cd_T1 (List.mem_of_getElem? (i := 56) (by decide +kernel)) (by decide +kernel)
theorem cd_f_X4_93 : Cond.fieldLink RX4 93 (TX5 1).1 (TX5 1).2.1 (TX5 1).2.2.1 ∈ cd_T := cd_T1 (List.mem_of_getElem? (i := 57) (by decide +kernel)) (by decide +kernel)
theorem cd_f_X5_19 : Cond.fieldLink RX5 19 (TX5 2).1 (TX5 2).2.1 (TX5 2).2.2.1 ∈ cd_T := cd_T1 (List.mem_of_getElem? (i := 58) (by decide +kernel)) (by decide +kernel)
theorem cd_f_X4_96 : Cond.fieldLink RX4 96 (TX5 2).1 (TX5 2).2.1 (TX5 2).2.2.1 ∈ cd_T := cd_T1 (List.mem_of_getElem? (i := 59) (by decide +kernel)) (by decide +kernel)
theorem cd_f_X5_22 : Cond.fieldLink RX5 22 (TX5 3).1 (TX5 3).2.1 (TX5 3).2.2.1 ∈ cd_T := cd_T1 (List.mem_of_getElem? (i := 60) (by decide +kernel)) (by decide +kernel)
theorem cd_k_X4_29 : Cond.classLink RX4 29 RX0 ∈ cd_T := cd_T1 (List.mem_of_getElem? (i := 70) (by decide +kernel)) (by decide +kernel)
theorem cd_k_X4_38 : Cond.classLink RX4 38 RX2 ∈ cd_T := cd_T1 (List.mem_of_getElem? (i := 72) (by decide +kernel)) (by decide +kernel)
theorem cd_j_X2 : Cond.instantiable RX2 8 ∈ cd_T := cd_T1 (List.mem_of_getElem? (i := 73) (by decide +kernel)) (by decide +kernel)
theorem cd_m_X4_40 : Cond.methodLink RX4 40 yX2_init ∈ cd_T := cd_T1 (List.mem_of_getElem? (i := 74) (by decide +kernel)) (by decide +kernel)
theorem cd_i_X2_init : Cond.instanceMethod yX2_init ∈ cd_T := cd_T1 (List.mem_of_getElem? (i := 75) (by decide +kernel)) (by decide +kernel)
theorem cd_c_X2_init : Cond.code yX2_init cX2_init 1 none ∈ cd_T := cd_T1 (List.mem_of_getElem? (i := 76) (by decide +kernel)) (by decide +kernel)
theorem cd_m_X2_3 : Cond.methodLink RX2 3 objectInit ∈ cd_T := cd_T1 (List.mem_of_getElem? (i := 77) (by decide +kernel)) (by decide +kernel)
theorem cd_f_X2_27 : Cond.fieldLink RX2 27 (TX2 0).1 (TX2 0).2.1 (TX2 0).2.2.1 ∈ cd_T := cd_T1 (List.mem_of_getElem? (i := 78) (by decide +kernel)) (by decide +kernel)
theorem cd_f_X4_247 : Cond.fieldLink RX4 247 (TX2 0).1 (TX2 0).2.1 (TX2 0).2.2.1 ∈ cd_T := cd_T1 (List.mem_of_getElem? (i := 79) (by decide +kernel)) (by decide +kernel)
theorem cd_f_X2_31 : Cond.fieldLink RX2 31 (TX2 1).1 (TX2 1).2.1 (TX2 1).2.2.1 ∈ cd_T := cd_T1 (List.mem_of_getElem? (i := 80) (by decide +kernel)) (by decide +kernel)
theorem cd_f_X7_181 : Cond.fieldLink RX7 181 (TX2 1).1 (TX2 1).2.1 (TX2 1).2.2.1 ∈ cd_T := cd_T1 (List.mem_of_getElem? (i := 81) (by decide +kernel)) (by decide +kernel)
theorem cd_f_X4_244 : Cond.fieldLink RX4 244 (TX2 1).1 (TX2 1).2.1 (TX2 1).2.2.1 ∈ cd_T := cd_T1 (List.mem_of_getElem? (i := 82) (by decide +kernel)) (by decide +kernel)
theorem cd_f_X2_34 : Cond.fieldLink RX2 34 (TX2 2).1 (TX2 2).2.1 (TX2 2).2.2.1 ∈ cd_T := cd_T1 (List.mem_of_getElem? (i := 83) (by decide +kernel)) (by decide +kernel)
theorem cd_f_X4_250 : Cond.fieldLink RX4 250 (TX2 2).1 (TX2 2).2.1 (TX2 2).2.2.1 ∈ cd_T := cd_T1 (List.mem_of_getElem? (i := 84) (by decide +kernel)) (by decide +kernel)
theorem cd_f_X2_9 : Cond.fieldLink RX2 9 (TX2 3).1 (TX2 3).2.1 (TX2 3).2.2.1 ∈ cd_T := cd_T1 (List.mem_of_getElem? (i := 85) (by decide +kernel)) (by decide +kernel)
theorem cd_f_X2_15 : Cond.fieldLink RX2 15 (TX2 4).1 (TX2 4).2.1 (TX2 4).2.2.1 ∈ cd_T := cd_T1 (List.mem_of_getElem? (i := 86) (by decide +kernel)) (by decide +kernel)
theorem cd_f_X2_18 : Cond.fieldLink RX2 18 (TX2 5).1 (TX2 5).2.1 (TX2 5).2.2.1 ∈ cd_T := cd_T1 (List.mem_of_getElem? (i := 87) (by decide +kernel)) (by decide +kernel)
theorem cd_f_X2_21 : Cond.fieldLink RX2 21 (TX2 6).1 (TX2 6).2.1 (TX2 6).2.2.1 ∈ cd_T := cd_T1 (List.mem_of_getElem? (i := 88) (by decide +kernel)) (by decide +kernel)
theorem cd_f_X2_24 : Cond.fieldLink RX2 24 (TX2 7).1 (TX2 7).2.1 (TX2 7).2.2.1 ∈ cd_T := cd_T1 (List.mem_of_getElem? (i := 89) (by decide +kernel)) (by decide +kernel)
theorem cd_j_X0 : Cond.instantiable RX0 16 ∈ cd_T := cd_T1 (List.mem_of_getElem? (i := 107) (by decide +kernel)) (by decide +kernel)
theorem cd_m_X4_49 : Cond.methodLink RX4 49 yX0_init ∈ cd_T := cd_T1 (List.mem_of_getElem? (i := 108) (by decide +kernel)) (by decide +kernel)
theorem cd_i_X0_init : Cond.instanceMethod yX0_init ∈ cd_T := cd_T1 (List.mem_of_getElem? (i := 109) (by decide +kernel)) (by decide +kernel)
theorem cd_c_X0_init : Cond.code yX0_init cX0_init 1 none ∈ cd_T := cd_T1 (List.mem_of_getElem? (i := 110) (by decide +kernel)) (by decide +kernel)
theorem cd_m_X0_3 : Cond.methodLink RX0 3 objectInit ∈ cd_T := cd_T1 (List.mem_of_getElem? (i := 111) (by decide +kernel)) (by decide +kernel)
theorem cd_f_X0_30 : Cond.fieldLink RX0 30 (TX0 0).1 (TX0 0).2.1 (TX0 0).2.2.1 ∈ cd_T := cd_T1 (List.mem_of_getElem? (i := 112) (by decide +kernel)) (by decide +kernel)
theorem cd_f_X4_147 : Cond.fieldLink RX4 147 (TX0 0).1 (TX0 0).2.1 (TX0 0).2.2.1 ∈ cd_T := cd_T1 (List.mem_of_getElem? (i := 113) (by decide +kernel)) (by decide +kernel)
theorem cd_f_X0_34 : Cond.fieldLink RX0 34 (TX0 1).1 (TX0 1).2.1 (TX0 1).2.2.1 ∈ cd_T := cd_T1 (List.mem_of_getElem? (i := 114) (by decide +kernel)) (by decide +kernel)
theorem cd_f_X4_214 : Cond.fieldLink RX4 214 (TX0 1).1 (TX0 1).2.1 (TX0 1).2.2.1 ∈ cd_T := cd_T1 (List.mem_of_getElem? (i := 115) (by decide +kernel)) (by decide +kernel)
theorem cd_f_X0_37 : Cond.fieldLink RX0 37 (TX0 2).1 (TX0 2).2.1 (TX0 2).2.2.1 ∈ cd_T := cd_T1 (List.mem_of_getElem? (i := 116) (by decide +kernel)) (by decide +kernel)
theorem cd_f_X4_165 : Cond.fieldLink RX4 165 (TX0 2).1 (TX0 2).2.1 (TX0 2).2.2.1 ∈ cd_T := cd_T1 (List.mem_of_getElem? (i := 117) (by decide +kernel)) (by decide +kernel)
theorem cd_f_X0_41 : Cond.fieldLink RX0 41 (TX0 3).1 (TX0 3).2.1 (TX0 3).2.2.1 ∈ cd_T := cd_T1 (List.mem_of_getElem? (i := 118) (by decide +kernel)) (by decide +kernel)
theorem cd_f_X4_150 : Cond.fieldLink RX4 150 (TX0 3).1 (TX0 3).2.1 (TX0 3).2.2.1 ∈ cd_T := cd_T1 (List.mem_of_getElem? (i := 119) (by decide +kernel)) (by decide +kernel)
theorem cd_f_X0_44 : Cond.fieldLink RX0 44 (TX0 4).1 (TX0 4).2.1 (TX0 4).2.2.1 ∈ cd_T := cd_T1 (List.mem_of_getElem? (i := 120) (by decide +kernel)) (by decide +kernel)
theorem cd_f_X4_117 : Cond.fieldLink RX4 117 (TX0 4).1 (TX0 4).2.1 (TX0 4).2.2.1 ∈ cd_T := cd_T1 (List.mem_of_getElem? (i := 121) (by decide +kernel)) (by decide +kernel)
theorem cd_f_X0_47 : Cond.fieldLink RX0 47 (TX0 5).1 (TX0 5).2.1 (TX0 5).2.2.1 ∈ cd_T := cd_T1 (List.mem_of_getElem? (i := 122) (by decide +kernel)) (by decide +kernel)
theorem cd_f_X4_175 : Cond.fieldLink RX4 175 (TX0 5).1 (TX0 5).2.1 (TX0 5).2.2.1 ∈ cd_T := cd_T1 (List.mem_of_getElem? (i := 123) (by decide +kernel)) (by decide +kernel)
theorem cd_f_X0_50 : Cond.fieldLink RX0 50 (TX0 6).1 (TX0 6).2.1 (TX0 6).2.2.1 ∈ cd_T := cd_T1 (List.mem_of_getElem? (i := 124) (by decide +kernel)) (by decide +kernel)
theorem cd_f_X3_25 : Cond.fieldLink RX3 25 (TX0 6).1 (TX0 6).2.1 (TX0 6).2.2.1 ∈ cd_T := cd_T1 (List.mem_of_getElem? (i := 125) (by decide +kernel)) (by decide +kernel)
theorem cd_f_X4_188 : Cond.fieldLink RX4 188 (TX0 6).1 (TX0 6).2.1 (TX0 6).2.2.1 ∈ cd_T := cd_T1 (List.mem_of_getElem? (i := 126) (by decide +kernel)) (by decide +kernel)
theorem cd_f_X7_193 : Cond.fieldLink RX7 193 (TX0 6).1 (TX0 6).2.1 (TX0 6).2.2.1 ∈ cd_T := cd_T1 (List.mem_of_getElem? (i := 127) (by decide +kernel)) (by decide +kernel)
theorem cd_f_X0_53 : Cond.fieldLink RX0 53 (TX0 7).1 (TX0 7).2.1 (TX0 7).2.2.1 ∈ cd_T := cd_T1 (List.mem_of_getElem? (i := 128) (by decide +kernel)) (by decide +kernel)
theorem cd_f_X4_211 : Cond.fieldLink RX4 211 (TX0 7).1 (TX0 7).2.1 (TX0 7).2.2.1 ∈ cd_T := cd_T1 (List.mem_of_getElem? (i := 129) (by decide +kernel)) (by decide +kernel)
theorem cd_f_X0_56 : Cond.fieldLink RX0 56 (TX0 8).1 (TX0 8).2.1 (TX0 8).2.2.1 ∈ cd_T := cd_T1 (List.mem_of_getElem? (i := 130) (by decide +kernel)) (by decide +kernel)
theorem cd_f_X4_111 : Cond.fieldLink RX4 111 (TX0 8).1 (TX0 8).2.1 (TX0 8).2.2.1 ∈ cd_T := cd_T1 (List.mem_of_getElem? (i := 131) (by decide +kernel)) (by decide +kernel)
theorem cd_f_X0_59 : Cond.fieldLink RX0 59 (TX0 9).1 (TX0 9).2.1 (TX0 9).2.2.1 ∈ cd_T := cd_T1 (List.mem_of_getElem? (i := 132) (by decide +kernel)) (by decide +kernel)
theorem cd_f_X4_114 : Cond.fieldLink RX4 114 (TX0 9).1 (TX0 9).2.1 (TX0 9).2.2.1 ∈ cd_T := cd_T1 (List.mem_of_getElem? (i := 133) (by decide +kernel)) (by decide +kernel)
theorem cd_f_X0_9 : Cond.fieldLink RX0 9 (TX0 10).1 (TX0 10).2.1 (TX0 10).2.2.1 ∈ cd_T := cd_T1 (List.mem_of_getElem? (i := 134) (by decide +kernel)) (by decide +kernel)
theorem cd_f_X3_30 : Cond.fieldLink RX3 30 (TX0 10).1 (TX0 10).2.1 (TX0 10).2.2.1 ∈ cd_T := cd_T1 (List.mem_of_getElem? (i := 135) (by decide +kernel)) (by decide +kernel)
theorem cd_f_X4_201 : Cond.fieldLink RX4 201 (TX0 10).1 (TX0 10).2.1 (TX0 10).2.2.1 ∈ cd_T := cd_T1 (List.mem_of_getElem? (i := 136) (by decide +kernel)) (by decide +kernel)
theorem cd_f_X0_15 : Cond.fieldLink RX0 15 (TX0 11).1 (TX0 11).2.1 (TX0 11).2.2.1 ∈ cd_T := cd_T1 (List.mem_of_getElem? (i := 137) (by decide +kernel)) (by decide +kernel)
theorem cd_f_X4_225 : Cond.fieldLink RX4 225 (TX0 11).1 (TX0 11).2.1 (TX0 11).2.2.1 ∈ cd_T := cd_T1 (List.mem_of_getElem? (i := 138) (by decide +kernel)) (by decide +kernel)
theorem cd_f_X0_18 : Cond.fieldLink RX0 18 (TX0 12).1 (TX0 12).2.1 (TX0 12).2.2.1 ∈ cd_T := cd_T1 (List.mem_of_getElem? (i := 139) (by decide +kernel)) (by decide +kernel)
theorem cd_f_X4_191 : Cond.fieldLink RX4 191 (TX0 12).1 (TX0 12).2.1 (TX0 12).2.2.1 ∈ cd_T := cd_T1 (List.mem_of_getElem? (i := 140) (by decide +kernel)) (by decide +kernel)
theorem cd_f_X0_21 : Cond.fieldLink RX0 21 (TX0 13).1 (TX0 13).2.1 (TX0 13).2.2.1 ∈ cd_T := cd_T1 (List.mem_of_getElem? (i := 141) (by decide +kernel)) (by decide +kernel)
theorem cd_f_X0_24 : Cond.fieldLink RX0 24 (TX0 14).1 (TX0 14).2.1 (TX0 14).2.2.1 ∈ cd_T := cd_T1 (List.mem_of_getElem? (i := 142) (by decide +kernel)) (by decide +kernel)
theorem cd_f_X4_195 : Cond.fieldLink RX4 195 (TX0 14).1 (TX0 14).2.1 (TX0 14).2.2.1 ∈ cd_T := cd_T1 (List.mem_of_getElem? (i := 143) (by decide +kernel)) (by decide +kernel)
theorem cd_f_X0_27 : Cond.fieldLink RX0 27 (TX0 15).1 (TX0 15).2.1 (TX0 15).2.2.1 ∈ cd_T := cd_T1 (List.mem_of_getElem? (i := 144) (by decide +kernel)) (by decide +kernel)
theorem cd_f_X4_9 : Cond.fieldLink RX4 9 (TX4 0).1 (TX4 0).2.1 (TX4 0).2.2.1 ∈ cd_T := cd_T1 (List.mem_of_getElem? (i := 178) (by decide +kernel)) (by decide +kernel)
theorem cd_f_X4_15 : Cond.fieldLink RX4 15 (TX4 1).1 (TX4 1).2.1 (TX4 1).2.2.1 ∈ cd_T := cd_T1 (List.mem_of_getElem? (i := 179) (by decide +kernel)) (by decide +kernel)
theorem cd_f_X4_50 : Cond.fieldLink RX4 50 (TX4 2).1 (TX4 2).2.1 (TX4 2).2.2.1 ∈ cd_T := cd_T1 (List.mem_of_getElem? (i := 180) (by decide +kernel)) (by decide +kernel)
theorem cd_f_X4_53 : Cond.fieldLink RX4 53 (TX4 3).1 (TX4 3).2.1 (TX4 3).2.2.1 ∈ cd_T := cd_T1 (List.mem_of_getElem? (i := 181) (by decide +kernel)) (by decide +kernel)
theorem cd_f_X7_177 : Cond.fieldLink RX7 177 (TX4 3).1 (TX4 3).2.1 (TX4 3).2.2.1 ∈ cd_T := cd_T1 (List.mem_of_getElem? (i := 182) (by decide +kernel)) (by decide +kernel)
theorem cd_f_X4_56 : Cond.fieldLink RX4 56 (TX4 4).1 (TX4 4).2.1 (TX4 4).2.2.1 ∈ cd_T := cd_T1 (List.mem_of_getElem? (i := 183) (by decide +kernel)) (by decide +kernel)
theorem cd_f_X4_18 : Cond.fieldLink RX4 18 (TX4 5).1 (TX4 5).2.1 (TX4 5).2.2.1 ∈ cd_T := cd_T1 (List.mem_of_getElem? (i := 184) (by decide +kernel)) (by decide +kernel)
theorem cd_f_X7_168 : Cond.fieldLink RX7 168 (TX4 5).1 (TX4 5).2.1 (TX4 5).2.2.1 ∈ cd_T := cd_T1 (List.mem_of_getElem? (i := 185) (by decide +kernel)) (by decide +kernel)
theorem cd_f_X4_25 : Cond.fieldLink RX4 25 (TX4 6).1 (TX4 6).2.1 (TX4 6).2.2.1 ∈ cd_T := cd_T1 (List.mem_of_getElem? (i := 186) (by decide +kernel)) (by decide +kernel)
theorem cd_f_X7_54 : Cond.fieldLink RX7 54 (TX4 6).1 (TX4 6).2.1 (TX4 6).2.2.1 ∈ cd_T := cd_T1 (List.mem_of_getElem? (i := 187) (by decide +kernel)) (by decide +kernel)
theorem cd_f_X4_31 : Cond.fieldLink RX4 31 (TX4 7).1 (TX4 7).2.1 (TX4 7).2.2.1 ∈ cd_T := cd_T1 (List.mem_of_getElem? (i := 188) (by decide +kernel)) (by decide +kernel)
theorem cd_f_X7_189 : Cond.fieldLink RX7 189 (TX4 7).1 (TX4 7).2.1 (TX4 7).2.2.1 ∈ cd_T := cd_T1 (List.mem_of_getElem? (i := 189) (by decide +kernel)) (by decide +kernel)
theorem cd_f_X4_35 : Cond.fieldLink RX4 35 (TX4 8).1 (TX4 8).2.1 (TX4 8).2.2.1 ∈ cd_T := cd_T1 (List.mem_of_getElem? (i := 190) (by decide +kernel)) (by decide +kernel)
theorem cd_f_X4_41 : Cond.fieldLink RX4 41 (TX4 9).1 (TX4 9).2.1 (TX4 9).2.2.1 ∈ cd_T := cd_T1 (List.mem_of_getElem? (i := 191) (by decide +kernel)) (by decide +kernel)
theorem cd_f_X7_116 : Cond.fieldLink RX7 116 (TX4 9).1 (TX4 9).2.1 (TX4 9).2.2.1 ∈ cd_T := cd_T1 (List.mem_of_getElem? (i := 192) (by decide +kernel)) (by decide +kernel)
theorem cd_f_X4_45 : Cond.fieldLink RX4 45 (TX4 10).1 (TX4 10).2.1 (TX4 10).2.2.1 ∈ cd_T := cd_T1 (List.mem_of_getElem? (i := 193) (by decide +kernel)) (by decide +kernel)
theorem cd_k_X7_21 : Cond.classLink RX7 21 RX1 ∈ cd_T := cd_T1 (List.mem_of_getElem? (i := 217) (by decide +kernel)) (by decide +kernel)
theorem cd_j_X1 : Cond.instantiable RX1 3 ∈ cd_T := cd_T1 (List.mem_of_getElem? (i := 218) (by decide +kernel)) (by decide +kernel)
theorem cd_m_X7_23 : Cond.methodLink RX7 23 yX1_init ∈ cd_T := cd_T1 (List.mem_of_getElem? (i := 219) (by decide +kernel)) (by decide +kernel)
theorem cd_i_X1_init : Cond.instanceMethod yX1_init ∈ cd_T := cd_T1 (List.mem_of_getElem? (i := 220) (by decide +kernel)) (by decide +kernel)
theorem cd_c_X1_init : Cond.code yX1_init cX1_init 3 none ∈ cd_T := cd_T1 (List.mem_of_getElem? (i := 221) (by decide +kernel)) (by decide +kernel)
theorem cd_m_X1_3 : Cond.methodLink RX1 3 objectInit ∈ cd_T := cd_T1 (List.mem_of_getElem? (i := 222) (by decide +kernel)) (by decide +kernel)
theorem cd_k_X1_11 : Cond.classLink RX1 11 RX4 ∈ cd_T := cd_T1 (List.mem_of_getElem? (i := 223) (by decide +kernel)) (by decide +kernel)
theorem cd_m_X1_17 : Cond.methodLink RX1 17 yX4_init ∈ cd_T := cd_T1 (List.mem_of_getElem? (i := 225) (by decide +kernel)) (by decide +kernel)
theorem cd_f_X1_28 : Cond.fieldLink RX1 28 (TX1 0).1 (TX1 0).2.1 (TX1 0).2.2.1 ∈ cd_T := cd_T1 (List.mem_of_getElem? (i := 226) (by decide +kernel)) (by decide +kernel)
theorem cd_f_X7_202 : Cond.fieldLink RX7 202 (TX1 0).1 (TX1 0).2.1 (TX1 0).2.2.1 ∈ cd_T := cd_T1 (List.mem_of_getElem? (i := 227) (by decide +kernel)) (by decide +kernel)
theorem cd_f_X1_20 : Cond.fieldLink RX1 20 (TX1 1).1 (TX1 1).2.1 (TX1 1).2.2.1 ∈ cd_T := cd_T1 (List.mem_of_getElem? (i := 228) (by decide +kernel)) (by decide +kernel)
theorem cd_f_X1_13 : Cond.fieldLink RX1 13 (TX1 2).1 (TX1 2).2.1 (TX1 2).2.2.1 ∈ cd_T := cd_T1 (List.mem_of_getElem? (i := 229) (by decide +kernel)) (by decide +kernel)
theorem cd_k_X7_28 : Cond.classLink RX7 28 RX6 ∈ cd_T := cd_T1 (List.mem_of_getElem? (i := 237) (by decide +kernel)) (by decide +kernel)
theorem cd_j_X6 : Cond.instantiable RX6 8 ∈ cd_T := cd_T1 (List.mem_of_getElem? (i := 238) (by decide +kernel)) (by decide +kernel)
theorem cd_m_X7_30 : Cond.methodLink RX7 30 yX6_init ∈ cd_T := cd_T1 (List.mem_of_getElem? (i := 239) (by decide +kernel)) (by decide +kernel)
theorem cd_i_X6_init : Cond.instanceMethod yX6_init ∈ cd_T := cd_T2 (List.mem_of_getElem? (i := 0) (by decide +kernel)) (by decide +kernel)
theorem cd_c_X6_init : Cond.code yX6_init cX6_init 1 none ∈ cd_T := cd_T2 (List.mem_of_getElem? (i := 1) (by decide +kernel)) (by decide +kernel)
theorem cd_m_X6_3 : Cond.methodLink RX6 3 objectInit ∈ cd_T := cd_T2 (List.mem_of_getElem? (i := 2) (by decide +kernel)) (by decide +kernel)
theorem cd_f_X6_28 : Cond.fieldLink RX6 28 (TX6 0).1 (TX6 0).2.1 (TX6 0).2.2.1 ∈ cd_T := cd_T2 (List.mem_of_getElem? (i := 3) (by decide +kernel)) (by decide +kernel)
theorem cd_f_X7_131 : Cond.fieldLink RX7 131 (TX6 0).1 (TX6 0).2.1 (TX6 0).2.2.1 ∈ cd_T := cd_T2 (List.mem_of_getElem? (i := 4) (by decide +kernel)) (by decide +kernel)
theorem cd_f_X6_32 : Cond.fieldLink RX6 32 (TX6 1).1 (TX6 1).2.1 (TX6 1).2.2.1 ∈ cd_T := cd_T2 (List.mem_of_getElem? (i := 5) (by decide +kernel)) (by decide +kernel)
theorem cd_f_X7_139 : Cond.fieldLink RX7 139 (TX6 1).1 (TX6 1).2.1 (TX6 1).2.2.1 ∈ cd_T := cd_T2 (List.mem_of_getElem? (i := 6) (by decide +kernel)) (by decide +kernel)
theorem cd_f_X6_9 : Cond.fieldLink RX6 9 (TX6 2).1 (TX6 2).2.1 (TX6 2).2.2.1 ∈ cd_T := cd_T2 (List.mem_of_getElem? (i := 7) (by decide +kernel)) (by decide +kernel)
theorem cd_f_X6_15 : Cond.fieldLink RX6 15 (TX6 3).1 (TX6 3).2.1 (TX6 3).2.2.1 ∈ cd_T := cd_T2 (List.mem_of_getElem? (i := 8) (by decide +kernel)) (by decide +kernel)
theorem cd_f_X6_18 : Cond.fieldLink RX6 18 (TX6 4).1 (TX6 4).2.1 (TX6 4).2.2.1 ∈ cd_T := cd_T2 (List.mem_of_getElem? (i := 9) (by decide +kernel)) (by decide +kernel)
theorem cd_f_X6_21 : Cond.fieldLink RX6 21 (TX6 5).1 (TX6 5).2.1 (TX6 5).2.2.1 ∈ cd_T := cd_T2 (List.mem_of_getElem? (i := 10) (by decide +kernel)) (by decide +kernel)
theorem cd_f_X6_39 : Cond.fieldLink RX6 39 (TX6 6).1 (TX6 6).2.1 (TX6 6).2.2.1 ∈ cd_T := cd_T2 (List.mem_of_getElem? (i := 11) (by decide +kernel)) (by decide +kernel)
theorem cd_f_X6_42 : Cond.fieldLink RX6 42 (TX6 7).1 (TX6 7).2.1 (TX6 7).2.2.1 ∈ cd_T := cd_T2 (List.mem_of_getElem? (i := 12) (by decide +kernel)) (by decide +kernel)
theorem cd_f_X7_15 : Cond.fieldLink RX7 15 (TX7 0).1 (TX7 0).2.1 (TX7 0).2.2.1 ∈ cd_T := cd_T2 (List.mem_of_getElem? (i := 30) (by decide +kernel)) (by decide +kernel)
theorem cd_f_X7_24 : Cond.fieldLink RX7 24 (TX7 1).1 (TX7 1).2.1 (TX7 1).2.2.1 ∈ cd_T := cd_T2 (List.mem_of_getElem? (i := 31) (by decide +kernel)) (by decide +kernel)
theorem cd_f_X7_31 : Cond.fieldLink RX7 31 (TX7 2).1 (TX7 2).2.1 (TX7 2).2.2.1 ∈ cd_T := cd_T2 (List.mem_of_getElem? (i := 32) (by decide +kernel)) (by decide +kernel)
theorem cd_f_X7_35 : Cond.fieldLink RX7 35 (TX7 3).1 (TX7 3).2.1 (TX7 3).2.2.1 ∈ cd_T := cd_T2 (List.mem_of_getElem? (i := 33) (by decide +kernel)) (by decide +kernel)
theorem cd_m_L_13 : Cond.methodLink RL 13 yX7_counters ∈ cd_T := cd_T2 (List.mem_of_getElem? (i := 43) (by decide +kernel)) (by decide +kernel)
theorem cd_i_X7_counters : Cond.instanceMethod yX7_counters ∈ cd_T := cd_T2 (List.mem_of_getElem? (i := 44) (by decide +kernel)) (by decide +kernel)
theorem cd_e_X7_X7_counters : Cond.selects RX7 yX7_counters yX7_counters ∈ cd_T := cd_T2 (List.mem_of_getElem? (i := 45) (by decide +kernel)) (by decide +kernel)
theorem cd_c_X7_counters : Cond.code yX7_counters cX7_counters 2 (some .int) ∈ cd_T := cd_T2 (List.mem_of_getElem? (i := 46) (by decide +kernel)) (by decide +kernel)
theorem cd_m_X7_39 : Cond.methodLink RX7 39 yX1_hold ∈ cd_T := cd_T2 (List.mem_of_getElem? (i := 47) (by decide +kernel)) (by decide +kernel)
theorem cd_i_X1_hold : Cond.instanceMethod yX1_hold ∈ cd_T := cd_T2 (List.mem_of_getElem? (i := 48) (by decide +kernel)) (by decide +kernel)
theorem cd_e_X1_X1_hold : Cond.selects RX1 yX1_hold yX1_hold ∈ cd_T := cd_T2 (List.mem_of_getElem? (i := 49) (by decide +kernel)) (by decide +kernel)
theorem cd_c_X1_hold : Cond.code yX1_hold cX1_hold 2 none ∈ cd_T := cd_T2 (List.mem_of_getElem? (i := 50) (by decide +kernel)) (by decide +kernel)
theorem cd_m_X1_24 : Cond.methodLink RX1 24 yX4_become ∈ cd_T := cd_T2 (List.mem_of_getElem? (i := 51) (by decide +kernel)) (by decide +kernel)
theorem cd_i_X4_become : Cond.instanceMethod yX4_become ∈ cd_T := cd_T2 (List.mem_of_getElem? (i := 52) (by decide +kernel)) (by decide +kernel)
theorem cd_e_X4_X4_become : Cond.selects RX4 yX4_become yX4_become ∈ cd_T := cd_T2 (List.mem_of_getElem? (i := 53) (by decide +kernel)) (by decide +kernel)
theorem cd_c_X4_become : Cond.code yX4_become cX4_become 3 none ∈ cd_T := cd_T2 (List.mem_of_getElem? (i := 54) (by decide +kernel)) (by decide +kernel)
theorem cd_s_X7_copyRow : Cond.static yX7_copyRow ∈ cd_T := cd_T2 (List.mem_of_getElem? (i := 56) (by decide +kernel)) (by decide +kernel)
theorem cd_c_X7_copyRow : Cond.code yX7_copyRow cX7_copyRow 2 none ∈ cd_T := cd_T2 (List.mem_of_getElem? (i := 57) (by decide +kernel)) (by decide +kernel)
theorem cd_m_X7_215 : Cond.methodLink RX7 215 yJ9_min_7cf53 ∈ cd_T := cd_T2 (List.mem_of_getElem? (i := 58) (by decide +kernel)) (by decide +kernel)
theorem cd_s_J9_min_7cf53 : Cond.static yJ9_min_7cf53 ∈ cd_T := cd_T2 (List.mem_of_getElem? (i := 59) (by decide +kernel)) (by decide +kernel)
theorem cd_c_J9_min_7cf53 : Cond.code yJ9_min_7cf53 cJ9_min_7cf53 2 (some .int) ∈ cd_T := cd_T2 (List.mem_of_getElem? (i := 60) (by decide +kernel)) (by decide +kernel)
theorem cd_m_X7_220 : Cond.methodLink RX7 220 arraycopyName ∈ cd_T := cd_T2 (List.mem_of_getElem? (i := 61) (by decide +kernel)) (by decide +kernel)
theorem cd_s_java_lang_System_arraycopy : Cond.static arraycopyName ∈ cd_T := cd_T2 (List.mem_of_getElem? (i := 62) (by decide +kernel)) (by decide +kernel)
theorem cd_v_java_lang_System_arraycopy : Cond.native arraycopyName ∈ cd_T := cd_T2 (List.mem_of_getElem? (i := 63) (by decide +kernel)) (by decide +kernel)
theorem cd_m_X4_63 : Cond.methodLink RX4 63 yX5_become ∈ cd_T := cd_T2 (List.mem_of_getElem? (i := 64) (by decide +kernel)) (by decide +kernel)
theorem cd_i_X5_become : Cond.instanceMethod yX5_become ∈ cd_T := cd_T2 (List.mem_of_getElem? (i := 65) (by decide +kernel)) (by decide +kernel)
theorem cd_e_X5_X5_become : Cond.selects RX5 yX5_become yX5_become ∈ cd_T := cd_T2 (List.mem_of_getElem? (i := 66) (by decide +kernel)) (by decide +kernel)
theorem cd_c_X5_become : Cond.code yX5_become cX5_become 2 none ∈ cd_T := cd_T2 (List.mem_of_getElem? (i := 67) (by decide +kernel)) (by decide +kernel)
theorem cd_m_X4_67 : Cond.methodLink RX4 67 yX0_become ∈ cd_T := cd_T2 (List.mem_of_getElem? (i := 69) (by decide +kernel)) (by decide +kernel)
theorem cd_i_X0_become : Cond.instanceMethod yX0_become ∈ cd_T := cd_T2 (List.mem_of_getElem? (i := 70) (by decide +kernel)) (by decide +kernel)
theorem cd_e_X0_X0_become : Cond.selects RX0 yX0_become yX0_become ∈ cd_T := cd_T2 (List.mem_of_getElem? (i := 71) (by decide +kernel)) (by decide +kernel)
theorem cd_c_X0_become : Cond.code yX0_become cX0_become 2 none ∈ cd_T := cd_T2 (List.mem_of_getElem? (i := 72) (by decide +kernel)) (by decide +kernel)
theorem cd_m_X4_70 : Cond.methodLink RX4 70 yX2_become ∈ cd_T := cd_T2 (List.mem_of_getElem? (i := 74) (by decide +kernel)) (by decide +kernel)
theorem cd_i_X2_become : Cond.instanceMethod yX2_become ∈ cd_T := cd_T2 (List.mem_of_getElem? (i := 75) (by decide +kernel)) (by decide +kernel)
theorem cd_e_X2_X2_become : Cond.selects RX2 yX2_become yX2_become ∈ cd_T := cd_T2 (List.mem_of_getElem? (i := 76) (by decide +kernel)) (by decide +kernel)
theorem cd_c_X2_become : Cond.code yX2_become cX2_become 2 none ∈ cd_T := cd_T2 (List.mem_of_getElem? (i := 77) (by decide +kernel)) (by decide +kernel)
theorem cd_m_X2_37 : Cond.methodLink RX2 37 arraycopyName ∈ cd_T := cd_T2 (List.mem_of_getElem? (i := 78) (by decide +kernel)) (by decide +kernel)
theorem cd_m_X7_43 : Cond.methodLink RX7 43 yX4_putCounters ∈ cd_T := cd_T2 (List.mem_of_getElem? (i := 79) (by decide +kernel)) (by decide +kernel)
theorem cd_i_X4_putCounters : Cond.instanceMethod yX4_putCounters ∈ cd_T := cd_T2 (List.mem_of_getElem? (i := 80) (by decide +kernel)) (by decide +kernel)
theorem cd_e_X4_X4_putCounters : Cond.selects RX4 yX4_putCounters yX4_putCounters ∈ cd_T := cd_T2 (List.mem_of_getElem? (i := 81) (by decide +kernel)) (by decide +kernel)
theorem cd_c_X4_putCounters : Cond.code yX4_putCounters cX4_putCounters 3 (some .int) ∈ cd_T := cd_T2 (List.mem_of_getElem? (i := 82) (by decide +kernel)) (by decide +kernel)
theorem cd_s_X7_isWithin : Cond.static yX7_isWithin ∈ cd_T := cd_T2 (List.mem_of_getElem? (i := 84) (by decide +kernel)) (by decide +kernel)
theorem cd_c_X7_isWithin : Cond.code yX7_isWithin cX7_isWithin 3 (some .boolean) ∈ cd_T := cd_T2 (List.mem_of_getElem? (i := 85) (by decide +kernel)) (by decide +kernel)
theorem cd_m_X7_47 : Cond.methodLink RX7 47 yX7_settle ∈ cd_T := cd_T2 (List.mem_of_getElem? (i := 86) (by decide +kernel)) (by decide +kernel)
theorem cd_i_X7_settle : Cond.instanceMethod yX7_settle ∈ cd_T := cd_T2 (List.mem_of_getElem? (i := 88) (by decide +kernel)) (by decide +kernel)
theorem cd_c_X7_settle : Cond.code yX7_settle cX7_settle 2 (some .int) ∈ cd_T := cd_T2 (List.mem_of_getElem? (i := 89) (by decide +kernel)) (by decide +kernel)
theorem cd_m_X7_145 : Cond.methodLink RX7 145 yX7_isRefusal ∈ cd_T := cd_T2 (List.mem_of_getElem? (i := 90) (by decide +kernel)) (by decide +kernel)
theorem cd_s_X7_isRefusal : Cond.static yX7_isRefusal ∈ cd_T := cd_T2 (List.mem_of_getElem? (i := 91) (by decide +kernel)) (by decide +kernel)
theorem cd_c_X7_isRefusal : Cond.code yX7_isRefusal cX7_isRefusal 1 (some .boolean) ∈ cd_T := cd_T2 (List.mem_of_getElem? (i := 92) (by decide +kernel)) (by decide +kernel)
theorem cd_m_X7_152 : Cond.methodLink RX7 152 yX1_keep ∈ cd_T := cd_T2 (List.mem_of_getElem? (i := 93) (by decide +kernel)) (by decide +kernel)
theorem cd_i_X1_keep : Cond.instanceMethod yX1_keep ∈ cd_T := cd_T2 (List.mem_of_getElem? (i := 94) (by decide +kernel)) (by decide +kernel)
theorem cd_e_X1_X1_keep : Cond.selects RX1 yX1_keep yX1_keep ∈ cd_T := cd_T2 (List.mem_of_getElem? (i := 95) (by decide +kernel)) (by decide +kernel)
theorem cd_c_X1_keep : Cond.code yX1_keep cX1_keep 1 none ∈ cd_T := cd_T2 (List.mem_of_getElem? (i := 96) (by decide +kernel)) (by decide +kernel)
theorem cd_m_X1_31 : Cond.methodLink RX1 31 yJ9_min_7cf53 ∈ cd_T := cd_T2 (List.mem_of_getElem? (i := 97) (by decide +kernel)) (by decide +kernel)
theorem cd_m_X7_92 : Cond.methodLink RX7 92 yX7_answer ∈ cd_T := cd_T2 (List.mem_of_getElem? (i := 98) (by decide +kernel)) (by decide +kernel)
theorem cd_i_X7_answer : Cond.instanceMethod yX7_answer ∈ cd_T := cd_T2 (List.mem_of_getElem? (i := 100) (by decide +kernel)) (by decide +kernel)
theorem cd_c_X7_answer : Cond.code yX7_answer cX7_answer 2 (some .int) ∈ cd_T := cd_T2 (List.mem_of_getElem? (i := 101) (by decide +kernel)) (by decide +kernel)
theorem cd_m_L_18 : Cond.methodLink RL 18 yX7_masks ∈ cd_T := cd_T2 (List.mem_of_getElem? (i := 102) (by decide +kernel)) (by decide +kernel)
theorem cd_i_X7_masks : Cond.instanceMethod yX7_masks ∈ cd_T := cd_T2 (List.mem_of_getElem? (i := 103) (by decide +kernel)) (by decide +kernel)
theorem cd_e_X7_X7_masks : Cond.selects RX7 yX7_masks yX7_masks ∈ cd_T := cd_T2 (List.mem_of_getElem? (i := 104) (by decide +kernel)) (by decide +kernel)
theorem cd_c_X7_masks : Cond.code yX7_masks cX7_masks 3 (some .int) ∈ cd_T := cd_T2 (List.mem_of_getElem? (i := 105) (by decide +kernel)) (by decide +kernel)
theorem cd_m_X7_50 : Cond.methodLink RX7 50 yX4_putMask ∈ cd_T := cd_T2 (List.mem_of_getElem? (i := 106) (by decide +kernel)) (by decide +kernel)
theorem cd_i_X4_putMask : Cond.instanceMethod yX4_putMask ∈ cd_T := cd_T2 (List.mem_of_getElem? (i := 107) (by decide +kernel)) (by decide +kernel)
theorem cd_e_X4_X4_putMask : Cond.selects RX4 yX4_putMask yX4_putMask ∈ cd_T := cd_T2 (List.mem_of_getElem? (i := 108) (by decide +kernel)) (by decide +kernel)
theorem cd_c_X4_putMask : Cond.code yX4_putMask cX4_putMask 4 (some .int) ∈ cd_T := cd_T2 (List.mem_of_getElem? (i := 109) (by decide +kernel)) (by decide +kernel)
theorem cd_m_L_23 : Cond.methodLink RL 23 yX7_rates ∈ cd_T := cd_T2 (List.mem_of_getElem? (i := 110) (by decide +kernel)) (by decide +kernel)
theorem cd_i_X7_rates : Cond.instanceMethod yX7_rates ∈ cd_T := cd_T2 (List.mem_of_getElem? (i := 111) (by decide +kernel)) (by decide +kernel)
theorem cd_e_X7_X7_rates : Cond.selects RX7 yX7_rates yX7_rates ∈ cd_T := cd_T2 (List.mem_of_getElem? (i := 112) (by decide +kernel)) (by decide +kernel)
theorem cd_c_X7_rates : Cond.code yX7_rates cX7_rates 4 (some .int) ∈ cd_T := cd_T2 (List.mem_of_getElem? (i := 113) (by decide +kernel)) (by decide +kernel)
theorem cd_m_X7_58 : Cond.methodLink RX7 58 yX5_putRate ∈ cd_T := cd_T2 (List.mem_of_getElem? (i := 114) (by decide +kernel)) (by decide +kernel)
theorem cd_i_X5_putRate : Cond.instanceMethod yX5_putRate ∈ cd_T := cd_T2 (List.mem_of_getElem? (i := 115) (by decide +kernel)) (by decide +kernel)
theorem cd_e_X5_X5_putRate : Cond.selects RX5 yX5_putRate yX5_putRate ∈ cd_T := cd_T2 (List.mem_of_getElem? (i := 116) (by decide +kernel)) (by decide +kernel)
theorem cd_c_X5_putRate : Cond.code yX5_putRate cX5_putRate 5 (some .int) ∈ cd_T := cd_T2 (List.mem_of_getElem? (i := 117) (by decide +kernel)) (by decide +kernel)
theorem cd_m_X5_33 : Cond.methodLink RX5 33 yX5_has ∈ cd_T := cd_T2 (List.mem_of_getElem? (i := 118) (by decide +kernel)) (by decide +kernel)
theorem cd_i_X5_has : Cond.instanceMethod yX5_has ∈ cd_T := cd_T2 (List.mem_of_getElem? (i := 119) (by decide +kernel)) (by decide +kernel)
theorem cd_e_X5_X5_has : Cond.selects RX5 yX5_has yX5_has ∈ cd_T := cd_T2 (List.mem_of_getElem? (i := 120) (by decide +kernel)) (by decide +kernel)
theorem cd_c_X5_has : Cond.code yX5_has cX5_has 2 (some .boolean) ∈ cd_T := cd_T2 (List.mem_of_getElem? (i := 121) (by decide +kernel)) (by decide +kernel)
theorem cd_m_X5_37 : Cond.methodLink RX5 37 yX5_rateOf ∈ cd_T := cd_T2 (List.mem_of_getElem? (i := 123) (by decide +kernel)) (by decide +kernel)
theorem cd_i_X5_rateOf : Cond.instanceMethod yX5_rateOf ∈ cd_T := cd_T2 (List.mem_of_getElem? (i := 124) (by decide +kernel)) (by decide +kernel)
theorem cd_e_X5_X5_rateOf : Cond.selects RX5 yX5_rateOf yX5_rateOf ∈ cd_T := cd_T2 (List.mem_of_getElem? (i := 125) (by decide +kernel)) (by decide +kernel)
theorem cd_c_X5_rateOf : Cond.code yX5_rateOf cX5_rateOf 3 (some .int) ∈ cd_T := cd_T2 (List.mem_of_getElem? (i := 126) (by decide +kernel)) (by decide +kernel)
theorem cd_m_L_28 : Cond.methodLink RL 28 yX7_forks ∈ cd_T := cd_T2 (List.mem_of_getElem? (i := 127) (by decide +kernel)) (by decide +kernel)
theorem cd_i_X7_forks : Cond.instanceMethod yX7_forks ∈ cd_T := cd_T2 (List.mem_of_getElem? (i := 128) (by decide +kernel)) (by decide +kernel)
theorem cd_e_X7_X7_forks : Cond.selects RX7 yX7_forks yX7_forks ∈ cd_T := cd_T2 (List.mem_of_getElem? (i := 129) (by decide +kernel)) (by decide +kernel)
theorem cd_c_X7_forks : Cond.code yX7_forks cX7_forks 2 (some .int) ∈ cd_T := cd_T2 (List.mem_of_getElem? (i := 130) (by decide +kernel)) (by decide +kernel)
theorem cd_m_X7_64 : Cond.methodLink RX7 64 yX5_fork ∈ cd_T := cd_T2 (List.mem_of_getElem? (i := 131) (by decide +kernel)) (by decide +kernel)
theorem cd_i_X5_fork : Cond.instanceMethod yX5_fork ∈ cd_T := cd_T2 (List.mem_of_getElem? (i := 132) (by decide +kernel)) (by decide +kernel)
theorem cd_e_X5_X5_fork : Cond.selects RX5 yX5_fork yX5_fork ∈ cd_T := cd_T2 (List.mem_of_getElem? (i := 133) (by decide +kernel)) (by decide +kernel)
theorem cd_c_X5_fork : Cond.code yX5_fork cX5_fork 3 (some .int) ∈ cd_T := cd_T2 (List.mem_of_getElem? (i := 134) (by decide +kernel)) (by decide +kernel)
theorem cd_m_X5_41 : Cond.methodLink RX5 41 yX5_hasEnded ∈ cd_T := cd_T2 (List.mem_of_getElem? (i := 135) (by decide +kernel)) (by decide +kernel)
theorem cd_i_X5_hasEnded : Cond.instanceMethod yX5_hasEnded ∈ cd_T := cd_T2 (List.mem_of_getElem? (i := 136) (by decide +kernel)) (by decide +kernel)
theorem cd_e_X5_X5_hasEnded : Cond.selects RX5 yX5_hasEnded yX5_hasEnded ∈ cd_T := cd_T2 (List.mem_of_getElem? (i := 137) (by decide +kernel)) (by decide +kernel)
theorem cd_c_X5_hasEnded : Cond.code yX5_hasEnded cX5_hasEnded 2 (some .boolean) ∈ cd_T := cd_T2 (List.mem_of_getElem? (i := 138) (by decide +kernel)) (by decide +kernel)
theorem cd_m_X5_44 : Cond.methodLink RX5 44 arraycopyName ∈ cd_T := cd_T2 (List.mem_of_getElem? (i := 139) (by decide +kernel)) (by decide +kernel)
theorem cd_m_L_32 : Cond.methodLink RL 32 yX7_exits ∈ cd_T := cd_T2 (List.mem_of_getElem? (i := 140) (by decide +kernel)) (by decide +kernel)
theorem cd_i_X7_exits : Cond.instanceMethod yX7_exits ∈ cd_T := cd_T2 (List.mem_of_getElem? (i := 141) (by decide +kernel)) (by decide +kernel)
theorem cd_e_X7_X7_exits : Cond.selects RX7 yX7_exits yX7_exits ∈ cd_T := cd_T2 (List.mem_of_getElem? (i := 142) (by decide +kernel)) (by decide +kernel)
theorem cd_c_X7_exits : Cond.code yX7_exits cX7_exits 2 (some .int) ∈ cd_T := cd_T2 (List.mem_of_getElem? (i := 143) (by decide +kernel)) (by decide +kernel)
theorem cd_m_X7_67 : Cond.methodLink RX7 67 yX4_endTask ∈ cd_T := cd_T2 (List.mem_of_getElem? (i := 144) (by decide +kernel)) (by decide +kernel)
theorem cd_i_X4_endTask : Cond.instanceMethod yX4_endTask ∈ cd_T := cd_T2 (List.mem_of_getElem? (i := 145) (by decide +kernel)) (by decide +kernel)
theorem cd_e_X4_X4_endTask : Cond.selects RX4 yX4_endTask yX4_endTask ∈ cd_T := cd_T2 (List.mem_of_getElem? (i := 146) (by decide +kernel)) (by decide +kernel)
theorem cd_c_X4_endTask : Cond.code yX4_endTask cX4_endTask 4 (some .int) ∈ cd_T := cd_T2 (List.mem_of_getElem? (i := 147) (by decide +kernel)) (by decide +kernel)
theorem cd_m_X4_84 : Cond.methodLink RX4 84 yX5_has ∈ cd_T := cd_T2 (List.mem_of_getElem? (i := 148) (by decide +kernel)) (by decide +kernel)
theorem cd_m_X4_87 : Cond.methodLink RX4 87 yX5_hasEnded ∈ cd_T := cd_T2 (List.mem_of_getElem? (i := 149) (by decide +kernel)) (by decide +kernel)
theorem cd_m_X4_90 : Cond.methodLink RX4 90 yX5_hasOpenChild ∈ cd_T := cd_T2 (List.mem_of_getElem? (i := 150) (by decide +kernel)) (by decide +kernel)
theorem cd_i_X5_hasOpenChild : Cond.instanceMethod yX5_hasOpenChild ∈ cd_T := cd_T2 (List.mem_of_getElem? (i := 151) (by decide +kernel)) (by decide +kernel)
theorem cd_e_X5_X5_hasOpenChild : Cond.selects RX5 yX5_hasOpenChild yX5_hasOpenChild ∈ cd_T := cd_T2 (List.mem_of_getElem? (i := 152) (by decide +kernel)) (by decide +kernel)
theorem cd_c_X5_hasOpenChild : Cond.code yX5_hasOpenChild cX5_hasOpenChild 3 (some .boolean) ∈ cd_T := cd_T2 (List.mem_of_getElem? (i := 153) (by decide +kernel)) (by decide +kernel)
theorem cd_m_X4_99 : Cond.methodLink RX4 99 yX0_moveTo ∈ cd_T := cd_T2 (List.mem_of_getElem? (i := 154) (by decide +kernel)) (by decide +kernel)
theorem cd_i_X0_moveTo : Cond.instanceMethod yX0_moveTo ∈ cd_T := cd_T2 (List.mem_of_getElem? (i := 155) (by decide +kernel)) (by decide +kernel)
theorem cd_e_X0_X0_moveTo : Cond.selects RX0 yX0_moveTo yX0_moveTo ∈ cd_T := cd_T2 (List.mem_of_getElem? (i := 156) (by decide +kernel)) (by decide +kernel)
theorem cd_c_X0_moveTo : Cond.code yX0_moveTo cX0_moveTo 4 none ∈ cd_T := cd_T2 (List.mem_of_getElem? (i := 157) (by decide +kernel)) (by decide +kernel)
theorem cd_m_X0_81 : Cond.methodLink RX0 81 yX0_moveCell ∈ cd_T := cd_T2 (List.mem_of_getElem? (i := 158) (by decide +kernel)) (by decide +kernel)
theorem cd_s_X0_moveCell : Cond.static yX0_moveCell ∈ cd_T := cd_T2 (List.mem_of_getElem? (i := 159) (by decide +kernel)) (by decide +kernel)
theorem cd_c_X0_moveCell : Cond.code yX0_moveCell cX0_moveCell 3 none ∈ cd_T := cd_T2 (List.mem_of_getElem? (i := 160) (by decide +kernel)) (by decide +kernel)
theorem cd_m_L_36 : Cond.methodLink RL 36 yX7_group ∈ cd_T := cd_T2 (List.mem_of_getElem? (i := 161) (by decide +kernel)) (by decide +kernel)
theorem cd_i_X7_group : Cond.instanceMethod yX7_group ∈ cd_T := cd_T2 (List.mem_of_getElem? (i := 162) (by decide +kernel)) (by decide +kernel)
theorem cd_e_X7_X7_group : Cond.selects RX7 yX7_group yX7_group ∈ cd_T := cd_T2 (List.mem_of_getElem? (i := 163) (by decide +kernel)) (by decide +kernel)
theorem cd_c_X7_group : Cond.code yX7_group cX7_group 6 (some .int) ∈ cd_T := cd_T2 (List.mem_of_getElem? (i := 164) (by decide +kernel)) (by decide +kernel)
theorem cd_m_X7_70 : Cond.methodLink RX7 70 yX4_addGroup ∈ cd_T := cd_T2 (List.mem_of_getElem? (i := 165) (by decide +kernel)) (by decide +kernel)
theorem cd_i_X4_addGroup : Cond.instanceMethod yX4_addGroup ∈ cd_T := cd_T2 (List.mem_of_getElem? (i := 166) (by decide +kernel)) (by decide +kernel)
theorem cd_e_X4_X4_addGroup : Cond.selects RX4 yX4_addGroup yX4_addGroup ∈ cd_T := cd_T2 (List.mem_of_getElem? (i := 167) (by decide +kernel)) (by decide +kernel)
theorem cd_c_X4_addGroup : Cond.code yX4_addGroup cX4_addGroup 7 (some .int) ∈ cd_T := cd_T2 (List.mem_of_getElem? (i := 168) (by decide +kernel)) (by decide +kernel)
theorem cd_m_X4_103 : Cond.methodLink RX4 103 yX0_begin ∈ cd_T := cd_T2 (List.mem_of_getElem? (i := 169) (by decide +kernel)) (by decide +kernel)
theorem cd_i_X0_begin : Cond.instanceMethod yX0_begin ∈ cd_T := cd_T2 (List.mem_of_getElem? (i := 170) (by decide +kernel)) (by decide +kernel)
theorem cd_e_X0_X0_begin : Cond.selects RX0 yX0_begin yX0_begin ∈ cd_T := cd_T2 (List.mem_of_getElem? (i := 171) (by decide +kernel)) (by decide +kernel)
theorem cd_c_X0_begin : Cond.code yX0_begin cX0_begin 6 none ∈ cd_T := cd_T2 (List.mem_of_getElem? (i := 172) (by decide +kernel)) (by decide +kernel)
theorem cd_m_X4_107 : Cond.methodLink RX4 107 yX0_append ∈ cd_T := cd_T2 (List.mem_of_getElem? (i := 173) (by decide +kernel)) (by decide +kernel)
theorem cd_i_X0_append : Cond.instanceMethod yX0_append ∈ cd_T := cd_T2 (List.mem_of_getElem? (i := 174) (by decide +kernel)) (by decide +kernel)
theorem cd_e_X0_X0_append : Cond.selects RX0 yX0_append yX0_append ∈ cd_T := cd_T2 (List.mem_of_getElem? (i := 175) (by decide +kernel)) (by decide +kernel)
theorem cd_c_X0_append : Cond.code yX0_append cX0_append 3 (some .int) ∈ cd_T := cd_T2 (List.mem_of_getElem? (i := 176) (by decide +kernel)) (by decide +kernel)
theorem cd_m_L_41 : Cond.methodLink RL 41 yX7_event ∈ cd_T := cd_T2 (List.mem_of_getElem? (i := 177) (by decide +kernel)) (by decide +kernel)
theorem cd_i_X7_event : Cond.instanceMethod yX7_event ∈ cd_T := cd_T2 (List.mem_of_getElem? (i := 178) (by decide +kernel)) (by decide +kernel)
theorem cd_e_X7_X7_event : Cond.selects RX7 yX7_event yX7_event ∈ cd_T := cd_T2 (List.mem_of_getElem? (i := 179) (by decide +kernel)) (by decide +kernel)
theorem cd_c_X7_event : Cond.code yX7_event cX7_event 3 (some .int) ∈ cd_T := cd_T2 (List.mem_of_getElem? (i := 180) (by decide +kernel)) (by decide +kernel)
theorem cd_m_X7_74 : Cond.methodLink RX7 74 yX4_addEvent ∈ cd_T := cd_T2 (List.mem_of_getElem? (i := 181) (by decide +kernel)) (by decide +kernel)
theorem cd_i_X4_addEvent : Cond.instanceMethod yX4_addEvent ∈ cd_T := cd_T2 (List.mem_of_getElem? (i := 182) (by decide +kernel)) (by decide +kernel)
theorem cd_e_X4_X4_addEvent : Cond.selects RX4 yX4_addEvent yX4_addEvent ∈ cd_T := cd_T2 (List.mem_of_getElem? (i := 183) (by decide +kernel)) (by decide +kernel)
theorem cd_c_X4_addEvent : Cond.code yX4_addEvent cX4_addEvent 3 (some .int) ∈ cd_T := cd_T2 (List.mem_of_getElem? (i := 184) (by decide +kernel)) (by decide +kernel)
theorem cd_m_X4_77 : Cond.methodLink RX4 77 yX4_hasGroup ∈ cd_T := cd_T2 (List.mem_of_getElem? (i := 185) (by decide +kernel)) (by decide +kernel)
theorem cd_i_X4_hasGroup : Cond.instanceMethod yX4_hasGroup ∈ cd_T := cd_T2 (List.mem_of_getElem? (i := 186) (by decide +kernel)) (by decide +kernel)
theorem cd_e_X4_X4_hasGroup : Cond.selects RX4 yX4_hasGroup yX4_hasGroup ∈ cd_T := cd_T2 (List.mem_of_getElem? (i := 187) (by decide +kernel)) (by decide +kernel)
theorem cd_c_X4_hasGroup : Cond.code yX4_hasGroup cX4_hasGroup 2 (some .boolean) ∈ cd_T := cd_T2 (List.mem_of_getElem? (i := 188) (by decide +kernel)) (by decide +kernel)
theorem cd_m_L_45 : Cond.methodLink RL 45 yX7_periods ∈ cd_T := cd_T2 (List.mem_of_getElem? (i := 189) (by decide +kernel)) (by decide +kernel)
theorem cd_i_X7_periods : Cond.instanceMethod yX7_periods ∈ cd_T := cd_T2 (List.mem_of_getElem? (i := 190) (by decide +kernel)) (by decide +kernel)
theorem cd_e_X7_X7_periods : Cond.selects RX7 yX7_periods yX7_periods ∈ cd_T := cd_T2 (List.mem_of_getElem? (i := 191) (by decide +kernel)) (by decide +kernel)
theorem cd_c_X7_periods : Cond.code yX7_periods cX7_periods 3 (some .int) ∈ cd_T := cd_T2 (List.mem_of_getElem? (i := 192) (by decide +kernel)) (by decide +kernel)
theorem cd_m_X7_77 : Cond.methodLink RX7 77 yX4_putPeriod ∈ cd_T := cd_T2 (List.mem_of_getElem? (i := 193) (by decide +kernel)) (by decide +kernel)
theorem cd_i_X4_putPeriod : Cond.instanceMethod yX4_putPeriod ∈ cd_T := cd_T2 (List.mem_of_getElem? (i := 194) (by decide +kernel)) (by decide +kernel)
theorem cd_e_X4_X4_putPeriod : Cond.selects RX4 yX4_putPeriod yX4_putPeriod ∈ cd_T := cd_T2 (List.mem_of_getElem? (i := 195) (by decide +kernel)) (by decide +kernel)
theorem cd_c_X4_putPeriod : Cond.code yX4_putPeriod cX4_putPeriod 4 (some .int) ∈ cd_T := cd_T2 (List.mem_of_getElem? (i := 196) (by decide +kernel)) (by decide +kernel)
theorem cd_m_L_49 : Cond.methodLink RL 49 yX7_skids ∈ cd_T := cd_T2 (List.mem_of_getElem? (i := 197) (by decide +kernel)) (by decide +kernel)
theorem cd_i_X7_skids : Cond.instanceMethod yX7_skids ∈ cd_T := cd_T2 (List.mem_of_getElem? (i := 198) (by decide +kernel)) (by decide +kernel)
theorem cd_e_X7_X7_skids : Cond.selects RX7 yX7_skids yX7_skids ∈ cd_T := cd_T2 (List.mem_of_getElem? (i := 199) (by decide +kernel)) (by decide +kernel)
theorem cd_c_X7_skids : Cond.code yX7_skids cX7_skids 2 (some .int) ∈ cd_T := cd_T2 (List.mem_of_getElem? (i := 200) (by decide +kernel)) (by decide +kernel)
theorem cd_m_X7_80 : Cond.methodLink RX7 80 yX4_putSkid ∈ cd_T := cd_T2 (List.mem_of_getElem? (i := 201) (by decide +kernel)) (by decide +kernel)
theorem cd_i_X4_putSkid : Cond.instanceMethod yX4_putSkid ∈ cd_T := cd_T2 (List.mem_of_getElem? (i := 202) (by decide +kernel)) (by decide +kernel)
theorem cd_e_X4_X4_putSkid : Cond.selects RX4 yX4_putSkid yX4_putSkid ∈ cd_T := cd_T2 (List.mem_of_getElem? (i := 203) (by decide +kernel)) (by decide +kernel)
theorem cd_c_X4_putSkid : Cond.code yX4_putSkid cX4_putSkid 3 (some .int) ∈ cd_T := cd_T2 (List.mem_of_getElem? (i := 204) (by decide +kernel)) (by decide +kernel)
theorem cd_m_L_53 : Cond.methodLink RL 53 yX7_lives ∈ cd_T := cd_T2 (List.mem_of_getElem? (i := 205) (by decide +kernel)) (by decide +kernel)
theorem cd_i_X7_lives : Cond.instanceMethod yX7_lives ∈ cd_T := cd_T2 (List.mem_of_getElem? (i := 206) (by decide +kernel)) (by decide +kernel)
theorem cd_e_X7_X7_lives : Cond.selects RX7 yX7_lives yX7_lives ∈ cd_T := cd_T2 (List.mem_of_getElem? (i := 207) (by decide +kernel)) (by decide +kernel)
theorem cd_c_X7_lives : Cond.code yX7_lives cX7_lives 3 (some .int) ∈ cd_T := cd_T2 (List.mem_of_getElem? (i := 208) (by decide +kernel)) (by decide +kernel)
theorem cd_m_X7_83 : Cond.methodLink RX7 83 yX4_putLive ∈ cd_T := cd_T2 (List.mem_of_getElem? (i := 209) (by decide +kernel)) (by decide +kernel)
theorem cd_i_X4_putLive : Cond.instanceMethod yX4_putLive ∈ cd_T := cd_T2 (List.mem_of_getElem? (i := 210) (by decide +kernel)) (by decide +kernel)
theorem cd_e_X4_X4_putLive : Cond.selects RX4 yX4_putLive yX4_putLive ∈ cd_T := cd_T2 (List.mem_of_getElem? (i := 211) (by decide +kernel)) (by decide +kernel)
theorem cd_c_X4_putLive : Cond.code yX4_putLive cX4_putLive 4 (some .int) ∈ cd_T := cd_T2 (List.mem_of_getElem? (i := 212) (by decide +kernel)) (by decide +kernel)
theorem cd_s_X7_bit : Cond.static yX7_bit ∈ cd_T := cd_T2 (List.mem_of_getElem? (i := 214) (by decide +kernel)) (by decide +kernel)
theorem cd_c_X7_bit : Cond.code yX7_bit cX7_bit 1 (some .int) ∈ cd_T := cd_T2 (List.mem_of_getElem? (i := 215) (by decide +kernel)) (by decide +kernel)
theorem cd_m_L_57 : Cond.methodLink RL 57 yX7_runs ∈ cd_T := cd_T2 (List.mem_of_getElem? (i := 216) (by decide +kernel)) (by decide +kernel)
theorem cd_i_X7_runs : Cond.instanceMethod yX7_runs ∈ cd_T := cd_T2 (List.mem_of_getElem? (i := 217) (by decide +kernel)) (by decide +kernel)
theorem cd_e_X7_X7_runs : Cond.selects RX7 yX7_runs yX7_runs ∈ cd_T := cd_T2 (List.mem_of_getElem? (i := 218) (by decide +kernel)) (by decide +kernel)
theorem cd_c_X7_runs : Cond.code yX7_runs cX7_runs 3 (some .int) ∈ cd_T := cd_T2 (List.mem_of_getElem? (i := 219) (by decide +kernel)) (by decide +kernel)
theorem cd_m_X7_86 : Cond.methodLink RX7 86 yX4_runSlices ∈ cd_T := cd_T2 (List.mem_of_getElem? (i := 220) (by decide +kernel)) (by decide +kernel)
theorem cd_i_X4_runSlices : Cond.instanceMethod yX4_runSlices ∈ cd_T := cd_T2 (List.mem_of_getElem? (i := 221) (by decide +kernel)) (by decide +kernel)
theorem cd_e_X4_X4_runSlices : Cond.selects RX4 yX4_runSlices yX4_runSlices ∈ cd_T := cd_T2 (List.mem_of_getElem? (i := 222) (by decide +kernel)) (by decide +kernel)
theorem cd_c_X4_runSlices : Cond.code yX4_runSlices cX4_runSlices 4 (some .int) ∈ cd_T := cd_T2 (List.mem_of_getElem? (i := 223) (by decide +kernel)) (by decide +kernel)
theorem cd_m_X4_125 : Cond.methodLink RX4 125 yX4_runSlice ∈ cd_T := cd_T2 (List.mem_of_getElem? (i := 224) (by decide +kernel)) (by decide +kernel)
theorem cd_i_X4_runSlice : Cond.instanceMethod yX4_runSlice ∈ cd_T := cd_T2 (List.mem_of_getElem? (i := 226) (by decide +kernel)) (by decide +kernel)
theorem cd_c_X4_runSlice : Cond.code yX4_runSlice cX4_runSlice 3 none ∈ cd_T := cd_T2 (List.mem_of_getElem? (i := 227) (by decide +kernel)) (by decide +kernel)
theorem cd_m_X4_129 : Cond.methodLink RX4 129 yX4_watchersOf ∈ cd_T := cd_T2 (List.mem_of_getElem? (i := 228) (by decide +kernel)) (by decide +kernel)
theorem cd_i_X4_watchersOf : Cond.instanceMethod yX4_watchersOf ∈ cd_T := cd_T2 (List.mem_of_getElem? (i := 230) (by decide +kernel)) (by decide +kernel)
theorem cd_c_X4_watchersOf : Cond.code yX4_watchersOf cX4_watchersOf 7 (some .int) ∈ cd_T := cd_T2 (List.mem_of_getElem? (i := 231) (by decide +kernel)) (by decide +kernel)
theorem cd_m_X4_153 : Cond.methodLink RX4 153 yX5_reachesByParents ∈ cd_T := cd_T2 (List.mem_of_getElem? (i := 232) (by decide +kernel)) (by decide +kernel)
theorem cd_i_X5_reachesByParents : Cond.instanceMethod yX5_reachesByParents ∈ cd_T := cd_T2 (List.mem_of_getElem? (i := 233) (by decide +kernel)) (by decide +kernel)
theorem cd_e_X5_X5_reachesByParents : Cond.selects RX5 yX5_reachesByParents yX5_reachesByParents ∈ cd_T := cd_T2 (List.mem_of_getElem? (i := 234) (by decide +kernel)) (by decide +kernel)
theorem cd_c_X5_reachesByParents : Cond.code yX5_reachesByParents cX5_reachesByParents 5 (some .boolean) ∈ cd_T := cd_T2 (List.mem_of_getElem? (i := 235) (by decide +kernel)) (by decide +kernel)
theorem cd_m_X4_132 : Cond.methodLink RX4 132 yX4_dealCounters ∈ cd_T := cd_T2 (List.mem_of_getElem? (i := 236) (by decide +kernel)) (by decide +kernel)
theorem cd_i_X4_dealCounters : Cond.instanceMethod yX4_dealCounters ∈ cd_T := cd_T2 (List.mem_of_getElem? (i := 238) (by decide +kernel)) (by decide +kernel)
theorem cd_c_X4_dealCounters : Cond.code yX4_dealCounters cX4_dealCounters 4 none ∈ cd_T := cd_T2 (List.mem_of_getElem? (i := 239) (by decide +kernel)) (by decide +kernel)
theorem cd_m_X4_157 : Cond.methodLink RX4 157 yX3_open ∈ cd_T := cd_T3 (List.mem_of_getElem? (i := 0) (by decide +kernel)) (by decide +kernel)
theorem cd_i_X3_open : Cond.instanceMethod yX3_open ∈ cd_T := cd_T3 (List.mem_of_getElem? (i := 1) (by decide +kernel)) (by decide +kernel)
theorem cd_e_X3_X3_open : Cond.selects RX3 yX3_open yX3_open ∈ cd_T := cd_T3 (List.mem_of_getElem? (i := 2) (by decide +kernel)) (by decide +kernel)
theorem cd_c_X3_open : Cond.code yX3_open cX3_open 2 none ∈ cd_T := cd_T3 (List.mem_of_getElem? (i := 3) (by decide +kernel)) (by decide +kernel)
theorem cd_m_X4_162 : Cond.methodLink RX4 162 yX0_leaveSeats ∈ cd_T := cd_T3 (List.mem_of_getElem? (i := 4) (by decide +kernel)) (by decide +kernel)
theorem cd_i_X0_leaveSeats : Cond.instanceMethod yX0_leaveSeats ∈ cd_T := cd_T3 (List.mem_of_getElem? (i := 5) (by decide +kernel)) (by decide +kernel)
theorem cd_e_X0_X0_leaveSeats : Cond.selects RX0 yX0_leaveSeats yX0_leaveSeats ∈ cd_T := cd_T3 (List.mem_of_getElem? (i := 6) (by decide +kernel)) (by decide +kernel)
theorem cd_c_X0_leaveSeats : Cond.code yX0_leaveSeats cX0_leaveSeats 2 none ∈ cd_T := cd_T3 (List.mem_of_getElem? (i := 7) (by decide +kernel)) (by decide +kernel)
theorem cd_m_X4_168 : Cond.methodLink RX4 168 yX4_isIn ∈ cd_T := cd_T3 (List.mem_of_getElem? (i := 8) (by decide +kernel)) (by decide +kernel)
theorem cd_s_X4_isIn : Cond.static yX4_isIn ∈ cd_T := cd_T3 (List.mem_of_getElem? (i := 9) (by decide +kernel)) (by decide +kernel)
theorem cd_c_X4_isIn : Cond.code yX4_isIn cX4_isIn 2 (some .boolean) ∈ cd_T := cd_T3 (List.mem_of_getElem? (i := 10) (by decide +kernel)) (by decide +kernel)
theorem cd_m_X4_171 : Cond.methodLink RX4 171 yX3_take ∈ cd_T := cd_T3 (List.mem_of_getElem? (i := 11) (by decide +kernel)) (by decide +kernel)
theorem cd_i_X3_take : Cond.instanceMethod yX3_take ∈ cd_T := cd_T3 (List.mem_of_getElem? (i := 12) (by decide +kernel)) (by decide +kernel)
theorem cd_e_X3_X3_take : Cond.selects RX3 yX3_take yX3_take ∈ cd_T := cd_T3 (List.mem_of_getElem? (i := 13) (by decide +kernel)) (by decide +kernel)
theorem cd_c_X3_take : Cond.code yX3_take cX3_take 5 (some .boolean) ∈ cd_T := cd_T3 (List.mem_of_getElem? (i := 14) (by decide +kernel)) (by decide +kernel)
theorem cd_m_X3_33 : Cond.methodLink RX3 33 yX3_sit ∈ cd_T := cd_T3 (List.mem_of_getElem? (i := 15) (by decide +kernel)) (by decide +kernel)
theorem cd_s_X3_sit : Cond.static yX3_sit ∈ cd_T := cd_T3 (List.mem_of_getElem? (i := 16) (by decide +kernel)) (by decide +kernel)
theorem cd_c_X3_sit : Cond.code yX3_sit cX3_sit 7 (some .boolean) ∈ cd_T := cd_T3 (List.mem_of_getElem? (i := 17) (by decide +kernel)) (by decide +kernel)
theorem cd_m_X4_178 : Cond.methodLink RX4 178 yX3_sitAll ∈ cd_T := cd_T3 (List.mem_of_getElem? (i := 18) (by decide +kernel)) (by decide +kernel)
theorem cd_i_X3_sitAll : Cond.instanceMethod yX3_sitAll ∈ cd_T := cd_T3 (List.mem_of_getElem? (i := 19) (by decide +kernel)) (by decide +kernel)
theorem cd_e_X3_X3_sitAll : Cond.selects RX3 yX3_sitAll yX3_sitAll ∈ cd_T := cd_T3 (List.mem_of_getElem? (i := 20) (by decide +kernel)) (by decide +kernel)
theorem cd_c_X3_sitAll : Cond.code yX3_sitAll cX3_sitAll 1 none ∈ cd_T := cd_T3 (List.mem_of_getElem? (i := 21) (by decide +kernel)) (by decide +kernel)
theorem cd_m_X4_181 : Cond.methodLink RX4 181 yX4_showSeats ∈ cd_T := cd_T3 (List.mem_of_getElem? (i := 22) (by decide +kernel)) (by decide +kernel)
theorem cd_i_X4_showSeats : Cond.instanceMethod yX4_showSeats ∈ cd_T := cd_T3 (List.mem_of_getElem? (i := 24) (by decide +kernel)) (by decide +kernel)
theorem cd_c_X4_showSeats : Cond.code yX4_showSeats cX4_showSeats 3 none ∈ cd_T := cd_T3 (List.mem_of_getElem? (i := 25) (by decide +kernel)) (by decide +kernel)
theorem cd_m_X4_184 : Cond.methodLink RX4 184 yX4_showSeatsOf ∈ cd_T := cd_T3 (List.mem_of_getElem? (i := 26) (by decide +kernel)) (by decide +kernel)
theorem cd_i_X4_showSeatsOf : Cond.instanceMethod yX4_showSeatsOf ∈ cd_T := cd_T3 (List.mem_of_getElem? (i := 28) (by decide +kernel)) (by decide +kernel)
theorem cd_c_X4_showSeatsOf : Cond.code yX4_showSeatsOf cX4_showSeatsOf 5 (some .int) ∈ cd_T := cd_T3 (List.mem_of_getElem? (i := 29) (by decide +kernel)) (by decide +kernel)
theorem cd_m_X4_135 : Cond.methodLink RX4 135 yX4_countSlice ∈ cd_T := cd_T3 (List.mem_of_getElem? (i := 30) (by decide +kernel)) (by decide +kernel)
theorem cd_i_X4_countSlice : Cond.instanceMethod yX4_countSlice ∈ cd_T := cd_T3 (List.mem_of_getElem? (i := 32) (by decide +kernel)) (by decide +kernel)
theorem cd_c_X4_countSlice : Cond.code yX4_countSlice cX4_countSlice 4 none ∈ cd_T := cd_T3 (List.mem_of_getElem? (i := 33) (by decide +kernel)) (by decide +kernel)
theorem cd_m_X4_198 : Cond.methodLink RX4 198 yX0_countSlice ∈ cd_T := cd_T3 (List.mem_of_getElem? (i := 34) (by decide +kernel)) (by decide +kernel)
theorem cd_i_X0_countSlice : Cond.instanceMethod yX0_countSlice ∈ cd_T := cd_T3 (List.mem_of_getElem? (i := 35) (by decide +kernel)) (by decide +kernel)
theorem cd_e_X0_X0_countSlice : Cond.selects RX0 yX0_countSlice yX0_countSlice ∈ cd_T := cd_T3 (List.mem_of_getElem? (i := 36) (by decide +kernel)) (by decide +kernel)
theorem cd_c_X0_countSlice : Cond.code yX0_countSlice cX0_countSlice 5 none ∈ cd_T := cd_T3 (List.mem_of_getElem? (i := 37) (by decide +kernel)) (by decide +kernel)
theorem cd_m_X0_70 : Cond.methodLink RX0 70 yX5_rateOf ∈ cd_T := cd_T3 (List.mem_of_getElem? (i := 38) (by decide +kernel)) (by decide +kernel)
theorem cd_m_X0_76 : Cond.methodLink RX0 76 yJ9_max_7cf53 ∈ cd_T := cd_T3 (List.mem_of_getElem? (i := 39) (by decide +kernel)) (by decide +kernel)
theorem cd_s_J9_max_7cf53 : Cond.static yJ9_max_7cf53 ∈ cd_T := cd_T3 (List.mem_of_getElem? (i := 40) (by decide +kernel)) (by decide +kernel)
theorem cd_c_J9_max_7cf53 : Cond.code yJ9_max_7cf53 cJ9_max_7cf53 2 (some .int) ∈ cd_T := cd_T3 (List.mem_of_getElem? (i := 41) (by decide +kernel)) (by decide +kernel)
theorem cd_m_X4_138 : Cond.methodLink RX4 138 yX4_takeSamples ∈ cd_T := cd_T3 (List.mem_of_getElem? (i := 42) (by decide +kernel)) (by decide +kernel)
theorem cd_i_X4_takeSamples : Cond.instanceMethod yX4_takeSamples ∈ cd_T := cd_T3 (List.mem_of_getElem? (i := 44) (by decide +kernel)) (by decide +kernel)
theorem cd_c_X4_takeSamples : Cond.code yX4_takeSamples cX4_takeSamples 6 none ∈ cd_T := cd_T3 (List.mem_of_getElem? (i := 45) (by decide +kernel)) (by decide +kernel)
theorem cd_m_X4_204 : Cond.methodLink RX4 204 yX5_rateOf ∈ cd_T := cd_T3 (List.mem_of_getElem? (i := 46) (by decide +kernel)) (by decide +kernel)
theorem cd_m_X4_208 : Cond.methodLink RX4 208 yX2_await ∈ cd_T := cd_T3 (List.mem_of_getElem? (i := 47) (by decide +kernel)) (by decide +kernel)
theorem cd_i_X2_await : Cond.instanceMethod yX2_await ∈ cd_T := cd_T3 (List.mem_of_getElem? (i := 48) (by decide +kernel)) (by decide +kernel)
theorem cd_e_X2_X2_await : Cond.selects RX2 yX2_await yX2_await ∈ cd_T := cd_T3 (List.mem_of_getElem? (i := 49) (by decide +kernel)) (by decide +kernel)
theorem cd_c_X2_await : Cond.code yX2_await cX2_await 3 none ∈ cd_T := cd_T3 (List.mem_of_getElem? (i := 50) (by decide +kernel)) (by decide +kernel)
theorem cd_m_X4_141 : Cond.methodLink RX4 141 yX2_tellDue ∈ cd_T := cd_T3 (List.mem_of_getElem? (i := 51) (by decide +kernel)) (by decide +kernel)
theorem cd_i_X2_tellDue : Cond.instanceMethod yX2_tellDue ∈ cd_T := cd_T3 (List.mem_of_getElem? (i := 52) (by decide +kernel)) (by decide +kernel)
theorem cd_e_X2_X2_tellDue : Cond.selects RX2 yX2_tellDue yX2_tellDue ∈ cd_T := cd_T3 (List.mem_of_getElem? (i := 53) (by decide +kernel)) (by decide +kernel)
theorem cd_c_X2_tellDue : Cond.code yX2_tellDue cX2_tellDue 5 none ∈ cd_T := cd_T3 (List.mem_of_getElem? (i := 54) (by decide +kernel)) (by decide +kernel)
theorem cd_m_X2_43 : Cond.methodLink RX2 43 yX2_keep ∈ cd_T := cd_T3 (List.mem_of_getElem? (i := 55) (by decide +kernel)) (by decide +kernel)
theorem cd_i_X2_keep : Cond.instanceMethod yX2_keep ∈ cd_T := cd_T3 (List.mem_of_getElem? (i := 57) (by decide +kernel)) (by decide +kernel)
theorem cd_c_X2_keep : Cond.code yX2_keep cX2_keep 4 none ∈ cd_T := cd_T3 (List.mem_of_getElem? (i := 58) (by decide +kernel)) (by decide +kernel)
theorem cd_m_X4_144 : Cond.methodLink RX4 144 yX4_takeTurn ∈ cd_T := cd_T3 (List.mem_of_getElem? (i := 59) (by decide +kernel)) (by decide +kernel)
theorem cd_i_X4_takeTurn : Cond.instanceMethod yX4_takeTurn ∈ cd_T := cd_T3 (List.mem_of_getElem? (i := 61) (by decide +kernel)) (by decide +kernel)
theorem cd_c_X4_takeTurn : Cond.code yX4_takeTurn cX4_takeTurn 4 none ∈ cd_T := cd_T3 (List.mem_of_getElem? (i := 62) (by decide +kernel)) (by decide +kernel)
theorem cd_m_X4_217 : Cond.methodLink RX4 217 yX4_moveToEnd ∈ cd_T := cd_T3 (List.mem_of_getElem? (i := 63) (by decide +kernel)) (by decide +kernel)
theorem cd_i_X4_moveToEnd : Cond.instanceMethod yX4_moveToEnd ∈ cd_T := cd_T3 (List.mem_of_getElem? (i := 65) (by decide +kernel)) (by decide +kernel)
theorem cd_c_X4_moveToEnd : Cond.code yX4_moveToEnd cX4_moveToEnd 4 none ∈ cd_T := cd_T3 (List.mem_of_getElem? (i := 66) (by decide +kernel)) (by decide +kernel)
theorem cd_m_L_61 : Cond.methodLink RL 61 yX7_task ∈ cd_T := cd_T3 (List.mem_of_getElem? (i := 67) (by decide +kernel)) (by decide +kernel)
theorem cd_i_X7_task : Cond.instanceMethod yX7_task ∈ cd_T := cd_T3 (List.mem_of_getElem? (i := 68) (by decide +kernel)) (by decide +kernel)
theorem cd_e_X7_X7_task : Cond.selects RX7 yX7_task yX7_task ∈ cd_T := cd_T3 (List.mem_of_getElem? (i := 69) (by decide +kernel)) (by decide +kernel)
theorem cd_c_X7_task : Cond.code yX7_task cX7_task 3 (some .int) ∈ cd_T := cd_T3 (List.mem_of_getElem? (i := 70) (by decide +kernel)) (by decide +kernel)
theorem cd_m_X7_89 : Cond.methodLink RX7 89 yX4_taskFact ∈ cd_T := cd_T3 (List.mem_of_getElem? (i := 71) (by decide +kernel)) (by decide +kernel)
theorem cd_i_X4_taskFact : Cond.instanceMethod yX4_taskFact ∈ cd_T := cd_T3 (List.mem_of_getElem? (i := 72) (by decide +kernel)) (by decide +kernel)
theorem cd_e_X4_X4_taskFact : Cond.selects RX4 yX4_taskFact yX4_taskFact ∈ cd_T := cd_T3 (List.mem_of_getElem? (i := 73) (by decide +kernel)) (by decide +kernel)
theorem cd_c_X4_taskFact : Cond.code yX4_taskFact cX4_taskFact 3 (some .int) ∈ cd_T := cd_T3 (List.mem_of_getElem? (i := 74) (by decide +kernel)) (by decide +kernel)
theorem cd_m_L_65 : Cond.methodLink RL 65 yX7_of ∈ cd_T := cd_T3 (List.mem_of_getElem? (i := 75) (by decide +kernel)) (by decide +kernel)
theorem cd_i_X7_of : Cond.instanceMethod yX7_of ∈ cd_T := cd_T3 (List.mem_of_getElem? (i := 76) (by decide +kernel)) (by decide +kernel)
theorem cd_e_X7_X7_of : Cond.selects RX7 yX7_of yX7_of ∈ cd_T := cd_T3 (List.mem_of_getElem? (i := 77) (by decide +kernel)) (by decide +kernel)
theorem cd_c_X7_of : Cond.code yX7_of cX7_of 3 (some .int) ∈ cd_T := cd_T3 (List.mem_of_getElem? (i := 78) (by decide +kernel)) (by decide +kernel)
theorem cd_m_X7_95 : Cond.methodLink RX7 95 yX4_groupFact ∈ cd_T := cd_T3 (List.mem_of_getElem? (i := 79) (by decide +kernel)) (by decide +kernel)
theorem cd_i_X4_groupFact : Cond.instanceMethod yX4_groupFact ∈ cd_T := cd_T3 (List.mem_of_getElem? (i := 80) (by decide +kernel)) (by decide +kernel)
theorem cd_e_X4_X4_groupFact : Cond.selects RX4 yX4_groupFact yX4_groupFact ∈ cd_T := cd_T3 (List.mem_of_getElem? (i := 81) (by decide +kernel)) (by decide +kernel)
theorem cd_c_X4_groupFact : Cond.code yX4_groupFact cX4_groupFact 4 (some .int) ∈ cd_T := cd_T3 (List.mem_of_getElem? (i := 82) (by decide +kernel)) (by decide +kernel)
theorem cd_m_X4_220 : Cond.methodLink RX4 220 yX4_placeInLine ∈ cd_T := cd_T3 (List.mem_of_getElem? (i := 83) (by decide +kernel)) (by decide +kernel)
theorem cd_i_X4_placeInLine : Cond.instanceMethod yX4_placeInLine ∈ cd_T := cd_T3 (List.mem_of_getElem? (i := 85) (by decide +kernel)) (by decide +kernel)
theorem cd_c_X4_placeInLine : Cond.code yX4_placeInLine cX4_placeInLine 3 (some .int) ∈ cd_T := cd_T3 (List.mem_of_getElem? (i := 86) (by decide +kernel)) (by decide +kernel)
theorem cd_m_L_69 : Cond.methodLink RL 69 yX7_about ∈ cd_T := cd_T3 (List.mem_of_getElem? (i := 87) (by decide +kernel)) (by decide +kernel)
theorem cd_i_X7_about : Cond.instanceMethod yX7_about ∈ cd_T := cd_T3 (List.mem_of_getElem? (i := 88) (by decide +kernel)) (by decide +kernel)
theorem cd_e_X7_X7_about : Cond.selects RX7 yX7_about yX7_about ∈ cd_T := cd_T3 (List.mem_of_getElem? (i := 89) (by decide +kernel)) (by decide +kernel)
theorem cd_c_X7_about : Cond.code yX7_about cX7_about 4 (some .int) ∈ cd_T := cd_T3 (List.mem_of_getElem? (i := 90) (by decide +kernel)) (by decide +kernel)
theorem cd_m_X7_98 : Cond.methodLink RX7 98 yX4_eventFact ∈ cd_T := cd_T3 (List.mem_of_getElem? (i := 91) (by decide +kernel)) (by decide +kernel)
theorem cd_i_X4_eventFact : Cond.instanceMethod yX4_eventFact ∈ cd_T := cd_T3 (List.mem_of_getElem? (i := 92) (by decide +kernel)) (by decide +kernel)
theorem cd_e_X4_X4_eventFact : Cond.selects RX4 yX4_eventFact yX4_eventFact ∈ cd_T := cd_T3 (List.mem_of_getElem? (i := 93) (by decide +kernel)) (by decide +kernel)
theorem cd_c_X4_eventFact : Cond.code yX4_eventFact cX4_eventFact 4 (some .int) ∈ cd_T := cd_T3 (List.mem_of_getElem? (i := 94) (by decide +kernel)) (by decide +kernel)
theorem cd_m_X4_223 : Cond.methodLink RX4 223 yX4_hasEvent ∈ cd_T := cd_T3 (List.mem_of_getElem? (i := 95) (by decide +kernel)) (by decide +kernel)
theorem cd_i_X4_hasEvent : Cond.instanceMethod yX4_hasEvent ∈ cd_T := cd_T3 (List.mem_of_getElem? (i := 96) (by decide +kernel)) (by decide +kernel)
theorem cd_e_X4_X4_hasEvent : Cond.selects RX4 yX4_hasEvent yX4_hasEvent ∈ cd_T := cd_T3 (List.mem_of_getElem? (i := 97) (by decide +kernel)) (by decide +kernel)
theorem cd_c_X4_hasEvent : Cond.code yX4_hasEvent cX4_hasEvent 3 (some .boolean) ∈ cd_T := cd_T3 (List.mem_of_getElem? (i := 98) (by decide +kernel)) (by decide +kernel)
theorem cd_m_X4_81 : Cond.methodLink RX4 81 yX0_hasEvent ∈ cd_T := cd_T3 (List.mem_of_getElem? (i := 99) (by decide +kernel)) (by decide +kernel)
theorem cd_i_X0_hasEvent : Cond.instanceMethod yX0_hasEvent ∈ cd_T := cd_T3 (List.mem_of_getElem? (i := 100) (by decide +kernel)) (by decide +kernel)
theorem cd_e_X0_X0_hasEvent : Cond.selects RX0 yX0_hasEvent yX0_hasEvent ∈ cd_T := cd_T3 (List.mem_of_getElem? (i := 101) (by decide +kernel)) (by decide +kernel)
theorem cd_c_X0_hasEvent : Cond.code yX0_hasEvent cX0_hasEvent 2 (some .boolean) ∈ cd_T := cd_T3 (List.mem_of_getElem? (i := 102) (by decide +kernel)) (by decide +kernel)
theorem cd_m_L_73 : Cond.methodLink RL 73 yX7_count ∈ cd_T := cd_T3 (List.mem_of_getElem? (i := 104) (by decide +kernel)) (by decide +kernel)
theorem cd_i_X7_count : Cond.instanceMethod yX7_count ∈ cd_T := cd_T3 (List.mem_of_getElem? (i := 105) (by decide +kernel)) (by decide +kernel)
theorem cd_e_X7_X7_count : Cond.selects RX7 yX7_count yX7_count ∈ cd_T := cd_T3 (List.mem_of_getElem? (i := 106) (by decide +kernel)) (by decide +kernel)
theorem cd_c_X7_count : Cond.code yX7_count cX7_count 4 (some .int) ∈ cd_T := cd_T3 (List.mem_of_getElem? (i := 107) (by decide +kernel)) (by decide +kernel)
theorem cd_m_X7_101 : Cond.methodLink RX7 101 yX4_countFact ∈ cd_T := cd_T3 (List.mem_of_getElem? (i := 108) (by decide +kernel)) (by decide +kernel)
theorem cd_i_X4_countFact : Cond.instanceMethod yX4_countFact ∈ cd_T := cd_T3 (List.mem_of_getElem? (i := 109) (by decide +kernel)) (by decide +kernel)
theorem cd_e_X4_X4_countFact : Cond.selects RX4 yX4_countFact yX4_countFact ∈ cd_T := cd_T3 (List.mem_of_getElem? (i := 110) (by decide +kernel)) (by decide +kernel)
theorem cd_c_X4_countFact : Cond.code yX4_countFact cX4_countFact 4 (some .int) ∈ cd_T := cd_T3 (List.mem_of_getElem? (i := 111) (by decide +kernel)) (by decide +kernel)
theorem cd_m_X4_228 : Cond.methodLink RX4 228 yX0_countIn ∈ cd_T := cd_T3 (List.mem_of_getElem? (i := 112) (by decide +kernel)) (by decide +kernel)
theorem cd_i_X0_countIn : Cond.instanceMethod yX0_countIn ∈ cd_T := cd_T3 (List.mem_of_getElem? (i := 113) (by decide +kernel)) (by decide +kernel)
theorem cd_e_X0_X0_countIn : Cond.selects RX0 yX0_countIn yX0_countIn ∈ cd_T := cd_T3 (List.mem_of_getElem? (i := 114) (by decide +kernel)) (by decide +kernel)
theorem cd_c_X0_countIn : Cond.code yX0_countIn cX0_countIn 3 (some .int) ∈ cd_T := cd_T3 (List.mem_of_getElem? (i := 115) (by decide +kernel)) (by decide +kernel)
theorem cd_m_X0_85 : Cond.methodLink RX0 85 yX0_cellOrSum ∈ cd_T := cd_T3 (List.mem_of_getElem? (i := 116) (by decide +kernel)) (by decide +kernel)
theorem cd_s_X0_cellOrSum : Cond.static yX0_cellOrSum ∈ cd_T := cd_T3 (List.mem_of_getElem? (i := 117) (by decide +kernel)) (by decide +kernel)
theorem cd_c_X0_cellOrSum : Cond.code yX0_cellOrSum cX0_cellOrSum 5 (some .int) ∈ cd_T := cd_T3 (List.mem_of_getElem? (i := 118) (by decide +kernel)) (by decide +kernel)
theorem cd_m_L_77 : Cond.methodLink RL 77 yX7_times ∈ cd_T := cd_T3 (List.mem_of_getElem? (i := 119) (by decide +kernel)) (by decide +kernel)
theorem cd_i_X7_times : Cond.instanceMethod yX7_times ∈ cd_T := cd_T3 (List.mem_of_getElem? (i := 120) (by decide +kernel)) (by decide +kernel)
theorem cd_e_X7_X7_times : Cond.selects RX7 yX7_times yX7_times ∈ cd_T := cd_T3 (List.mem_of_getElem? (i := 121) (by decide +kernel)) (by decide +kernel)
theorem cd_c_X7_times : Cond.code yX7_times cX7_times 4 (some .int) ∈ cd_T := cd_T3 (List.mem_of_getElem? (i := 122) (by decide +kernel)) (by decide +kernel)
theorem cd_m_X7_104 : Cond.methodLink RX7 104 yX4_timeFact ∈ cd_T := cd_T3 (List.mem_of_getElem? (i := 123) (by decide +kernel)) (by decide +kernel)
theorem cd_i_X4_timeFact : Cond.instanceMethod yX4_timeFact ∈ cd_T := cd_T3 (List.mem_of_getElem? (i := 124) (by decide +kernel)) (by decide +kernel)
theorem cd_e_X4_X4_timeFact : Cond.selects RX4 yX4_timeFact yX4_timeFact ∈ cd_T := cd_T3 (List.mem_of_getElem? (i := 125) (by decide +kernel)) (by decide +kernel)
theorem cd_c_X4_timeFact : Cond.code yX4_timeFact cX4_timeFact 4 (some .int) ∈ cd_T := cd_T3 (List.mem_of_getElem? (i := 126) (by decide +kernel)) (by decide +kernel)
theorem cd_m_X4_231 : Cond.methodLink RX4 231 yX0_enabledIn ∈ cd_T := cd_T3 (List.mem_of_getElem? (i := 127) (by decide +kernel)) (by decide +kernel)
theorem cd_i_X0_enabledIn : Cond.instanceMethod yX0_enabledIn ∈ cd_T := cd_T3 (List.mem_of_getElem? (i := 128) (by decide +kernel)) (by decide +kernel)
theorem cd_e_X0_X0_enabledIn : Cond.selects RX0 yX0_enabledIn yX0_enabledIn ∈ cd_T := cd_T3 (List.mem_of_getElem? (i := 129) (by decide +kernel)) (by decide +kernel)
theorem cd_c_X0_enabledIn : Cond.code yX0_enabledIn cX0_enabledIn 2 (some .int) ∈ cd_T := cd_T3 (List.mem_of_getElem? (i := 130) (by decide +kernel)) (by decide +kernel)
theorem cd_m_X4_234 : Cond.methodLink RX4 234 yX0_runningIn ∈ cd_T := cd_T3 (List.mem_of_getElem? (i := 131) (by decide +kernel)) (by decide +kernel)
theorem cd_i_X0_runningIn : Cond.instanceMethod yX0_runningIn ∈ cd_T := cd_T3 (List.mem_of_getElem? (i := 132) (by decide +kernel)) (by decide +kernel)
theorem cd_e_X0_X0_runningIn : Cond.selects RX0 yX0_runningIn yX0_runningIn ∈ cd_T := cd_T3 (List.mem_of_getElem? (i := 133) (by decide +kernel)) (by decide +kernel)
theorem cd_c_X0_runningIn : Cond.code yX0_runningIn cX0_runningIn 2 (some .int) ∈ cd_T := cd_T3 (List.mem_of_getElem? (i := 134) (by decide +kernel)) (by decide +kernel)
theorem cd_m_L_81 : Cond.methodLink RL 81 yX7_scaled ∈ cd_T := cd_T3 (List.mem_of_getElem? (i := 135) (by decide +kernel)) (by decide +kernel)
theorem cd_i_X7_scaled : Cond.instanceMethod yX7_scaled ∈ cd_T := cd_T3 (List.mem_of_getElem? (i := 136) (by decide +kernel)) (by decide +kernel)
theorem cd_e_X7_X7_scaled : Cond.selects RX7 yX7_scaled yX7_scaled ∈ cd_T := cd_T3 (List.mem_of_getElem? (i := 137) (by decide +kernel)) (by decide +kernel)
theorem cd_c_X7_scaled : Cond.code yX7_scaled cX7_scaled 4 (some .int) ∈ cd_T := cd_T3 (List.mem_of_getElem? (i := 138) (by decide +kernel)) (by decide +kernel)
theorem cd_m_X7_107 : Cond.methodLink RX7 107 yX4_scaledFact ∈ cd_T := cd_T3 (List.mem_of_getElem? (i := 139) (by decide +kernel)) (by decide +kernel)
theorem cd_i_X4_scaledFact : Cond.instanceMethod yX4_scaledFact ∈ cd_T := cd_T3 (List.mem_of_getElem? (i := 140) (by decide +kernel)) (by decide +kernel)
theorem cd_e_X4_X4_scaledFact : Cond.selects RX4 yX4_scaledFact yX4_scaledFact ∈ cd_T := cd_T3 (List.mem_of_getElem? (i := 141) (by decide +kernel)) (by decide +kernel)
theorem cd_c_X4_scaledFact : Cond.code yX4_scaledFact cX4_scaledFact 4 (some .int) ∈ cd_T := cd_T3 (List.mem_of_getElem? (i := 142) (by decide +kernel)) (by decide +kernel)
theorem cd_m_X4_237 : Cond.methodLink RX4 237 yX0_scaledCount ∈ cd_T := cd_T3 (List.mem_of_getElem? (i := 143) (by decide +kernel)) (by decide +kernel)
theorem cd_i_X0_scaledCount : Cond.instanceMethod yX0_scaledCount ∈ cd_T := cd_T3 (List.mem_of_getElem? (i := 144) (by decide +kernel)) (by decide +kernel)
theorem cd_e_X0_X0_scaledCount : Cond.selects RX0 yX0_scaledCount yX0_scaledCount ∈ cd_T := cd_T3 (List.mem_of_getElem? (i := 145) (by decide +kernel)) (by decide +kernel)
theorem cd_c_X0_scaledCount : Cond.code yX0_scaledCount cX0_scaledCount 3 (some .int) ∈ cd_T := cd_T3 (List.mem_of_getElem? (i := 146) (by decide +kernel)) (by decide +kernel)
theorem cd_m_X0_89 : Cond.methodLink RX0 89 yX0_runningIn ∈ cd_T := cd_T3 (List.mem_of_getElem? (i := 147) (by decide +kernel)) (by decide +kernel)
theorem cd_m_X0_93 : Cond.methodLink RX0 93 yX0_countIn ∈ cd_T := cd_T3 (List.mem_of_getElem? (i := 148) (by decide +kernel)) (by decide +kernel)
theorem cd_m_X0_96 : Cond.methodLink RX0 96 yX0_enabledIn ∈ cd_T := cd_T3 (List.mem_of_getElem? (i := 149) (by decide +kernel)) (by decide +kernel)
theorem cd_m_X4_240 : Cond.methodLink RX4 240 yX0_mostCount ∈ cd_T := cd_T3 (List.mem_of_getElem? (i := 150) (by decide +kernel)) (by decide +kernel)
theorem cd_i_X0_mostCount : Cond.instanceMethod yX0_mostCount ∈ cd_T := cd_T3 (List.mem_of_getElem? (i := 151) (by decide +kernel)) (by decide +kernel)
theorem cd_e_X0_X0_mostCount : Cond.selects RX0 yX0_mostCount yX0_mostCount ∈ cd_T := cd_T3 (List.mem_of_getElem? (i := 152) (by decide +kernel)) (by decide +kernel)
theorem cd_c_X0_mostCount : Cond.code yX0_mostCount cX0_mostCount 2 (some .int) ∈ cd_T := cd_T3 (List.mem_of_getElem? (i := 153) (by decide +kernel)) (by decide +kernel)
theorem cd_m_L_85 : Cond.methodLink RL 85 yX7_fit ∈ cd_T := cd_T3 (List.mem_of_getElem? (i := 154) (by decide +kernel)) (by decide +kernel)
theorem cd_i_X7_fit : Cond.instanceMethod yX7_fit ∈ cd_T := cd_T3 (List.mem_of_getElem? (i := 155) (by decide +kernel)) (by decide +kernel)
theorem cd_e_X7_X7_fit : Cond.selects RX7 yX7_fit yX7_fit ∈ cd_T := cd_T3 (List.mem_of_getElem? (i := 156) (by decide +kernel)) (by decide +kernel)
theorem cd_c_X7_fit : Cond.code yX7_fit cX7_fit 2 (some .int) ∈ cd_T := cd_T3 (List.mem_of_getElem? (i := 157) (by decide +kernel)) (by decide +kernel)
theorem cd_m_X7_110 : Cond.methodLink RX7 110 yX4_fitFact ∈ cd_T := cd_T3 (List.mem_of_getElem? (i := 158) (by decide +kernel)) (by decide +kernel)
theorem cd_i_X4_fitFact : Cond.instanceMethod yX4_fitFact ∈ cd_T := cd_T3 (List.mem_of_getElem? (i := 159) (by decide +kernel)) (by decide +kernel)
theorem cd_e_X4_X4_fitFact : Cond.selects RX4 yX4_fitFact yX4_fitFact ∈ cd_T := cd_T3 (List.mem_of_getElem? (i := 160) (by decide +kernel)) (by decide +kernel)
theorem cd_c_X4_fitFact : Cond.code yX4_fitFact cX4_fitFact 3 (some .int) ∈ cd_T := cd_T3 (List.mem_of_getElem? (i := 161) (by decide +kernel)) (by decide +kernel)
theorem cd_m_L_89 : Cond.methodLink RL 89 yX7_queue ∈ cd_T := cd_T3 (List.mem_of_getElem? (i := 162) (by decide +kernel)) (by decide +kernel)
theorem cd_i_X7_queue : Cond.instanceMethod yX7_queue ∈ cd_T := cd_T3 (List.mem_of_getElem? (i := 163) (by decide +kernel)) (by decide +kernel)
theorem cd_e_X7_X7_queue : Cond.selects RX7 yX7_queue yX7_queue ∈ cd_T := cd_T3 (List.mem_of_getElem? (i := 164) (by decide +kernel)) (by decide +kernel)
theorem cd_c_X7_queue : Cond.code yX7_queue cX7_queue 2 (some .int) ∈ cd_T := cd_T3 (List.mem_of_getElem? (i := 165) (by decide +kernel)) (by decide +kernel)
theorem cd_m_X7_113 : Cond.methodLink RX7 113 yX4_queueFact ∈ cd_T := cd_T3 (List.mem_of_getElem? (i := 166) (by decide +kernel)) (by decide +kernel)
theorem cd_i_X4_queueFact : Cond.instanceMethod yX4_queueFact ∈ cd_T := cd_T3 (List.mem_of_getElem? (i := 167) (by decide +kernel)) (by decide +kernel)
theorem cd_e_X4_X4_queueFact : Cond.selects RX4 yX4_queueFact yX4_queueFact ∈ cd_T := cd_T3 (List.mem_of_getElem? (i := 168) (by decide +kernel)) (by decide +kernel)
theorem cd_c_X4_queueFact : Cond.code yX4_queueFact cX4_queueFact 2 (some .int) ∈ cd_T := cd_T3 (List.mem_of_getElem? (i := 169) (by decide +kernel)) (by decide +kernel)
theorem cd_m_L_93 : Cond.methodLink RL 93 yX7_sample ∈ cd_T := cd_T3 (List.mem_of_getElem? (i := 170) (by decide +kernel)) (by decide +kernel)
theorem cd_i_X7_sample : Cond.instanceMethod yX7_sample ∈ cd_T := cd_T3 (List.mem_of_getElem? (i := 171) (by decide +kernel)) (by decide +kernel)
theorem cd_e_X7_X7_sample : Cond.selects RX7 yX7_sample yX7_sample ∈ cd_T := cd_T3 (List.mem_of_getElem? (i := 172) (by decide +kernel)) (by decide +kernel)
theorem cd_c_X7_sample : Cond.code yX7_sample cX7_sample 3 (some .int) ∈ cd_T := cd_T3 (List.mem_of_getElem? (i := 173) (by decide +kernel)) (by decide +kernel)
theorem cd_m_X7_120 : Cond.methodLink RX7 120 yX2_keptFact ∈ cd_T := cd_T3 (List.mem_of_getElem? (i := 174) (by decide +kernel)) (by decide +kernel)
theorem cd_i_X2_keptFact : Cond.instanceMethod yX2_keptFact ∈ cd_T := cd_T3 (List.mem_of_getElem? (i := 175) (by decide +kernel)) (by decide +kernel)
theorem cd_e_X2_X2_keptFact : Cond.selects RX2 yX2_keptFact yX2_keptFact ∈ cd_T := cd_T3 (List.mem_of_getElem? (i := 176) (by decide +kernel)) (by decide +kernel)
theorem cd_c_X2_keptFact : Cond.code yX2_keptFact cX2_keptFact 3 (some .int) ∈ cd_T := cd_T3 (List.mem_of_getElem? (i := 177) (by decide +kernel)) (by decide +kernel)
theorem cd_m_L_97 : Cond.methodLink RL 97 yX7_told ∈ cd_T := cd_T3 (List.mem_of_getElem? (i := 179) (by decide +kernel)) (by decide +kernel)
theorem cd_i_X7_told : Cond.instanceMethod yX7_told ∈ cd_T := cd_T3 (List.mem_of_getElem? (i := 180) (by decide +kernel)) (by decide +kernel)
theorem cd_e_X7_X7_told : Cond.selects RX7 yX7_told yX7_told ∈ cd_T := cd_T3 (List.mem_of_getElem? (i := 181) (by decide +kernel)) (by decide +kernel)
theorem cd_c_X7_told : Cond.code yX7_told cX7_told 2 (some .int) ∈ cd_T := cd_T3 (List.mem_of_getElem? (i := 182) (by decide +kernel)) (by decide +kernel)
theorem cd_m_X7_125 : Cond.methodLink RX7 125 yX4_wholeFact ∈ cd_T := cd_T3 (List.mem_of_getElem? (i := 183) (by decide +kernel)) (by decide +kernel)
theorem cd_i_X4_wholeFact : Cond.instanceMethod yX4_wholeFact ∈ cd_T := cd_T3 (List.mem_of_getElem? (i := 184) (by decide +kernel)) (by decide +kernel)
theorem cd_e_X4_X4_wholeFact : Cond.selects RX4 yX4_wholeFact yX4_wholeFact ∈ cd_T := cd_T3 (List.mem_of_getElem? (i := 185) (by decide +kernel)) (by decide +kernel)
theorem cd_c_X4_wholeFact : Cond.code yX4_wholeFact cX4_wholeFact 2 (some .int) ∈ cd_T := cd_T3 (List.mem_of_getElem? (i := 186) (by decide +kernel)) (by decide +kernel)
theorem cd_m_X4_253 : Cond.methodLink RX4 253 yX4_groupsOn ∈ cd_T := cd_T3 (List.mem_of_getElem? (i := 187) (by decide +kernel)) (by decide +kernel)
theorem cd_i_X4_groupsOn : Cond.instanceMethod yX4_groupsOn ∈ cd_T := cd_T3 (List.mem_of_getElem? (i := 189) (by decide +kernel)) (by decide +kernel)
theorem cd_c_X4_groupsOn : Cond.code yX4_groupsOn cX4_groupsOn 3 (some .int) ∈ cd_T := cd_T3 (List.mem_of_getElem? (i := 190) (by decide +kernel)) (by decide +kernel)
theorem cd_m_L_101 : Cond.methodLink RL 101 yX7_type ∈ cd_T := cd_T3 (List.mem_of_getElem? (i := 191) (by decide +kernel)) (by decide +kernel)
theorem cd_i_X7_type : Cond.instanceMethod yX7_type ∈ cd_T := cd_T3 (List.mem_of_getElem? (i := 192) (by decide +kernel)) (by decide +kernel)
theorem cd_e_X7_X7_type : Cond.selects RX7 yX7_type yX7_type ∈ cd_T := cd_T3 (List.mem_of_getElem? (i := 193) (by decide +kernel)) (by decide +kernel)
theorem cd_c_X7_type : Cond.code yX7_type cX7_type 2 (some .int) ∈ cd_T := cd_T3 (List.mem_of_getElem? (i := 194) (by decide +kernel)) (by decide +kernel)
theorem cd_m_X7_128 : Cond.methodLink RX7 128 yX6_addByte ∈ cd_T := cd_T3 (List.mem_of_getElem? (i := 195) (by decide +kernel)) (by decide +kernel)
theorem cd_i_X6_addByte : Cond.instanceMethod yX6_addByte ∈ cd_T := cd_T3 (List.mem_of_getElem? (i := 196) (by decide +kernel)) (by decide +kernel)
theorem cd_e_X6_X6_addByte : Cond.selects RX6 yX6_addByte yX6_addByte ∈ cd_T := cd_T3 (List.mem_of_getElem? (i := 197) (by decide +kernel)) (by decide +kernel)
theorem cd_c_X6_addByte : Cond.code yX6_addByte cX6_addByte 2 (some .int) ∈ cd_T := cd_T3 (List.mem_of_getElem? (i := 198) (by decide +kernel)) (by decide +kernel)
theorem cd_m_L_105 : Cond.methodLink RL 105 yX7_clear ∈ cd_T := cd_T3 (List.mem_of_getElem? (i := 200) (by decide +kernel)) (by decide +kernel)
theorem cd_i_X7_clear : Cond.instanceMethod yX7_clear ∈ cd_T := cd_T3 (List.mem_of_getElem? (i := 201) (by decide +kernel)) (by decide +kernel)
theorem cd_e_X7_X7_clear : Cond.selects RX7 yX7_clear yX7_clear ∈ cd_T := cd_T3 (List.mem_of_getElem? (i := 202) (by decide +kernel)) (by decide +kernel)
theorem cd_c_X7_clear : Cond.code yX7_clear cX7_clear 2 (some .int) ∈ cd_T := cd_T3 (List.mem_of_getElem? (i := 203) (by decide +kernel)) (by decide +kernel)
theorem cd_m_L_110 : Cond.methodLink RL 110 yX7_does ∈ cd_T := cd_T3 (List.mem_of_getElem? (i := 204) (by decide +kernel)) (by decide +kernel)
theorem cd_i_X7_does : Cond.instanceMethod yX7_does ∈ cd_T := cd_T3 (List.mem_of_getElem? (i := 205) (by decide +kernel)) (by decide +kernel)
theorem cd_e_X7_X7_does : Cond.selects RX7 yX7_does yX7_does ∈ cd_T := cd_T3 (List.mem_of_getElem? (i := 206) (by decide +kernel)) (by decide +kernel)
theorem cd_c_X7_does : Cond.code yX7_does cX7_does 3 (some .int) ∈ cd_T := cd_T3 (List.mem_of_getElem? (i := 207) (by decide +kernel)) (by decide +kernel)
theorem cd_m_X7_135 : Cond.methodLink RX7 135 yX6_readOrders ∈ cd_T := cd_T3 (List.mem_of_getElem? (i := 208) (by decide +kernel)) (by decide +kernel)
theorem cd_i_X6_readOrders : Cond.instanceMethod yX6_readOrders ∈ cd_T := cd_T3 (List.mem_of_getElem? (i := 209) (by decide +kernel)) (by decide +kernel)
theorem cd_e_X6_X6_readOrders : Cond.selects RX6 yX6_readOrders yX6_readOrders ∈ cd_T := cd_T3 (List.mem_of_getElem? (i := 210) (by decide +kernel)) (by decide +kernel)
theorem cd_c_X6_readOrders : Cond.code yX6_readOrders cX6_readOrders 2 (some .int) ∈ cd_T := cd_T3 (List.mem_of_getElem? (i := 211) (by decide +kernel)) (by decide +kernel)
theorem cd_m_X6_45 : Cond.methodLink RX6 45 yX6_readByte ∈ cd_T := cd_T3 (List.mem_of_getElem? (i := 212) (by decide +kernel)) (by decide +kernel)
theorem cd_i_X6_readByte : Cond.instanceMethod yX6_readByte ∈ cd_T := cd_T3 (List.mem_of_getElem? (i := 214) (by decide +kernel)) (by decide +kernel)
theorem cd_c_X6_readByte : Cond.code yX6_readByte cX6_readByte 2 (some .boolean) ∈ cd_T := cd_T3 (List.mem_of_getElem? (i := 215) (by decide +kernel)) (by decide +kernel)
theorem cd_m_X6_49 : Cond.methodLink RX6 49 yX6_readLetter ∈ cd_T := cd_T3 (List.mem_of_getElem? (i := 216) (by decide +kernel)) (by decide +kernel)
theorem cd_i_X6_readLetter : Cond.instanceMethod yX6_readLetter ∈ cd_T := cd_T3 (List.mem_of_getElem? (i := 218) (by decide +kernel)) (by decide +kernel)
theorem cd_c_X6_readLetter : Cond.code yX6_readLetter cX6_readLetter 2 (some .boolean) ∈ cd_T := cd_T3 (List.mem_of_getElem? (i := 219) (by decide +kernel)) (by decide +kernel)
theorem cd_m_X6_59 : Cond.methodLink RX6 59 yX6_mostNumbers ∈ cd_T := cd_T3 (List.mem_of_getElem? (i := 220) (by decide +kernel)) (by decide +kernel)
theorem cd_s_X6_mostNumbers : Cond.static yX6_mostNumbers ∈ cd_T := cd_T3 (List.mem_of_getElem? (i := 221) (by decide +kernel)) (by decide +kernel)
theorem cd_c_X6_mostNumbers : Cond.code yX6_mostNumbers cX6_mostNumbers 1 (some .int) ∈ cd_T := cd_T3 (List.mem_of_getElem? (i := 222) (by decide +kernel)) (by decide +kernel)
theorem cd_m_X6_52 : Cond.methodLink RX6 52 yX6_readFigure ∈ cd_T := cd_T3 (List.mem_of_getElem? (i := 223) (by decide +kernel)) (by decide +kernel)
theorem cd_i_X6_readFigure : Cond.instanceMethod yX6_readFigure ∈ cd_T := cd_T3 (List.mem_of_getElem? (i := 225) (by decide +kernel)) (by decide +kernel)
theorem cd_c_X6_readFigure : Cond.code yX6_readFigure cX6_readFigure 3 (some .boolean) ∈ cd_T := cd_T3 (List.mem_of_getElem? (i := 226) (by decide +kernel)) (by decide +kernel)
theorem cd_m_X6_62 : Cond.methodLink RX6 62 yX6_readFirstFigure ∈ cd_T := cd_T3 (List.mem_of_getElem? (i := 227) (by decide +kernel)) (by decide +kernel)
theorem cd_i_X6_readFirstFigure : Cond.instanceMethod yX6_readFirstFigure ∈ cd_T := cd_T3 (List.mem_of_getElem? (i := 229) (by decide +kernel)) (by decide +kernel)
theorem cd_c_X6_readFirstFigure : Cond.code yX6_readFirstFigure cX6_readFirstFigure 2 (some .boolean) ∈ cd_T := cd_T3 (List.mem_of_getElem? (i := 230) (by decide +kernel)) (by decide +kernel)
theorem cd_m_X6_55 : Cond.methodLink RX6 55 yX6_readEnd ∈ cd_T := cd_T3 (List.mem_of_getElem? (i := 231) (by decide +kernel)) (by decide +kernel)
theorem cd_i_X6_readEnd : Cond.instanceMethod yX6_readEnd ∈ cd_T := cd_T3 (List.mem_of_getElem? (i := 233) (by decide +kernel)) (by decide +kernel)
theorem cd_c_X6_readEnd : Cond.code yX6_readEnd cX6_readEnd 1 (some .boolean) ∈ cd_T := cd_T3 (List.mem_of_getElem? (i := 234) (by decide +kernel)) (by decide +kernel)
theorem cd_m_X6_65 : Cond.methodLink RX6 65 yX6_leastNumbers ∈ cd_T := cd_T3 (List.mem_of_getElem? (i := 235) (by decide +kernel)) (by decide +kernel)
theorem cd_s_X6_leastNumbers : Cond.static yX6_leastNumbers ∈ cd_T := cd_T3 (List.mem_of_getElem? (i := 236) (by decide +kernel)) (by decide +kernel)
theorem cd_c_X6_leastNumbers : Cond.code yX6_leastNumbers cX6_leastNumbers 1 (some .int) ∈ cd_T := cd_T3 (List.mem_of_getElem? (i := 237) (by decide +kernel)) (by decide +kernel)
theorem cd_m_X7_142 : Cond.methodLink RX7 142 yX7_carryOut ∈ cd_T := cd_T3 (List.mem_of_getElem? (i := 238) (by decide +kernel)) (by decide +kernel)
theorem cd_i_X7_carryOut : Cond.instanceMethod yX7_carryOut ∈ cd_T := cd_T4 (List.mem_of_getElem? (i := 0) (by decide +kernel)) (by decide +kernel)
theorem cd_c_X7_carryOut : Cond.code yX7_carryOut cX7_carryOut 5 (some .int) ∈ cd_T := cd_T4 (List.mem_of_getElem? (i := 1) (by decide +kernel)) (by decide +kernel)
theorem cd_m_X7_203 : Cond.methodLink RX7 203 yX6_numberAt ∈ cd_T := cd_T4 (List.mem_of_getElem? (i := 2) (by decide +kernel)) (by decide +kernel)
theorem cd_i_X6_numberAt : Cond.instanceMethod yX6_numberAt ∈ cd_T := cd_T4 (List.mem_of_getElem? (i := 3) (by decide +kernel)) (by decide +kernel)
theorem cd_e_X6_X6_numberAt : Cond.selects RX6 yX6_numberAt yX6_numberAt ∈ cd_T := cd_T4 (List.mem_of_getElem? (i := 4) (by decide +kernel)) (by decide +kernel)
theorem cd_c_X6_numberAt : Cond.code yX6_numberAt cX6_numberAt 3 (some .int) ∈ cd_T := cd_T4 (List.mem_of_getElem? (i := 5) (by decide +kernel)) (by decide +kernel)
theorem cd_m_X6_35 : Cond.methodLink RX6 35 yX6_numbersOf ∈ cd_T := cd_T4 (List.mem_of_getElem? (i := 6) (by decide +kernel)) (by decide +kernel)
theorem cd_i_X6_numbersOf : Cond.instanceMethod yX6_numbersOf ∈ cd_T := cd_T4 (List.mem_of_getElem? (i := 7) (by decide +kernel)) (by decide +kernel)
theorem cd_e_X6_X6_numbersOf : Cond.selects RX6 yX6_numbersOf yX6_numbersOf ∈ cd_T := cd_T4 (List.mem_of_getElem? (i := 8) (by decide +kernel)) (by decide +kernel)
theorem cd_c_X6_numbersOf : Cond.code yX6_numbersOf cX6_numbersOf 2 (some .int) ∈ cd_T := cd_T4 (List.mem_of_getElem? (i := 9) (by decide +kernel)) (by decide +kernel)
theorem cd_m_X7_206 : Cond.methodLink RX7 206 yX6_letterAt ∈ cd_T := cd_T4 (List.mem_of_getElem? (i := 10) (by decide +kernel)) (by decide +kernel)
theorem cd_i_X6_letterAt : Cond.instanceMethod yX6_letterAt ∈ cd_T := cd_T4 (List.mem_of_getElem? (i := 11) (by decide +kernel)) (by decide +kernel)
theorem cd_e_X6_X6_letterAt : Cond.selects RX6 yX6_letterAt yX6_letterAt ∈ cd_T := cd_T4 (List.mem_of_getElem? (i := 12) (by decide +kernel)) (by decide +kernel)
theorem cd_c_X6_letterAt : Cond.code yX6_letterAt cX6_letterAt 2 (some .int) ∈ cd_T := cd_T4 (List.mem_of_getElem? (i := 13) (by decide +kernel)) (by decide +kernel)
theorem cd_m_X7_209 : Cond.methodLink RX7 209 yX7_carryOutGroup ∈ cd_T := cd_T4 (List.mem_of_getElem? (i := 14) (by decide +kernel)) (by decide +kernel)
theorem cd_i_X7_carryOutGroup : Cond.instanceMethod yX7_carryOutGroup ∈ cd_T := cd_T4 (List.mem_of_getElem? (i := 16) (by decide +kernel)) (by decide +kernel)
theorem cd_c_X7_carryOutGroup : Cond.code yX7_carryOutGroup cX7_carryOutGroup 5 (some .int) ∈ cd_T := cd_T4 (List.mem_of_getElem? (i := 17) (by decide +kernel)) (by decide +kernel)
theorem cd_m_X7_212 : Cond.methodLink RX7 212 yX6_numbersOf ∈ cd_T := cd_T4 (List.mem_of_getElem? (i := 18) (by decide +kernel)) (by decide +kernel)
theorem cd_m_X7_149 : Cond.methodLink RX7 149 yX1_undo ∈ cd_T := cd_T4 (List.mem_of_getElem? (i := 19) (by decide +kernel)) (by decide +kernel)
theorem cd_i_X1_undo : Cond.instanceMethod yX1_undo ∈ cd_T := cd_T4 (List.mem_of_getElem? (i := 20) (by decide +kernel)) (by decide +kernel)
theorem cd_e_X1_X1_undo : Cond.selects RX1 yX1_undo yX1_undo ∈ cd_T := cd_T4 (List.mem_of_getElem? (i := 21) (by decide +kernel)) (by decide +kernel)
theorem cd_c_X1_undo : Cond.code yX1_undo cX1_undo 2 none ∈ cd_T := cd_T4 (List.mem_of_getElem? (i := 22) (by decide +kernel)) (by decide +kernel)
theorem cd_m_L_114 : Cond.methodLink RL 114 yX7_back ∈ cd_T := cd_T4 (List.mem_of_getElem? (i := 23) (by decide +kernel)) (by decide +kernel)
theorem cd_i_X7_back : Cond.instanceMethod yX7_back ∈ cd_T := cd_T4 (List.mem_of_getElem? (i := 24) (by decide +kernel)) (by decide +kernel)
theorem cd_e_X7_X7_back : Cond.selects RX7 yX7_back yX7_back ∈ cd_T := cd_T4 (List.mem_of_getElem? (i := 25) (by decide +kernel)) (by decide +kernel)
theorem cd_c_X7_back : Cond.code yX7_back cX7_back 1 (some .int) ∈ cd_T := cd_T4 (List.mem_of_getElem? (i := 26) (by decide +kernel)) (by decide +kernel)
theorem cd_m_X7_155 : Cond.methodLink RX7 155 yX1_stepBack ∈ cd_T := cd_T4 (List.mem_of_getElem? (i := 27) (by decide +kernel)) (by decide +kernel)
theorem cd_i_X1_stepBack : Cond.instanceMethod yX1_stepBack ∈ cd_T := cd_T4 (List.mem_of_getElem? (i := 28) (by decide +kernel)) (by decide +kernel)
theorem cd_e_X1_X1_stepBack : Cond.selects RX1 yX1_stepBack yX1_stepBack ∈ cd_T := cd_T4 (List.mem_of_getElem? (i := 29) (by decide +kernel)) (by decide +kernel)
theorem cd_c_X1_stepBack : Cond.code yX1_stepBack cX1_stepBack 2 (some .int) ∈ cd_T := cd_T4 (List.mem_of_getElem? (i := 30) (by decide +kernel)) (by decide +kernel)
theorem cd_m_L_118 : Cond.methodLink RL 118 yX7_refused ∈ cd_T := cd_T4 (List.mem_of_getElem? (i := 31) (by decide +kernel)) (by decide +kernel)
theorem cd_i_X7_refused : Cond.instanceMethod yX7_refused ∈ cd_T := cd_T4 (List.mem_of_getElem? (i := 32) (by decide +kernel)) (by decide +kernel)
theorem cd_e_X7_X7_refused : Cond.selects RX7 yX7_refused yX7_refused ∈ cd_T := cd_T4 (List.mem_of_getElem? (i := 33) (by decide +kernel)) (by decide +kernel)
theorem cd_c_X7_refused : Cond.code yX7_refused cX7_refused 2 (some .int) ∈ cd_T := cd_T4 (List.mem_of_getElem? (i := 34) (by decide +kernel)) (by decide +kernel)
theorem cd_m_X7_159 : Cond.methodLink RX7 159 yX7_refusedFact ∈ cd_T := cd_T4 (List.mem_of_getElem? (i := 35) (by decide +kernel)) (by decide +kernel)
theorem cd_i_X7_refusedFact : Cond.instanceMethod yX7_refusedFact ∈ cd_T := cd_T4 (List.mem_of_getElem? (i := 37) (by decide +kernel)) (by decide +kernel)
theorem cd_c_X7_refusedFact : Cond.code yX7_refusedFact cX7_refusedFact 2 (some .int) ∈ cd_T := cd_T4 (List.mem_of_getElem? (i := 38) (by decide +kernel)) (by decide +kernel)
theorem cd_m_L_122 : Cond.methodLink RL 122 yX7_digest ∈ cd_T := cd_T4 (List.mem_of_getElem? (i := 39) (by decide +kernel)) (by decide +kernel)
theorem cd_i_X7_digest : Cond.instanceMethod yX7_digest ∈ cd_T := cd_T4 (List.mem_of_getElem? (i := 40) (by decide +kernel)) (by decide +kernel)
theorem cd_e_X7_X7_digest : Cond.selects RX7 yX7_digest yX7_digest ∈ cd_T := cd_T4 (List.mem_of_getElem? (i := 41) (by decide +kernel)) (by decide +kernel)
theorem cd_c_X7_digest : Cond.code yX7_digest cX7_digest 5 (some .long) ∈ cd_T := cd_T4 (List.mem_of_getElem? (i := 42) (by decide +kernel)) (by decide +kernel)
theorem cd_l_X7_162 : Cond.constantLong RX7 162 (2707 : Int64) ∈ cd_T := cd_T4 (List.mem_of_getElem? (i := 43) (by decide +kernel)) (by decide +kernel)
theorem cd_m_X7_164 : Cond.methodLink RX7 164 yX7_mixed ∈ cd_T := cd_T4 (List.mem_of_getElem? (i := 44) (by decide +kernel)) (by decide +kernel)
theorem cd_s_X7_mixed : Cond.static yX7_mixed ∈ cd_T := cd_T4 (List.mem_of_getElem? (i := 45) (by decide +kernel)) (by decide +kernel)
theorem cd_c_X7_mixed : Cond.code yX7_mixed cX7_mixed 3 (some .long) ∈ cd_T := cd_T4 (List.mem_of_getElem? (i := 46) (by decide +kernel)) (by decide +kernel)
theorem cd_l_X7_184 : Cond.constantLong RX7 184 (31 : Int64) ∈ cd_T := cd_T4 (List.mem_of_getElem? (i := 47) (by decide +kernel)) (by decide +kernel)
theorem cd_m_X7_174 : Cond.methodLink RX7 174 yX7_mixedTask ∈ cd_T := cd_T4 (List.mem_of_getElem? (i := 48) (by decide +kernel)) (by decide +kernel)
theorem cd_i_X7_mixedTask : Cond.instanceMethod yX7_mixedTask ∈ cd_T := cd_T4 (List.mem_of_getElem? (i := 50) (by decide +kernel)) (by decide +kernel)
theorem cd_c_X7_mixedTask : Cond.code yX7_mixedTask cX7_mixedTask 7 (some .long) ∈ cd_T := cd_T4 (List.mem_of_getElem? (i := 51) (by decide +kernel)) (by decide +kernel)
theorem cd_m_X7_186 : Cond.methodLink RX7 186 yX5_rateOf ∈ cd_T := cd_T4 (List.mem_of_getElem? (i := 52) (by decide +kernel)) (by decide +kernel)
theorem cd_m_X7_178 : Cond.methodLink RX7 178 yX7_mixedGroup ∈ cd_T := cd_T4 (List.mem_of_getElem? (i := 53) (by decide +kernel)) (by decide +kernel)
theorem cd_i_X7_mixedGroup : Cond.instanceMethod yX7_mixedGroup ∈ cd_T := cd_T4 (List.mem_of_getElem? (i := 55) (by decide +kernel)) (by decide +kernel)
theorem cd_c_X7_mixedGroup : Cond.code yX7_mixedGroup cX7_mixedGroup 7 (some .long) ∈ cd_T := cd_T4 (List.mem_of_getElem? (i := 56) (by decide +kernel)) (by decide +kernel)
theorem cd_m_X7_198 : Cond.methodLink RX7 198 yX7_mixedEvent ∈ cd_T := cd_T4 (List.mem_of_getElem? (i := 57) (by decide +kernel)) (by decide +kernel)
theorem cd_i_X7_mixedEvent : Cond.instanceMethod yX7_mixedEvent ∈ cd_T := cd_T4 (List.mem_of_getElem? (i := 59) (by decide +kernel)) (by decide +kernel)
theorem cd_c_X7_mixedEvent : Cond.code yX7_mixedEvent cX7_mixedEvent 8 (some .long) ∈ cd_T := cd_T4 (List.mem_of_getElem? (i := 60) (by decide +kernel)) (by decide +kernel)
theorem cd_k_L_10 : Cond.classLink RL 10 RX8 ∈ cd_T := cd_T4 (List.mem_of_getElem? (i := 61) (by decide +kernel)) (by decide +kernel)
theorem cd_j_X8 : Cond.instantiable RX8 18 ∈ cd_T := cd_T4 (List.mem_of_getElem? (i := 62) (by decide +kernel)) (by decide +kernel)
theorem cd_m_L_12 : Cond.methodLink RL 12 yX8_init ∈ cd_T := cd_T4 (List.mem_of_getElem? (i := 63) (by decide +kernel)) (by decide +kernel)
theorem cd_i_X8_init : Cond.instanceMethod yX8_init ∈ cd_T := cd_T4 (List.mem_of_getElem? (i := 64) (by decide +kernel)) (by decide +kernel)
theorem cd_c_X8_init : Cond.code yX8_init cX8_init 2 none ∈ cd_T := cd_T4 (List.mem_of_getElem? (i := 65) (by decide +kernel)) (by decide +kernel)
theorem cd_m_X8_1 : Cond.methodLink RX8 1 objectInit ∈ cd_T := cd_T4 (List.mem_of_getElem? (i := 66) (by decide +kernel)) (by decide +kernel)
theorem cd_f_X8_7 : Cond.fieldLink RX8 7 (TX8 0).1 (TX8 0).2.1 (TX8 0).2.2.1 ∈ cd_T := cd_T4 (List.mem_of_getElem? (i := 67) (by decide +kernel)) (by decide +kernel)
theorem cd_f_X8_13 : Cond.fieldLink RX8 13 (TX8 1).1 (TX8 1).2.1 (TX8 1).2.2.1 ∈ cd_T := cd_T4 (List.mem_of_getElem? (i := 68) (by decide +kernel)) (by decide +kernel)
theorem cd_f_X8_16 : Cond.fieldLink RX8 16 (TX8 2).1 (TX8 2).2.1 (TX8 2).2.2.1 ∈ cd_T := cd_T4 (List.mem_of_getElem? (i := 69) (by decide +kernel)) (by decide +kernel)
theorem cd_f_X8_43 : Cond.fieldLink RX8 43 (TX8 3).1 (TX8 3).2.1 (TX8 3).2.2.1 ∈ cd_T := cd_T4 (List.mem_of_getElem? (i := 70) (by decide +kernel)) (by decide +kernel)
theorem cd_f_X8_19 : Cond.fieldLink RX8 19 (TX8 4).1 (TX8 4).2.1 (TX8 4).2.2.1 ∈ cd_T := cd_T4 (List.mem_of_getElem? (i := 71) (by decide +kernel)) (by decide +kernel)
theorem cd_f_X8_22 : Cond.fieldLink RX8 22 (TX8 5).1 (TX8 5).2.1 (TX8 5).2.2.1 ∈ cd_T := cd_T4 (List.mem_of_getElem? (i := 72) (by decide +kernel)) (by decide +kernel)
theorem cd_f_X8_206 : Cond.fieldLink RX8 206 (TX8 6).1 (TX8 6).2.1 (TX8 6).2.2.1 ∈ cd_T := cd_T4 (List.mem_of_getElem? (i := 73) (by decide +kernel)) (by decide +kernel)
theorem cd_f_X8_25 : Cond.fieldLink RX8 25 (TX8 7).1 (TX8 7).2.1 (TX8 7).2.2.1 ∈ cd_T := cd_T4 (List.mem_of_getElem? (i := 74) (by decide +kernel)) (by decide +kernel)
theorem cd_f_X8_28 : Cond.fieldLink RX8 28 (TX8 8).1 (TX8 8).2.1 (TX8 8).2.2.1 ∈ cd_T := cd_T4 (List.mem_of_getElem? (i := 75) (by decide +kernel)) (by decide +kernel)
theorem cd_f_X8_132 : Cond.fieldLink RX8 132 (TX8 9).1 (TX8 9).2.1 (TX8 9).2.2.1 ∈ cd_T := cd_T4 (List.mem_of_getElem? (i := 76) (by decide +kernel)) (by decide +kernel)
theorem cd_f_X8_31 : Cond.fieldLink RX8 31 (TX8 10).1 (TX8 10).2.1 (TX8 10).2.2.1 ∈ cd_T := cd_T4 (List.mem_of_getElem? (i := 77) (by decide +kernel)) (by decide +kernel)
theorem cd_f_X8_34 : Cond.fieldLink RX8 34 (TX8 11).1 (TX8 11).2.1 (TX8 11).2.2.1 ∈ cd_T := cd_T4 (List.mem_of_getElem? (i := 78) (by decide +kernel)) (by decide +kernel)
theorem cd_f_X8_37 : Cond.fieldLink RX8 37 (TX8 12).1 (TX8 12).2.1 (TX8 12).2.2.1 ∈ cd_T := cd_T4 (List.mem_of_getElem? (i := 79) (by decide +kernel)) (by decide +kernel)
theorem cd_f_X8_40 : Cond.fieldLink RX8 40 (TX8 13).1 (TX8 13).2.1 (TX8 13).2.2.1 ∈ cd_T := cd_T4 (List.mem_of_getElem? (i := 80) (by decide +kernel)) (by decide +kernel)
theorem cd_f_X8_224 : Cond.fieldLink RX8 224 (TX8 14).1 (TX8 14).2.1 (TX8 14).2.2.1 ∈ cd_T := cd_T4 (List.mem_of_getElem? (i := 81) (by decide +kernel)) (by decide +kernel)
theorem cd_f_X8_209 : Cond.fieldLink RX8 209 (TX8 15).1 (TX8 15).2.1 (TX8 15).2.2.1 ∈ cd_T := cd_T4 (List.mem_of_getElem? (i := 82) (by decide +kernel)) (by decide +kernel)
theorem cd_f_X8_215 : Cond.fieldLink RX8 215 (TX8 16).1 (TX8 16).2.1 (TX8 16).2.2.1 ∈ cd_T := cd_T4 (List.mem_of_getElem? (i := 83) (by decide +kernel)) (by decide +kernel)
theorem cd_f_X8_257 : Cond.fieldLink RX8 257 (TX8 17).1 (TX8 17).2.1 (TX8 17).2.2.1 ∈ cd_T := cd_T4 (List.mem_of_getElem? (i := 84) (by decide +kernel)) (by decide +kernel)
theorem cd_m_L_117 : Cond.methodLink RL 117 yX8_back ∈ cd_T := cd_T4 (List.mem_of_getElem? (i := 122) (by decide +kernel)) (by decide +kernel)
theorem cd_i_X8_back : Cond.instanceMethod yX8_back ∈ cd_T := cd_T4 (List.mem_of_getElem? (i := 123) (by decide +kernel)) (by decide +kernel)
theorem cd_e_X8_X8_back : Cond.selects RX8 yX8_back yX8_back ∈ cd_T := cd_T4 (List.mem_of_getElem? (i := 124) (by decide +kernel)) (by decide +kernel)
theorem cd_c_X8_back : Cond.code yX8_back cX8_back 2 (some .int) ∈ cd_T := cd_T4 (List.mem_of_getElem? (i := 125) (by decide +kernel)) (by decide +kernel)
theorem cd_m_X8_47 : Cond.methodLink RX8 47 yX8_no ∈ cd_T := cd_T4 (List.mem_of_getElem? (i := 126) (by decide +kernel)) (by decide +kernel)
theorem cd_i_X8_no : Cond.instanceMethod yX8_no ∈ cd_T := cd_T4 (List.mem_of_getElem? (i := 128) (by decide +kernel)) (by decide +kernel)
theorem cd_c_X8_no : Cond.code yX8_no cX8_no 1 (some .int) ∈ cd_T := cd_T4 (List.mem_of_getElem? (i := 129) (by decide +kernel)) (by decide +kernel)
theorem cd_m_L_17 : Cond.methodLink RL 17 yX8_counters ∈ cd_T := cd_T4 (List.mem_of_getElem? (i := 130) (by decide +kernel)) (by decide +kernel)
theorem cd_i_X8_counters : Cond.instanceMethod yX8_counters ∈ cd_T := cd_T4 (List.mem_of_getElem? (i := 131) (by decide +kernel)) (by decide +kernel)
theorem cd_e_X8_X8_counters : Cond.selects RX8 yX8_counters yX8_counters ∈ cd_T := cd_T4 (List.mem_of_getElem? (i := 132) (by decide +kernel)) (by decide +kernel)
theorem cd_c_X8_counters : Cond.code yX8_counters cX8_counters 2 (some .int) ∈ cd_T := cd_T4 (List.mem_of_getElem? (i := 133) (by decide +kernel)) (by decide +kernel)
theorem cd_m_X8_51 : Cond.methodLink RX8 51 yX8_in ∈ cd_T := cd_T4 (List.mem_of_getElem? (i := 134) (by decide +kernel)) (by decide +kernel)
theorem cd_s_X8_in : Cond.static yX8_in ∈ cd_T := cd_T4 (List.mem_of_getElem? (i := 135) (by decide +kernel)) (by decide +kernel)
theorem cd_c_X8_in : Cond.code yX8_in cX8_in 3 (some .boolean) ∈ cd_T := cd_T4 (List.mem_of_getElem? (i := 136) (by decide +kernel)) (by decide +kernel)
theorem cd_m_X8_70 : Cond.methodLink RX8 70 yX8_bad ∈ cd_T := cd_T4 (List.mem_of_getElem? (i := 137) (by decide +kernel)) (by decide +kernel)
theorem cd_i_X8_bad : Cond.instanceMethod yX8_bad ∈ cd_T := cd_T4 (List.mem_of_getElem? (i := 139) (by decide +kernel)) (by decide +kernel)
theorem cd_c_X8_bad : Cond.code yX8_bad cX8_bad 1 (some .int) ∈ cd_T := cd_T4 (List.mem_of_getElem? (i := 140) (by decide +kernel)) (by decide +kernel)
theorem cd_m_X8_73 : Cond.methodLink RX8 73 yX8_remembers ∈ cd_T := cd_T4 (List.mem_of_getElem? (i := 141) (by decide +kernel)) (by decide +kernel)
theorem cd_i_X8_remembers : Cond.instanceMethod yX8_remembers ∈ cd_T := cd_T4 (List.mem_of_getElem? (i := 143) (by decide +kernel)) (by decide +kernel)
theorem cd_c_X8_remembers : Cond.code yX8_remembers cX8_remembers 2 none ∈ cd_T := cd_T4 (List.mem_of_getElem? (i := 144) (by decide +kernel)) (by decide +kernel)
theorem cd_m_X8_76 : Cond.methodLink RX8 76 yX8_exchanges ∈ cd_T := cd_T4 (List.mem_of_getElem? (i := 145) (by decide +kernel)) (by decide +kernel)
theorem cd_i_X8_exchanges : Cond.instanceMethod yX8_exchanges ∈ cd_T := cd_T4 (List.mem_of_getElem? (i := 147) (by decide +kernel)) (by decide +kernel)
theorem cd_c_X8_exchanges : Cond.code yX8_exchanges cX8_exchanges 4 (some .int) ∈ cd_T := cd_T4 (List.mem_of_getElem? (i := 148) (by decide +kernel)) (by decide +kernel)
theorem cd_m_L_22 : Cond.methodLink RL 22 yX8_masks ∈ cd_T := cd_T4 (List.mem_of_getElem? (i := 149) (by decide +kernel)) (by decide +kernel)
theorem cd_i_X8_masks : Cond.instanceMethod yX8_masks ∈ cd_T := cd_T4 (List.mem_of_getElem? (i := 150) (by decide +kernel)) (by decide +kernel)
theorem cd_e_X8_X8_masks : Cond.selects RX8 yX8_masks yX8_masks ∈ cd_T := cd_T4 (List.mem_of_getElem? (i := 151) (by decide +kernel)) (by decide +kernel)
theorem cd_c_X8_masks : Cond.code yX8_masks cX8_masks 3 (some .int) ∈ cd_T := cd_T4 (List.mem_of_getElem? (i := 152) (by decide +kernel)) (by decide +kernel)
theorem cd_m_X8_82 : Cond.methodLink RX8 82 yX8_canMask ∈ cd_T := cd_T4 (List.mem_of_getElem? (i := 153) (by decide +kernel)) (by decide +kernel)
theorem cd_s_X8_canMask : Cond.static yX8_canMask ∈ cd_T := cd_T4 (List.mem_of_getElem? (i := 154) (by decide +kernel)) (by decide +kernel)
theorem cd_c_X8_canMask : Cond.code yX8_canMask cX8_canMask 2 (some .boolean) ∈ cd_T := cd_T4 (List.mem_of_getElem? (i := 155) (by decide +kernel)) (by decide +kernel)
theorem cd_m_X8_79 : Cond.methodLink RX8 79 yX8_isKind ∈ cd_T := cd_T4 (List.mem_of_getElem? (i := 156) (by decide +kernel)) (by decide +kernel)
theorem cd_s_X8_isKind : Cond.static yX8_isKind ∈ cd_T := cd_T4 (List.mem_of_getElem? (i := 157) (by decide +kernel)) (by decide +kernel)
theorem cd_c_X8_isKind : Cond.code yX8_isKind cX8_isKind 1 (some .boolean) ∈ cd_T := cd_T4 (List.mem_of_getElem? (i := 158) (by decide +kernel)) (by decide +kernel)
theorem cd_m_L_27 : Cond.methodLink RL 27 yX8_rates ∈ cd_T := cd_T4 (List.mem_of_getElem? (i := 159) (by decide +kernel)) (by decide +kernel)
theorem cd_i_X8_rates : Cond.instanceMethod yX8_rates ∈ cd_T := cd_T4 (List.mem_of_getElem? (i := 160) (by decide +kernel)) (by decide +kernel)
theorem cd_e_X8_X8_rates : Cond.selects RX8 yX8_rates yX8_rates ∈ cd_T := cd_T4 (List.mem_of_getElem? (i := 161) (by decide +kernel)) (by decide +kernel)
theorem cd_c_X8_rates : Cond.code yX8_rates cX8_rates 4 (some .int) ∈ cd_T := cd_T4 (List.mem_of_getElem? (i := 162) (by decide +kernel)) (by decide +kernel)
theorem cd_m_X8_89 : Cond.methodLink RX8 89 yX8_canRate ∈ cd_T := cd_T4 (List.mem_of_getElem? (i := 163) (by decide +kernel)) (by decide +kernel)
theorem cd_i_X8_canRate : Cond.instanceMethod yX8_canRate ∈ cd_T := cd_T4 (List.mem_of_getElem? (i := 165) (by decide +kernel)) (by decide +kernel)
theorem cd_c_X8_canRate : Cond.code yX8_canRate cX8_canRate 4 (some .boolean) ∈ cd_T := cd_T4 (List.mem_of_getElem? (i := 166) (by decide +kernel)) (by decide +kernel)
theorem cd_m_X8_86 : Cond.methodLink RX8 86 yX8_isTask ∈ cd_T := cd_T4 (List.mem_of_getElem? (i := 167) (by decide +kernel)) (by decide +kernel)
theorem cd_i_X8_isTask : Cond.instanceMethod yX8_isTask ∈ cd_T := cd_T4 (List.mem_of_getElem? (i := 169) (by decide +kernel)) (by decide +kernel)
theorem cd_c_X8_isTask : Cond.code yX8_isTask cX8_isTask 2 (some .boolean) ∈ cd_T := cd_T4 (List.mem_of_getElem? (i := 170) (by decide +kernel)) (by decide +kernel)
theorem cd_m_X8_67 : Cond.methodLink RX8 67 yX8_taskAt ∈ cd_T := cd_T4 (List.mem_of_getElem? (i := 171) (by decide +kernel)) (by decide +kernel)
theorem cd_s_X8_taskAt : Cond.static yX8_taskAt ∈ cd_T := cd_T4 (List.mem_of_getElem? (i := 172) (by decide +kernel)) (by decide +kernel)
theorem cd_c_X8_taskAt : Cond.code yX8_taskAt cX8_taskAt 1 (some .int) ∈ cd_T := cd_T4 (List.mem_of_getElem? (i := 173) (by decide +kernel)) (by decide +kernel)
theorem cd_m_L_31 : Cond.methodLink RL 31 yX8_forks ∈ cd_T := cd_T4 (List.mem_of_getElem? (i := 174) (by decide +kernel)) (by decide +kernel)
theorem cd_i_X8_forks : Cond.instanceMethod yX8_forks ∈ cd_T := cd_T4 (List.mem_of_getElem? (i := 175) (by decide +kernel)) (by decide +kernel)
theorem cd_e_X8_X8_forks : Cond.selects RX8 yX8_forks yX8_forks ∈ cd_T := cd_T4 (List.mem_of_getElem? (i := 176) (by decide +kernel)) (by decide +kernel)
theorem cd_c_X8_forks : Cond.code yX8_forks cX8_forks 2 (some .int) ∈ cd_T := cd_T4 (List.mem_of_getElem? (i := 177) (by decide +kernel)) (by decide +kernel)
theorem cd_m_X8_95 : Cond.methodLink RX8 95 yX8_hasEnded ∈ cd_T := cd_T4 (List.mem_of_getElem? (i := 178) (by decide +kernel)) (by decide +kernel)
theorem cd_i_X8_hasEnded : Cond.instanceMethod yX8_hasEnded ∈ cd_T := cd_T4 (List.mem_of_getElem? (i := 180) (by decide +kernel)) (by decide +kernel)
theorem cd_c_X8_hasEnded : Cond.code yX8_hasEnded cX8_hasEnded 2 (some .boolean) ∈ cd_T := cd_T4 (List.mem_of_getElem? (i := 181) (by decide +kernel)) (by decide +kernel)
theorem cd_m_X8_98 : Cond.methodLink RX8 98 yX8_full ∈ cd_T := cd_T4 (List.mem_of_getElem? (i := 182) (by decide +kernel)) (by decide +kernel)
theorem cd_i_X8_full : Cond.instanceMethod yX8_full ∈ cd_T := cd_T4 (List.mem_of_getElem? (i := 184) (by decide +kernel)) (by decide +kernel)
theorem cd_c_X8_full : Cond.code yX8_full cX8_full 1 (some .int) ∈ cd_T := cd_T4 (List.mem_of_getElem? (i := 185) (by decide +kernel)) (by decide +kernel)
theorem cd_m_X8_101 : Cond.methodLink RX8 101 yX8_comesOf ∈ cd_T := cd_T4 (List.mem_of_getElem? (i := 186) (by decide +kernel)) (by decide +kernel)
theorem cd_i_X8_comesOf : Cond.instanceMethod yX8_comesOf ∈ cd_T := cd_T4 (List.mem_of_getElem? (i := 188) (by decide +kernel)) (by decide +kernel)
theorem cd_c_X8_comesOf : Cond.code yX8_comesOf cX8_comesOf 4 (some .int) ∈ cd_T := cd_T4 (List.mem_of_getElem? (i := 189) (by decide +kernel)) (by decide +kernel)
theorem cd_m_X8_92 : Cond.methodLink RX8 92 yX8_rateOf ∈ cd_T := cd_T4 (List.mem_of_getElem? (i := 190) (by decide +kernel)) (by decide +kernel)
theorem cd_i_X8_rateOf : Cond.instanceMethod yX8_rateOf ∈ cd_T := cd_T4 (List.mem_of_getElem? (i := 192) (by decide +kernel)) (by decide +kernel)
theorem cd_c_X8_rateOf : Cond.code yX8_rateOf cX8_rateOf 3 (some .int) ∈ cd_T := cd_T4 (List.mem_of_getElem? (i := 193) (by decide +kernel)) (by decide +kernel)
theorem cd_m_L_35 : Cond.methodLink RL 35 yX8_exits ∈ cd_T := cd_T4 (List.mem_of_getElem? (i := 194) (by decide +kernel)) (by decide +kernel)
theorem cd_i_X8_exits : Cond.instanceMethod yX8_exits ∈ cd_T := cd_T4 (List.mem_of_getElem? (i := 195) (by decide +kernel)) (by decide +kernel)
theorem cd_e_X8_X8_exits : Cond.selects RX8 yX8_exits yX8_exits ∈ cd_T := cd_T4 (List.mem_of_getElem? (i := 196) (by decide +kernel)) (by decide +kernel)
theorem cd_c_X8_exits : Cond.code yX8_exits cX8_exits 6 (some .int) ∈ cd_T := cd_T4 (List.mem_of_getElem? (i := 197) (by decide +kernel)) (by decide +kernel)
theorem cd_m_X8_104 : Cond.methodLink RX8 104 yX8_canEnd ∈ cd_T := cd_T4 (List.mem_of_getElem? (i := 198) (by decide +kernel)) (by decide +kernel)
theorem cd_i_X8_canEnd : Cond.instanceMethod yX8_canEnd ∈ cd_T := cd_T4 (List.mem_of_getElem? (i := 200) (by decide +kernel)) (by decide +kernel)
theorem cd_c_X8_canEnd : Cond.code yX8_canEnd cX8_canEnd 4 (some .boolean) ∈ cd_T := cd_T4 (List.mem_of_getElem? (i := 201) (by decide +kernel)) (by decide +kernel)
theorem cd_m_X8_55 : Cond.methodLink RX8 55 yX8_groupAt ∈ cd_T := cd_T4 (List.mem_of_getElem? (i := 202) (by decide +kernel)) (by decide +kernel)
theorem cd_s_X8_groupAt : Cond.static yX8_groupAt ∈ cd_T := cd_T4 (List.mem_of_getElem? (i := 203) (by decide +kernel)) (by decide +kernel)
theorem cd_c_X8_groupAt : Cond.code yX8_groupAt cX8_groupAt 1 (some .int) ∈ cd_T := cd_T4 (List.mem_of_getElem? (i := 204) (by decide +kernel)) (by decide +kernel)
theorem cd_m_X8_107 : Cond.methodLink RX8 107 yX8_moves ∈ cd_T := cd_T4 (List.mem_of_getElem? (i := 205) (by decide +kernel)) (by decide +kernel)
theorem cd_i_X8_moves : Cond.instanceMethod yX8_moves ∈ cd_T := cd_T4 (List.mem_of_getElem? (i := 207) (by decide +kernel)) (by decide +kernel)
theorem cd_c_X8_moves : Cond.code yX8_moves cX8_moves 3 none ∈ cd_T := cd_T4 (List.mem_of_getElem? (i := 208) (by decide +kernel)) (by decide +kernel)
theorem cd_m_X8_63 : Cond.methodLink RX8 63 yX8_ofGroup ∈ cd_T := cd_T4 (List.mem_of_getElem? (i := 209) (by decide +kernel)) (by decide +kernel)
theorem cd_i_X8_ofGroup : Cond.instanceMethod yX8_ofGroup ∈ cd_T := cd_T4 (List.mem_of_getElem? (i := 211) (by decide +kernel)) (by decide +kernel)
theorem cd_c_X8_ofGroup : Cond.code yX8_ofGroup cX8_ofGroup 3 (some .int) ∈ cd_T := cd_T4 (List.mem_of_getElem? (i := 212) (by decide +kernel)) (by decide +kernel)
theorem cd_m_X8_111 : Cond.methodLink RX8 111 yX8_countAt ∈ cd_T := cd_T4 (List.mem_of_getElem? (i := 213) (by decide +kernel)) (by decide +kernel)
theorem cd_s_X8_countAt : Cond.static yX8_countAt ∈ cd_T := cd_T4 (List.mem_of_getElem? (i := 214) (by decide +kernel)) (by decide +kernel)
theorem cd_c_X8_countAt : Cond.code yX8_countAt cX8_countAt 3 (some .int) ∈ cd_T := cd_T4 (List.mem_of_getElem? (i := 215) (by decide +kernel)) (by decide +kernel)
theorem cd_m_L_40 : Cond.methodLink RL 40 yX8_group ∈ cd_T := cd_T4 (List.mem_of_getElem? (i := 216) (by decide +kernel)) (by decide +kernel)
theorem cd_i_X8_group : Cond.instanceMethod yX8_group ∈ cd_T := cd_T4 (List.mem_of_getElem? (i := 217) (by decide +kernel)) (by decide +kernel)
theorem cd_e_X8_X8_group : Cond.selects RX8 yX8_group yX8_group ∈ cd_T := cd_T4 (List.mem_of_getElem? (i := 218) (by decide +kernel)) (by decide +kernel)
theorem cd_c_X8_group : Cond.code yX8_group cX8_group 6 (some .int) ∈ cd_T := cd_T4 (List.mem_of_getElem? (i := 219) (by decide +kernel)) (by decide +kernel)
theorem cd_m_X8_121 : Cond.methodLink RX8 121 yX8_canGroup ∈ cd_T := cd_T4 (List.mem_of_getElem? (i := 220) (by decide +kernel)) (by decide +kernel)
theorem cd_i_X8_canGroup : Cond.instanceMethod yX8_canGroup ∈ cd_T := cd_T4 (List.mem_of_getElem? (i := 222) (by decide +kernel)) (by decide +kernel)
theorem cd_c_X8_canGroup : Cond.code yX8_canGroup cX8_canGroup 6 (some .boolean) ∈ cd_T := cd_T4 (List.mem_of_getElem? (i := 223) (by decide +kernel)) (by decide +kernel)
theorem cd_m_X8_125 : Cond.methodLink RX8 125 yX8_comesGroup ∈ cd_T := cd_T4 (List.mem_of_getElem? (i := 224) (by decide +kernel)) (by decide +kernel)
theorem cd_i_X8_comesGroup : Cond.instanceMethod yX8_comesGroup ∈ cd_T := cd_T4 (List.mem_of_getElem? (i := 226) (by decide +kernel)) (by decide +kernel)
theorem cd_c_X8_comesGroup : Cond.code yX8_comesGroup cX8_comesGroup 9 (some .int) ∈ cd_T := cd_T4 (List.mem_of_getElem? (i := 227) (by decide +kernel)) (by decide +kernel)
theorem cd_m_X8_118 : Cond.methodLink RX8 118 yX8_addsEvent ∈ cd_T := cd_T4 (List.mem_of_getElem? (i := 228) (by decide +kernel)) (by decide +kernel)
theorem cd_i_X8_addsEvent : Cond.instanceMethod yX8_addsEvent ∈ cd_T := cd_T4 (List.mem_of_getElem? (i := 230) (by decide +kernel)) (by decide +kernel)
theorem cd_c_X8_addsEvent : Cond.code yX8_addsEvent cX8_addsEvent 5 (some .int) ∈ cd_T := cd_T4 (List.mem_of_getElem? (i := 231) (by decide +kernel)) (by decide +kernel)
theorem cd_m_X8_115 : Cond.methodLink RX8 115 yX8_eventAt ∈ cd_T := cd_T4 (List.mem_of_getElem? (i := 232) (by decide +kernel)) (by decide +kernel)
theorem cd_s_X8_eventAt : Cond.static yX8_eventAt ∈ cd_T := cd_T4 (List.mem_of_getElem? (i := 233) (by decide +kernel)) (by decide +kernel)
theorem cd_c_X8_eventAt : Cond.code yX8_eventAt cX8_eventAt 2 (some .int) ∈ cd_T := cd_T4 (List.mem_of_getElem? (i := 234) (by decide +kernel)) (by decide +kernel)
theorem cd_m_L_44 : Cond.methodLink RL 44 yX8_event ∈ cd_T := cd_T4 (List.mem_of_getElem? (i := 235) (by decide +kernel)) (by decide +kernel)
theorem cd_i_X8_event : Cond.instanceMethod yX8_event ∈ cd_T := cd_T4 (List.mem_of_getElem? (i := 236) (by decide +kernel)) (by decide +kernel)
theorem cd_e_X8_X8_event : Cond.selects RX8 yX8_event yX8_event ∈ cd_T := cd_T4 (List.mem_of_getElem? (i := 237) (by decide +kernel)) (by decide +kernel)
theorem cd_c_X8_event : Cond.code yX8_event cX8_event 3 (some .int) ∈ cd_T := cd_T4 (List.mem_of_getElem? (i := 238) (by decide +kernel)) (by decide +kernel)
theorem cd_m_X8_59 : Cond.methodLink RX8 59 yX8_isGroup ∈ cd_T := cd_T4 (List.mem_of_getElem? (i := 239) (by decide +kernel)) (by decide +kernel)
theorem cd_i_X8_isGroup : Cond.instanceMethod yX8_isGroup ∈ cd_T := cd_T5 (List.mem_of_getElem? (i := 1) (by decide +kernel)) (by decide +kernel)
theorem cd_c_X8_isGroup : Cond.code yX8_isGroup cX8_isGroup 2 (some .boolean) ∈ cd_T := cd_T5 (List.mem_of_getElem? (i := 2) (by decide +kernel)) (by decide +kernel)
theorem cd_m_L_48 : Cond.methodLink RL 48 yX8_periods ∈ cd_T := cd_T5 (List.mem_of_getElem? (i := 3) (by decide +kernel)) (by decide +kernel)
theorem cd_i_X8_periods : Cond.instanceMethod yX8_periods ∈ cd_T := cd_T5 (List.mem_of_getElem? (i := 4) (by decide +kernel)) (by decide +kernel)
theorem cd_e_X8_X8_periods : Cond.selects RX8 yX8_periods yX8_periods ∈ cd_T := cd_T5 (List.mem_of_getElem? (i := 5) (by decide +kernel)) (by decide +kernel)
theorem cd_c_X8_periods : Cond.code yX8_periods cX8_periods 3 (some .int) ∈ cd_T := cd_T5 (List.mem_of_getElem? (i := 6) (by decide +kernel)) (by decide +kernel)
theorem cd_m_L_52 : Cond.methodLink RL 52 yX8_skids ∈ cd_T := cd_T5 (List.mem_of_getElem? (i := 7) (by decide +kernel)) (by decide +kernel)
theorem cd_i_X8_skids : Cond.instanceMethod yX8_skids ∈ cd_T := cd_T5 (List.mem_of_getElem? (i := 8) (by decide +kernel)) (by decide +kernel)
theorem cd_e_X8_X8_skids : Cond.selects RX8 yX8_skids yX8_skids ∈ cd_T := cd_T5 (List.mem_of_getElem? (i := 9) (by decide +kernel)) (by decide +kernel)
theorem cd_c_X8_skids : Cond.code yX8_skids cX8_skids 2 (some .int) ∈ cd_T := cd_T5 (List.mem_of_getElem? (i := 10) (by decide +kernel)) (by decide +kernel)
theorem cd_m_L_56 : Cond.methodLink RL 56 yX8_lives ∈ cd_T := cd_T5 (List.mem_of_getElem? (i := 11) (by decide +kernel)) (by decide +kernel)
theorem cd_i_X8_lives : Cond.instanceMethod yX8_lives ∈ cd_T := cd_T5 (List.mem_of_getElem? (i := 12) (by decide +kernel)) (by decide +kernel)
theorem cd_e_X8_X8_lives : Cond.selects RX8 yX8_lives yX8_lives ∈ cd_T := cd_T5 (List.mem_of_getElem? (i := 13) (by decide +kernel)) (by decide +kernel)
theorem cd_c_X8_lives : Cond.code yX8_lives cX8_lives 3 (some .int) ∈ cd_T := cd_T5 (List.mem_of_getElem? (i := 14) (by decide +kernel)) (by decide +kernel)
theorem cd_m_L_60 : Cond.methodLink RL 60 yX8_runs ∈ cd_T := cd_T5 (List.mem_of_getElem? (i := 15) (by decide +kernel)) (by decide +kernel)
theorem cd_i_X8_runs : Cond.instanceMethod yX8_runs ∈ cd_T := cd_T5 (List.mem_of_getElem? (i := 16) (by decide +kernel)) (by decide +kernel)
theorem cd_e_X8_X8_runs : Cond.selects RX8 yX8_runs yX8_runs ∈ cd_T := cd_T5 (List.mem_of_getElem? (i := 17) (by decide +kernel)) (by decide +kernel)
theorem cd_c_X8_runs : Cond.code yX8_runs cX8_runs 3 (some .int) ∈ cd_T := cd_T5 (List.mem_of_getElem? (i := 18) (by decide +kernel)) (by decide +kernel)
theorem cd_m_X8_173 : Cond.methodLink RX8 173 yX8_isRun ∈ cd_T := cd_T5 (List.mem_of_getElem? (i := 19) (by decide +kernel)) (by decide +kernel)
theorem cd_i_X8_isRun : Cond.instanceMethod yX8_isRun ∈ cd_T := cd_T5 (List.mem_of_getElem? (i := 21) (by decide +kernel)) (by decide +kernel)
theorem cd_c_X8_isRun : Cond.code yX8_isRun cX8_isRun 3 (some .boolean) ∈ cd_T := cd_T5 (List.mem_of_getElem? (i := 22) (by decide +kernel)) (by decide +kernel)
theorem cd_m_X8_176 : Cond.methodLink RX8 176 yX8_goes ∈ cd_T := cd_T5 (List.mem_of_getElem? (i := 23) (by decide +kernel)) (by decide +kernel)
theorem cd_i_X8_goes : Cond.instanceMethod yX8_goes ∈ cd_T := cd_T5 (List.mem_of_getElem? (i := 25) (by decide +kernel)) (by decide +kernel)
theorem cd_c_X8_goes : Cond.code yX8_goes cX8_goes 5 (some .int) ∈ cd_T := cd_T5 (List.mem_of_getElem? (i := 26) (by decide +kernel)) (by decide +kernel)
theorem cd_m_X8_154 : Cond.methodLink RX8 154 yX8_watchers ∈ cd_T := cd_T5 (List.mem_of_getElem? (i := 27) (by decide +kernel)) (by decide +kernel)
theorem cd_i_X8_watchers : Cond.instanceMethod yX8_watchers ∈ cd_T := cd_T5 (List.mem_of_getElem? (i := 29) (by decide +kernel)) (by decide +kernel)
theorem cd_c_X8_watchers : Cond.code yX8_watchers cX8_watchers 4 (some .int) ∈ cd_T := cd_T5 (List.mem_of_getElem? (i := 30) (by decide +kernel)) (by decide +kernel)
theorem cd_m_X8_129 : Cond.methodLink RX8 129 yX8_isOf ∈ cd_T := cd_T5 (List.mem_of_getElem? (i := 31) (by decide +kernel)) (by decide +kernel)
theorem cd_i_X8_isOf : Cond.instanceMethod yX8_isOf ∈ cd_T := cd_T5 (List.mem_of_getElem? (i := 33) (by decide +kernel)) (by decide +kernel)
theorem cd_c_X8_isOf : Cond.code yX8_isOf cX8_isOf 6 (some .boolean) ∈ cd_T := cd_T5 (List.mem_of_getElem? (i := 34) (by decide +kernel)) (by decide +kernel)
theorem cd_m_X8_157 : Cond.methodLink RX8 157 yX8_joins ∈ cd_T := cd_T5 (List.mem_of_getElem? (i := 35) (by decide +kernel)) (by decide +kernel)
theorem cd_i_X8_joins : Cond.instanceMethod yX8_joins ∈ cd_T := cd_T5 (List.mem_of_getElem? (i := 37) (by decide +kernel)) (by decide +kernel)
theorem cd_c_X8_joins : Cond.code yX8_joins cX8_joins 4 none ∈ cd_T := cd_T5 (List.mem_of_getElem? (i := 38) (by decide +kernel)) (by decide +kernel)
theorem cd_m_X8_145 : Cond.methodLink RX8 145 yX8_clears ∈ cd_T := cd_T5 (List.mem_of_getElem? (i := 39) (by decide +kernel)) (by decide +kernel)
theorem cd_i_X8_clears : Cond.instanceMethod yX8_clears ∈ cd_T := cd_T5 (List.mem_of_getElem? (i := 41) (by decide +kernel)) (by decide +kernel)
theorem cd_c_X8_clears : Cond.code yX8_clears cX8_clears 3 none ∈ cd_T := cd_T5 (List.mem_of_getElem? (i := 42) (by decide +kernel)) (by decide +kernel)
theorem cd_m_X8_135 : Cond.methodLink RX8 135 yX8_has ∈ cd_T := cd_T5 (List.mem_of_getElem? (i := 43) (by decide +kernel)) (by decide +kernel)
theorem cd_s_X8_has : Cond.static yX8_has ∈ cd_T := cd_T5 (List.mem_of_getElem? (i := 44) (by decide +kernel)) (by decide +kernel)
theorem cd_c_X8_has : Cond.code yX8_has cX8_has 2 (some .boolean) ∈ cd_T := cd_T5 (List.mem_of_getElem? (i := 45) (by decide +kernel)) (by decide +kernel)
theorem cd_m_X8_148 : Cond.methodLink RX8 148 yX8_isJoined ∈ cd_T := cd_T5 (List.mem_of_getElem? (i := 46) (by decide +kernel)) (by decide +kernel)
theorem cd_i_X8_isJoined : Cond.instanceMethod yX8_isJoined ∈ cd_T := cd_T5 (List.mem_of_getElem? (i := 48) (by decide +kernel)) (by decide +kernel)
theorem cd_c_X8_isJoined : Cond.code yX8_isJoined cX8_isJoined 4 (some .boolean) ∈ cd_T := cd_T5 (List.mem_of_getElem? (i := 49) (by decide +kernel)) (by decide +kernel)
theorem cd_m_X8_141 : Cond.methodLink RX8 141 yX8_canSit ∈ cd_T := cd_T5 (List.mem_of_getElem? (i := 50) (by decide +kernel)) (by decide +kernel)
theorem cd_i_X8_canSit : Cond.instanceMethod yX8_canSit ∈ cd_T := cd_T5 (List.mem_of_getElem? (i := 52) (by decide +kernel)) (by decide +kernel)
theorem cd_c_X8_canSit : Cond.code yX8_canSit cX8_canSit 3 (some .boolean) ∈ cd_T := cd_T5 (List.mem_of_getElem? (i := 53) (by decide +kernel)) (by decide +kernel)
theorem cd_m_X8_138 : Cond.methodLink RX8 138 yX8_isRow ∈ cd_T := cd_T5 (List.mem_of_getElem? (i := 54) (by decide +kernel)) (by decide +kernel)
theorem cd_i_X8_isRow : Cond.instanceMethod yX8_isRow ∈ cd_T := cd_T5 (List.mem_of_getElem? (i := 56) (by decide +kernel)) (by decide +kernel)
theorem cd_c_X8_isRow : Cond.code yX8_isRow cX8_isRow 7 (some .boolean) ∈ cd_T := cd_T5 (List.mem_of_getElem? (i := 57) (by decide +kernel)) (by decide +kernel)
theorem cd_m_X8_161 : Cond.methodLink RX8 161 yX8_counts ∈ cd_T := cd_T5 (List.mem_of_getElem? (i := 58) (by decide +kernel)) (by decide +kernel)
theorem cd_i_X8_counts : Cond.instanceMethod yX8_counts ∈ cd_T := cd_T5 (List.mem_of_getElem? (i := 60) (by decide +kernel)) (by decide +kernel)
theorem cd_c_X8_counts : Cond.code yX8_counts cX8_counts 8 none ∈ cd_T := cd_T5 (List.mem_of_getElem? (i := 61) (by decide +kernel)) (by decide +kernel)
theorem cd_m_X8_164 : Cond.methodLink RX8 164 yX8_samplesCome ∈ cd_T := cd_T5 (List.mem_of_getElem? (i := 62) (by decide +kernel)) (by decide +kernel)
theorem cd_i_X8_samplesCome : Cond.instanceMethod yX8_samplesCome ∈ cd_T := cd_T5 (List.mem_of_getElem? (i := 64) (by decide +kernel)) (by decide +kernel)
theorem cd_c_X8_samplesCome : Cond.code yX8_samplesCome cX8_samplesCome 5 none ∈ cd_T := cd_T5 (List.mem_of_getElem? (i := 65) (by decide +kernel)) (by decide +kernel)
theorem cd_m_X8_167 : Cond.methodLink RX8 167 yX8_tellsDue ∈ cd_T := cd_T5 (List.mem_of_getElem? (i := 66) (by decide +kernel)) (by decide +kernel)
theorem cd_i_X8_tellsDue : Cond.instanceMethod yX8_tellsDue ∈ cd_T := cd_T5 (List.mem_of_getElem? (i := 68) (by decide +kernel)) (by decide +kernel)
theorem cd_c_X8_tellsDue : Cond.code yX8_tellsDue cX8_tellsDue 6 none ∈ cd_T := cd_T5 (List.mem_of_getElem? (i := 69) (by decide +kernel)) (by decide +kernel)
theorem cd_m_X8_151 : Cond.methodLink RX8 151 yX8_tellsOne ∈ cd_T := cd_T5 (List.mem_of_getElem? (i := 70) (by decide +kernel)) (by decide +kernel)
theorem cd_i_X8_tellsOne : Cond.instanceMethod yX8_tellsOne ∈ cd_T := cd_T5 (List.mem_of_getElem? (i := 72) (by decide +kernel)) (by decide +kernel)
theorem cd_c_X8_tellsOne : Cond.code yX8_tellsOne cX8_tellsOne 4 none ∈ cd_T := cd_T5 (List.mem_of_getElem? (i := 73) (by decide +kernel)) (by decide +kernel)
theorem cd_m_X8_170 : Cond.methodLink RX8 170 yX8_turns ∈ cd_T := cd_T5 (List.mem_of_getElem? (i := 74) (by decide +kernel)) (by decide +kernel)
theorem cd_i_X8_turns : Cond.instanceMethod yX8_turns ∈ cd_T := cd_T5 (List.mem_of_getElem? (i := 76) (by decide +kernel)) (by decide +kernel)
theorem cd_c_X8_turns : Cond.code yX8_turns cX8_turns 6 none ∈ cd_T := cd_T5 (List.mem_of_getElem? (i := 77) (by decide +kernel)) (by decide +kernel)
theorem cd_m_L_64 : Cond.methodLink RL 64 yX8_task ∈ cd_T := cd_T5 (List.mem_of_getElem? (i := 78) (by decide +kernel)) (by decide +kernel)
theorem cd_i_X8_task : Cond.instanceMethod yX8_task ∈ cd_T := cd_T5 (List.mem_of_getElem? (i := 79) (by decide +kernel)) (by decide +kernel)
theorem cd_e_X8_X8_task : Cond.selects RX8 yX8_task yX8_task ∈ cd_T := cd_T5 (List.mem_of_getElem? (i := 80) (by decide +kernel)) (by decide +kernel)
theorem cd_c_X8_task : Cond.code yX8_task cX8_task 3 (some .int) ∈ cd_T := cd_T5 (List.mem_of_getElem? (i := 81) (by decide +kernel)) (by decide +kernel)
theorem cd_m_X8_179 : Cond.methodLink RX8 179 yX8_aboutTask ∈ cd_T := cd_T5 (List.mem_of_getElem? (i := 82) (by decide +kernel)) (by decide +kernel)
theorem cd_i_X8_aboutTask : Cond.instanceMethod yX8_aboutTask ∈ cd_T := cd_T5 (List.mem_of_getElem? (i := 84) (by decide +kernel)) (by decide +kernel)
theorem cd_c_X8_aboutTask : Cond.code yX8_aboutTask cX8_aboutTask 3 (some .int) ∈ cd_T := cd_T5 (List.mem_of_getElem? (i := 85) (by decide +kernel)) (by decide +kernel)
theorem cd_m_L_68 : Cond.methodLink RL 68 yX8_of ∈ cd_T := cd_T5 (List.mem_of_getElem? (i := 86) (by decide +kernel)) (by decide +kernel)
theorem cd_i_X8_of : Cond.instanceMethod yX8_of ∈ cd_T := cd_T5 (List.mem_of_getElem? (i := 87) (by decide +kernel)) (by decide +kernel)
theorem cd_e_X8_X8_of : Cond.selects RX8 yX8_of yX8_of ∈ cd_T := cd_T5 (List.mem_of_getElem? (i := 88) (by decide +kernel)) (by decide +kernel)
theorem cd_c_X8_of : Cond.code yX8_of cX8_of 3 (some .int) ∈ cd_T := cd_T5 (List.mem_of_getElem? (i := 89) (by decide +kernel)) (by decide +kernel)
theorem cd_m_X8_185 : Cond.methodLink RX8 185 yX8_aboutGroup ∈ cd_T := cd_T5 (List.mem_of_getElem? (i := 90) (by decide +kernel)) (by decide +kernel)
theorem cd_i_X8_aboutGroup : Cond.instanceMethod yX8_aboutGroup ∈ cd_T := cd_T5 (List.mem_of_getElem? (i := 92) (by decide +kernel)) (by decide +kernel)
theorem cd_c_X8_aboutGroup : Cond.code yX8_aboutGroup cX8_aboutGroup 3 (some .int) ∈ cd_T := cd_T5 (List.mem_of_getElem? (i := 93) (by decide +kernel)) (by decide +kernel)
theorem cd_m_X8_182 : Cond.methodLink RX8 182 yX8_placeOf ∈ cd_T := cd_T5 (List.mem_of_getElem? (i := 94) (by decide +kernel)) (by decide +kernel)
theorem cd_i_X8_placeOf : Cond.instanceMethod yX8_placeOf ∈ cd_T := cd_T5 (List.mem_of_getElem? (i := 96) (by decide +kernel)) (by decide +kernel)
theorem cd_c_X8_placeOf : Cond.code yX8_placeOf cX8_placeOf 4 (some .int) ∈ cd_T := cd_T5 (List.mem_of_getElem? (i := 97) (by decide +kernel)) (by decide +kernel)
theorem cd_m_L_72 : Cond.methodLink RL 72 yX8_about ∈ cd_T := cd_T5 (List.mem_of_getElem? (i := 98) (by decide +kernel)) (by decide +kernel)
theorem cd_i_X8_about : Cond.instanceMethod yX8_about ∈ cd_T := cd_T5 (List.mem_of_getElem? (i := 99) (by decide +kernel)) (by decide +kernel)
theorem cd_e_X8_X8_about : Cond.selects RX8 yX8_about yX8_about ∈ cd_T := cd_T5 (List.mem_of_getElem? (i := 100) (by decide +kernel)) (by decide +kernel)
theorem cd_c_X8_about : Cond.code yX8_about cX8_about 4 (some .int) ∈ cd_T := cd_T5 (List.mem_of_getElem? (i := 101) (by decide +kernel)) (by decide +kernel)
theorem cd_m_X8_188 : Cond.methodLink RX8 188 yX8_isEvent ∈ cd_T := cd_T5 (List.mem_of_getElem? (i := 102) (by decide +kernel)) (by decide +kernel)
theorem cd_i_X8_isEvent : Cond.instanceMethod yX8_isEvent ∈ cd_T := cd_T5 (List.mem_of_getElem? (i := 104) (by decide +kernel)) (by decide +kernel)
theorem cd_c_X8_isEvent : Cond.code yX8_isEvent cX8_isEvent 3 (some .boolean) ∈ cd_T := cd_T5 (List.mem_of_getElem? (i := 105) (by decide +kernel)) (by decide +kernel)
theorem cd_m_L_76 : Cond.methodLink RL 76 yX8_count ∈ cd_T := cd_T5 (List.mem_of_getElem? (i := 106) (by decide +kernel)) (by decide +kernel)
theorem cd_i_X8_count : Cond.instanceMethod yX8_count ∈ cd_T := cd_T5 (List.mem_of_getElem? (i := 107) (by decide +kernel)) (by decide +kernel)
theorem cd_e_X8_X8_count : Cond.selects RX8 yX8_count yX8_count ∈ cd_T := cd_T5 (List.mem_of_getElem? (i := 108) (by decide +kernel)) (by decide +kernel)
theorem cd_c_X8_count : Cond.code yX8_count cX8_count 4 (some .int) ∈ cd_T := cd_T5 (List.mem_of_getElem? (i := 109) (by decide +kernel)) (by decide +kernel)
theorem cd_m_X8_191 : Cond.methodLink RX8 191 yX8_sumAt ∈ cd_T := cd_T5 (List.mem_of_getElem? (i := 110) (by decide +kernel)) (by decide +kernel)
theorem cd_i_X8_sumAt : Cond.instanceMethod yX8_sumAt ∈ cd_T := cd_T5 (List.mem_of_getElem? (i := 112) (by decide +kernel)) (by decide +kernel)
theorem cd_c_X8_sumAt : Cond.code yX8_sumAt cX8_sumAt 5 (some .int) ∈ cd_T := cd_T5 (List.mem_of_getElem? (i := 113) (by decide +kernel)) (by decide +kernel)
theorem cd_m_L_80 : Cond.methodLink RL 80 yX8_times ∈ cd_T := cd_T5 (List.mem_of_getElem? (i := 114) (by decide +kernel)) (by decide +kernel)
theorem cd_i_X8_times : Cond.instanceMethod yX8_times ∈ cd_T := cd_T5 (List.mem_of_getElem? (i := 115) (by decide +kernel)) (by decide +kernel)
theorem cd_e_X8_X8_times : Cond.selects RX8 yX8_times yX8_times ∈ cd_T := cd_T5 (List.mem_of_getElem? (i := 116) (by decide +kernel)) (by decide +kernel)
theorem cd_c_X8_times : Cond.code yX8_times cX8_times 5 (some .int) ∈ cd_T := cd_T5 (List.mem_of_getElem? (i := 117) (by decide +kernel)) (by decide +kernel)
theorem cd_m_L_84 : Cond.methodLink RL 84 yX8_scaled ∈ cd_T := cd_T5 (List.mem_of_getElem? (i := 118) (by decide +kernel)) (by decide +kernel)
theorem cd_i_X8_scaled : Cond.instanceMethod yX8_scaled ∈ cd_T := cd_T5 (List.mem_of_getElem? (i := 119) (by decide +kernel)) (by decide +kernel)
theorem cd_e_X8_X8_scaled : Cond.selects RX8 yX8_scaled yX8_scaled ∈ cd_T := cd_T5 (List.mem_of_getElem? (i := 120) (by decide +kernel)) (by decide +kernel)
theorem cd_c_X8_scaled : Cond.code yX8_scaled cX8_scaled 4 (some .int) ∈ cd_T := cd_T5 (List.mem_of_getElem? (i := 121) (by decide +kernel)) (by decide +kernel)
theorem cd_m_X8_194 : Cond.methodLink RX8 194 yX8_scaledOf ∈ cd_T := cd_T5 (List.mem_of_getElem? (i := 122) (by decide +kernel)) (by decide +kernel)
theorem cd_i_X8_scaledOf : Cond.instanceMethod yX8_scaledOf ∈ cd_T := cd_T5 (List.mem_of_getElem? (i := 124) (by decide +kernel)) (by decide +kernel)
theorem cd_c_X8_scaledOf : Cond.code yX8_scaledOf cX8_scaledOf 7 (some .int) ∈ cd_T := cd_T5 (List.mem_of_getElem? (i := 125) (by decide +kernel)) (by decide +kernel)
theorem cd_m_L_88 : Cond.methodLink RL 88 yX8_fit ∈ cd_T := cd_T5 (List.mem_of_getElem? (i := 126) (by decide +kernel)) (by decide +kernel)
theorem cd_i_X8_fit : Cond.instanceMethod yX8_fit ∈ cd_T := cd_T5 (List.mem_of_getElem? (i := 127) (by decide +kernel)) (by decide +kernel)
theorem cd_e_X8_X8_fit : Cond.selects RX8 yX8_fit yX8_fit ∈ cd_T := cd_T5 (List.mem_of_getElem? (i := 128) (by decide +kernel)) (by decide +kernel)
theorem cd_c_X8_fit : Cond.code yX8_fit cX8_fit 2 (some .int) ∈ cd_T := cd_T5 (List.mem_of_getElem? (i := 129) (by decide +kernel)) (by decide +kernel)
theorem cd_m_X8_197 : Cond.methodLink RX8 197 yX8_fitOf ∈ cd_T := cd_T5 (List.mem_of_getElem? (i := 130) (by decide +kernel)) (by decide +kernel)
theorem cd_i_X8_fitOf : Cond.instanceMethod yX8_fitOf ∈ cd_T := cd_T5 (List.mem_of_getElem? (i := 132) (by decide +kernel)) (by decide +kernel)
theorem cd_c_X8_fitOf : Cond.code yX8_fitOf cX8_fitOf 3 (some .int) ∈ cd_T := cd_T5 (List.mem_of_getElem? (i := 133) (by decide +kernel)) (by decide +kernel)
theorem cd_m_L_92 : Cond.methodLink RL 92 yX8_queue ∈ cd_T := cd_T5 (List.mem_of_getElem? (i := 134) (by decide +kernel)) (by decide +kernel)
theorem cd_i_X8_queue : Cond.instanceMethod yX8_queue ∈ cd_T := cd_T5 (List.mem_of_getElem? (i := 135) (by decide +kernel)) (by decide +kernel)
theorem cd_e_X8_X8_queue : Cond.selects RX8 yX8_queue yX8_queue ∈ cd_T := cd_T5 (List.mem_of_getElem? (i := 136) (by decide +kernel)) (by decide +kernel)
theorem cd_c_X8_queue : Cond.code yX8_queue cX8_queue 2 (some .int) ∈ cd_T := cd_T5 (List.mem_of_getElem? (i := 137) (by decide +kernel)) (by decide +kernel)
theorem cd_m_L_96 : Cond.methodLink RL 96 yX8_sample ∈ cd_T := cd_T5 (List.mem_of_getElem? (i := 138) (by decide +kernel)) (by decide +kernel)
theorem cd_i_X8_sample : Cond.instanceMethod yX8_sample ∈ cd_T := cd_T5 (List.mem_of_getElem? (i := 139) (by decide +kernel)) (by decide +kernel)
theorem cd_e_X8_X8_sample : Cond.selects RX8 yX8_sample yX8_sample ∈ cd_T := cd_T5 (List.mem_of_getElem? (i := 140) (by decide +kernel)) (by decide +kernel)
theorem cd_c_X8_sample : Cond.code yX8_sample cX8_sample 3 (some .int) ∈ cd_T := cd_T5 (List.mem_of_getElem? (i := 141) (by decide +kernel)) (by decide +kernel)
theorem cd_m_L_100 : Cond.methodLink RL 100 yX8_told ∈ cd_T := cd_T5 (List.mem_of_getElem? (i := 142) (by decide +kernel)) (by decide +kernel)
theorem cd_i_X8_told : Cond.instanceMethod yX8_told ∈ cd_T := cd_T5 (List.mem_of_getElem? (i := 143) (by decide +kernel)) (by decide +kernel)
theorem cd_e_X8_X8_told : Cond.selects RX8 yX8_told yX8_told ∈ cd_T := cd_T5 (List.mem_of_getElem? (i := 144) (by decide +kernel)) (by decide +kernel)
theorem cd_c_X8_told : Cond.code yX8_told cX8_told 2 (some .int) ∈ cd_T := cd_T5 (List.mem_of_getElem? (i := 145) (by decide +kernel)) (by decide +kernel)
theorem cd_m_X8_203 : Cond.methodLink RX8 203 yX8_toldOf ∈ cd_T := cd_T5 (List.mem_of_getElem? (i := 146) (by decide +kernel)) (by decide +kernel)
theorem cd_i_X8_toldOf : Cond.instanceMethod yX8_toldOf ∈ cd_T := cd_T5 (List.mem_of_getElem? (i := 148) (by decide +kernel)) (by decide +kernel)
theorem cd_c_X8_toldOf : Cond.code yX8_toldOf cX8_toldOf 2 (some .int) ∈ cd_T := cd_T5 (List.mem_of_getElem? (i := 149) (by decide +kernel)) (by decide +kernel)
theorem cd_m_X8_200 : Cond.methodLink RX8 200 yX8_onNow ∈ cd_T := cd_T5 (List.mem_of_getElem? (i := 150) (by decide +kernel)) (by decide +kernel)
theorem cd_i_X8_onNow : Cond.instanceMethod yX8_onNow ∈ cd_T := cd_T5 (List.mem_of_getElem? (i := 152) (by decide +kernel)) (by decide +kernel)
theorem cd_c_X8_onNow : Cond.code yX8_onNow cX8_onNow 3 (some .int) ∈ cd_T := cd_T5 (List.mem_of_getElem? (i := 153) (by decide +kernel)) (by decide +kernel)
theorem cd_m_L_104 : Cond.methodLink RL 104 yX8_type ∈ cd_T := cd_T5 (List.mem_of_getElem? (i := 154) (by decide +kernel)) (by decide +kernel)
theorem cd_i_X8_type : Cond.instanceMethod yX8_type ∈ cd_T := cd_T5 (List.mem_of_getElem? (i := 155) (by decide +kernel)) (by decide +kernel)
theorem cd_e_X8_X8_type : Cond.selects RX8 yX8_type yX8_type ∈ cd_T := cd_T5 (List.mem_of_getElem? (i := 156) (by decide +kernel)) (by decide +kernel)
theorem cd_c_X8_type : Cond.code yX8_type cX8_type 2 (some .int) ∈ cd_T := cd_T5 (List.mem_of_getElem? (i := 157) (by decide +kernel)) (by decide +kernel)
theorem cd_m_L_109 : Cond.methodLink RL 109 yX8_clear ∈ cd_T := cd_T5 (List.mem_of_getElem? (i := 158) (by decide +kernel)) (by decide +kernel)
theorem cd_i_X8_clear : Cond.instanceMethod yX8_clear ∈ cd_T := cd_T5 (List.mem_of_getElem? (i := 159) (by decide +kernel)) (by decide +kernel)
theorem cd_e_X8_X8_clear : Cond.selects RX8 yX8_clear yX8_clear ∈ cd_T := cd_T5 (List.mem_of_getElem? (i := 160) (by decide +kernel)) (by decide +kernel)
theorem cd_c_X8_clear : Cond.code yX8_clear cX8_clear 2 (some .int) ∈ cd_T := cd_T5 (List.mem_of_getElem? (i := 161) (by decide +kernel)) (by decide +kernel)
theorem cd_m_L_113 : Cond.methodLink RL 113 yX8_does ∈ cd_T := cd_T5 (List.mem_of_getElem? (i := 162) (by decide +kernel)) (by decide +kernel)
theorem cd_i_X8_does : Cond.instanceMethod yX8_does ∈ cd_T := cd_T5 (List.mem_of_getElem? (i := 163) (by decide +kernel)) (by decide +kernel)
theorem cd_e_X8_X8_does : Cond.selects RX8 yX8_does yX8_does ∈ cd_T := cd_T5 (List.mem_of_getElem? (i := 164) (by decide +kernel)) (by decide +kernel)
theorem cd_c_X8_does : Cond.code yX8_does cX8_does 2 (some .int) ∈ cd_T := cd_T5 (List.mem_of_getElem? (i := 165) (by decide +kernel)) (by decide +kernel)
theorem cd_m_X8_243 : Cond.methodLink RX8 243 yX8_isRead ∈ cd_T := cd_T5 (List.mem_of_getElem? (i := 166) (by decide +kernel)) (by decide +kernel)
theorem cd_i_X8_isRead : Cond.instanceMethod yX8_isRead ∈ cd_T := cd_T5 (List.mem_of_getElem? (i := 168) (by decide +kernel)) (by decide +kernel)
theorem cd_c_X8_isRead : Cond.code yX8_isRead cX8_isRead 1 (some .boolean) ∈ cd_T := cd_T5 (List.mem_of_getElem? (i := 169) (by decide +kernel)) (by decide +kernel)
theorem cd_m_X8_227 : Cond.methodLink RX8 227 yX8_blanks ∈ cd_T := cd_T5 (List.mem_of_getElem? (i := 170) (by decide +kernel)) (by decide +kernel)
theorem cd_i_X8_blanks : Cond.instanceMethod yX8_blanks ∈ cd_T := cd_T5 (List.mem_of_getElem? (i := 172) (by decide +kernel)) (by decide +kernel)
theorem cd_c_X8_blanks : Cond.code yX8_blanks cX8_blanks 1 none ∈ cd_T := cd_T5 (List.mem_of_getElem? (i := 173) (by decide +kernel)) (by decide +kernel)
theorem cd_m_X8_212 : Cond.methodLink RX8 212 yX8_isAt ∈ cd_T := cd_T5 (List.mem_of_getElem? (i := 174) (by decide +kernel)) (by decide +kernel)
theorem cd_i_X8_isAt : Cond.instanceMethod yX8_isAt ∈ cd_T := cd_T5 (List.mem_of_getElem? (i := 176) (by decide +kernel)) (by decide +kernel)
theorem cd_c_X8_isAt : Cond.code yX8_isAt cX8_isAt 3 (some .boolean) ∈ cd_T := cd_T5 (List.mem_of_getElem? (i := 177) (by decide +kernel)) (by decide +kernel)
theorem cd_m_X8_233 : Cond.methodLink RX8 233 yX8_takesOrder ∈ cd_T := cd_T5 (List.mem_of_getElem? (i := 178) (by decide +kernel)) (by decide +kernel)
theorem cd_i_X8_takesOrder : Cond.instanceMethod yX8_takesOrder ∈ cd_T := cd_T5 (List.mem_of_getElem? (i := 180) (by decide +kernel)) (by decide +kernel)
theorem cd_c_X8_takesOrder : Cond.code yX8_takesOrder cX8_takesOrder 5 (some .boolean) ∈ cd_T := cd_T5 (List.mem_of_getElem? (i := 181) (by decide +kernel)) (by decide +kernel)
theorem cd_m_X8_221 : Cond.methodLink RX8 221 yX8_leastOf ∈ cd_T := cd_T5 (List.mem_of_getElem? (i := 182) (by decide +kernel)) (by decide +kernel)
theorem cd_s_X8_leastOf : Cond.static yX8_leastOf ∈ cd_T := cd_T5 (List.mem_of_getElem? (i := 183) (by decide +kernel)) (by decide +kernel)
theorem cd_c_X8_leastOf : Cond.code yX8_leastOf cX8_leastOf 1 (some .int) ∈ cd_T := cd_T5 (List.mem_of_getElem? (i := 184) (by decide +kernel)) (by decide +kernel)
theorem cd_m_X8_218 : Cond.methodLink RX8 218 yX8_fails ∈ cd_T := cd_T5 (List.mem_of_getElem? (i := 185) (by decide +kernel)) (by decide +kernel)
theorem cd_i_X8_fails : Cond.instanceMethod yX8_fails ∈ cd_T := cd_T5 (List.mem_of_getElem? (i := 187) (by decide +kernel)) (by decide +kernel)
theorem cd_c_X8_fails : Cond.code yX8_fails cX8_fails 2 (some .boolean) ∈ cd_T := cd_T5 (List.mem_of_getElem? (i := 188) (by decide +kernel)) (by decide +kernel)
theorem cd_m_X8_230 : Cond.methodLink RX8 230 yX8_takesNumber ∈ cd_T := cd_T5 (List.mem_of_getElem? (i := 189) (by decide +kernel)) (by decide +kernel)
theorem cd_i_X8_takesNumber : Cond.instanceMethod yX8_takesNumber ∈ cd_T := cd_T5 (List.mem_of_getElem? (i := 191) (by decide +kernel)) (by decide +kernel)
theorem cd_c_X8_takesNumber : Cond.code yX8_takesNumber cX8_takesNumber 4 (some .boolean) ∈ cd_T := cd_T5 (List.mem_of_getElem? (i := 192) (by decide +kernel)) (by decide +kernel)
theorem cd_m_X8_246 : Cond.methodLink RX8 246 yX8_obeys ∈ cd_T := cd_T5 (List.mem_of_getElem? (i := 193) (by decide +kernel)) (by decide +kernel)
theorem cd_i_X8_obeys : Cond.instanceMethod yX8_obeys ∈ cd_T := cd_T5 (List.mem_of_getElem? (i := 195) (by decide +kernel)) (by decide +kernel)
theorem cd_c_X8_obeys : Cond.code yX8_obeys cX8_obeys 6 (some .boolean) ∈ cd_T := cd_T5 (List.mem_of_getElem? (i := 196) (by decide +kernel)) (by decide +kernel)
theorem cd_m_X8_236 : Cond.methodLink RX8 236 yX8_puts ∈ cd_T := cd_T5 (List.mem_of_getElem? (i := 197) (by decide +kernel)) (by decide +kernel)
theorem cd_i_X8_puts : Cond.instanceMethod yX8_puts ∈ cd_T := cd_T5 (List.mem_of_getElem? (i := 199) (by decide +kernel)) (by decide +kernel)
theorem cd_c_X8_puts : Cond.code yX8_puts cX8_puts 4 (some .boolean) ∈ cd_T := cd_T5 (List.mem_of_getElem? (i := 200) (by decide +kernel)) (by decide +kernel)
theorem cd_m_X8_240 : Cond.methodLink RX8 240 yX8_groupTold ∈ cd_T := cd_T5 (List.mem_of_getElem? (i := 201) (by decide +kernel)) (by decide +kernel)
theorem cd_i_X8_groupTold : Cond.instanceMethod yX8_groupTold ∈ cd_T := cd_T5 (List.mem_of_getElem? (i := 203) (by decide +kernel)) (by decide +kernel)
theorem cd_c_X8_groupTold : Cond.code yX8_groupTold cX8_groupTold 6 (some .boolean) ∈ cd_T := cd_T5 (List.mem_of_getElem? (i := 204) (by decide +kernel)) (by decide +kernel)
theorem cd_m_X8_249 : Cond.methodLink RX8 249 yX8_swapsAside ∈ cd_T := cd_T5 (List.mem_of_getElem? (i := 205) (by decide +kernel)) (by decide +kernel)
theorem cd_i_X8_swapsAside : Cond.instanceMethod yX8_swapsAside ∈ cd_T := cd_T5 (List.mem_of_getElem? (i := 207) (by decide +kernel)) (by decide +kernel)
theorem cd_c_X8_swapsAside : Cond.code yX8_swapsAside cX8_swapsAside 3 none ∈ cd_T := cd_T5 (List.mem_of_getElem? (i := 208) (by decide +kernel)) (by decide +kernel)
theorem cd_m_L_121 : Cond.methodLink RL 121 yX8_refused ∈ cd_T := cd_T5 (List.mem_of_getElem? (i := 209) (by decide +kernel)) (by decide +kernel)
theorem cd_i_X8_refused : Cond.instanceMethod yX8_refused ∈ cd_T := cd_T5 (List.mem_of_getElem? (i := 210) (by decide +kernel)) (by decide +kernel)
theorem cd_e_X8_X8_refused : Cond.selects RX8 yX8_refused yX8_refused ∈ cd_T := cd_T5 (List.mem_of_getElem? (i := 211) (by decide +kernel)) (by decide +kernel)
theorem cd_c_X8_refused : Cond.code yX8_refused cX8_refused 2 (some .int) ∈ cd_T := cd_T5 (List.mem_of_getElem? (i := 212) (by decide +kernel)) (by decide +kernel)
theorem cd_m_X8_252 : Cond.methodLink RX8 252 yX8_refusedOf ∈ cd_T := cd_T5 (List.mem_of_getElem? (i := 213) (by decide +kernel)) (by decide +kernel)
theorem cd_i_X8_refusedOf : Cond.instanceMethod yX8_refusedOf ∈ cd_T := cd_T5 (List.mem_of_getElem? (i := 215) (by decide +kernel)) (by decide +kernel)
theorem cd_c_X8_refusedOf : Cond.code yX8_refusedOf cX8_refusedOf 2 (some .int) ∈ cd_T := cd_T5 (List.mem_of_getElem? (i := 216) (by decide +kernel)) (by decide +kernel)
theorem cd_m_L_126 : Cond.methodLink RL 126 yX8_digest ∈ cd_T := cd_T5 (List.mem_of_getElem? (i := 217) (by decide +kernel)) (by decide +kernel)
theorem cd_i_X8_digest : Cond.instanceMethod yX8_digest ∈ cd_T := cd_T5 (List.mem_of_getElem? (i := 218) (by decide +kernel)) (by decide +kernel)
theorem cd_e_X8_X8_digest : Cond.selects RX8 yX8_digest yX8_digest ∈ cd_T := cd_T5 (List.mem_of_getElem? (i := 219) (by decide +kernel)) (by decide +kernel)
theorem cd_c_X8_digest : Cond.code yX8_digest cX8_digest 3 (some .long) ∈ cd_T := cd_T5 (List.mem_of_getElem? (i := 220) (by decide +kernel)) (by decide +kernel)
theorem cd_l_X8_265 : Cond.constantLong RX8 265 (2707 : Int64) ∈ cd_T := cd_T5 (List.mem_of_getElem? (i := 221) (by decide +kernel)) (by decide +kernel)
theorem cd_m_X8_261 : Cond.methodLink RX8 261 yX8_mix ∈ cd_T := cd_T5 (List.mem_of_getElem? (i := 222) (by decide +kernel)) (by decide +kernel)
theorem cd_i_X8_mix : Cond.instanceMethod yX8_mix ∈ cd_T := cd_T5 (List.mem_of_getElem? (i := 224) (by decide +kernel)) (by decide +kernel)
theorem cd_c_X8_mix : Cond.code yX8_mix cX8_mix 3 none ∈ cd_T := cd_T5 (List.mem_of_getElem? (i := 225) (by decide +kernel)) (by decide +kernel)
theorem cd_l_X8_255 : Cond.constantLong RX8 255 (31 : Int64) ∈ cd_T := cd_T5 (List.mem_of_getElem? (i := 226) (by decide +kernel)) (by decide +kernel)
theorem cd_m_X8_267 : Cond.methodLink RX8 267 yX8_mixGroup ∈ cd_T := cd_T5 (List.mem_of_getElem? (i := 227) (by decide +kernel)) (by decide +kernel)
theorem cd_i_X8_mixGroup : Cond.instanceMethod yX8_mixGroup ∈ cd_T := cd_T5 (List.mem_of_getElem? (i := 229) (by decide +kernel)) (by decide +kernel)
theorem cd_c_X8_mixGroup : Cond.code yX8_mixGroup cX8_mixGroup 4 none ∈ cd_T := cd_T5 (List.mem_of_getElem? (i := 230) (by decide +kernel)) (by decide +kernel)
theorem cd_y_X0_0 : u_lay RX0 TX0 0 ∈ cd_T := cd_T1 (List.mem_of_getElem? (i := 145) (by decide +kernel)) (by decide +kernel)
theorem cd_y_X0_1 : u_lay RX0 TX0 1 ∈ cd_T := cd_T1 (List.mem_of_getElem? (i := 147) (by decide +kernel)) (by decide +kernel)
theorem cd_y_X0_2 : u_lay RX0 TX0 2 ∈ cd_T := cd_T1 (List.mem_of_getElem? (i := 149) (by decide +kernel)) (by decide +kernel)
theorem cd_y_X0_3 : u_lay RX0 TX0 3 ∈ cd_T := cd_T1 (List.mem_of_getElem? (i := 151) (by decide +kernel)) (by decide +kernel)
theorem cd_y_X0_4 : u_lay RX0 TX0 4 ∈ cd_T := cd_T1 (List.mem_of_getElem? (i := 153) (by decide +kernel)) (by decide +kernel)
theorem cd_y_X0_5 : u_lay RX0 TX0 5 ∈ cd_T := cd_T1 (List.mem_of_getElem? (i := 155) (by decide +kernel)) (by decide +kernel)
theorem cd_y_X0_6 : u_lay RX0 TX0 6 ∈ cd_T := cd_T1 (List.mem_of_getElem? (i := 157) (by decide +kernel)) (by decide +kernel)
theorem cd_y_X0_7 : u_lay RX0 TX0 7 ∈ cd_T := cd_T1 (List.mem_of_getElem? (i := 159) (by decide +kernel)) (by decide +kernel)
theorem cd_y_X0_8 : u_lay RX0 TX0 8 ∈ cd_T := cd_T1 (List.mem_of_getElem? (i := 161) (by decide +kernel)) (by decide +kernel)
theorem cd_y_X0_9 : u_lay RX0 TX0 9 ∈ cd_T := cd_T1 (List.mem_of_getElem? (i := 163) (by decide +kernel)) (by decide +kernel)
theorem cd_y_X0_10 : u_lay RX0 TX0 10 ∈ cd_T := cd_T1 (List.mem_of_getElem? (i := 165) (by decide +kernel)) (by decide +kernel)
theorem cd_y_X0_11 : u_lay RX0 TX0 11 ∈ cd_T := cd_T1 (List.mem_of_getElem? (i := 167) (by decide +kernel)) (by decide +kernel)
theorem cd_y_X0_12 : u_lay RX0 TX0 12 ∈ cd_T := cd_T1 (List.mem_of_getElem? (i := 169) (by decide +kernel)) (by decide +kernel)
theorem cd_y_X0_13 : u_lay RX0 TX0 13 ∈ cd_T := cd_T1 (List.mem_of_getElem? (i := 171) (by decide +kernel)) (by decide +kernel)
theorem cd_y_X0_14 : u_lay RX0 TX0 14 ∈ cd_T := cd_T1 (List.mem_of_getElem? (i := 173) (by decide +kernel)) (by decide +kernel)
theorem cd_y_X0_15 : u_lay RX0 TX0 15 ∈ cd_T := cd_T1 (List.mem_of_getElem? (i := 175) (by decide +kernel)) (by decide +kernel)
theorem cd_x0 : ∀ w ∈ wsX00, w ∈ cd_T := by
  intro w hw
  obtain ⟨k, hk, rfl⟩ := List.mem_map.mp hw
  have hk := List.mem_range.mp hk
  match k, hk with
  | 0, _ => exact cd_y_X0_0
  | 1, _ => exact cd_y_X0_1
  | 2, _ => exact cd_y_X0_2
  | 3, _ => exact cd_y_X0_3
  | 4, _ => exact cd_y_X0_4
  | 5, _ => exact cd_y_X0_5
  | 6, _ => exact cd_y_X0_6
  | 7, _ => exact cd_y_X0_7
  | 8, _ => exact cd_y_X0_8
  | 9, _ => exact cd_y_X0_9
  | 10, _ => exact cd_y_X0_10
  | 11, _ => exact cd_y_X0_11
  | 12, _ => exact cd_y_X0_12
  | 13, _ => exact cd_y_X0_13
  | 14, _ => exact cd_y_X0_14
  | 15, _ => exact cd_y_X0_15
  | k + 16, hk => exact absurd hk (by omega)
theorem cd_y_X1_0 : u_lay RX1 TX1 0 ∈ cd_T := cd_T1 (List.mem_of_getElem? (i := 230) (by decide +kernel)) (by decide +kernel)
theorem cd_y_X1_1 : u_lay RX1 TX1 1 ∈ cd_T := cd_T1 (List.mem_of_getElem? (i := 232) (by decide +kernel)) (by decide +kernel)
theorem cd_y_X1_2 : u_lay RX1 TX1 2 ∈ cd_T := cd_T1 (List.mem_of_getElem? (i := 234) (by decide +kernel)) (by decide +kernel)
theorem cd_x1 : ∀ w ∈ wsX10, w ∈ cd_T := by
  intro w hw
  obtain ⟨k, hk, rfl⟩ := List.mem_map.mp hw
  have hk := List.mem_range.mp hk
  match k, hk with
  | 0, _ => exact cd_y_X1_0
  | 1, _ => exact cd_y_X1_1
  | 2, _ => exact cd_y_X1_2
  | k + 3, hk => exact absurd hk (by omega)
theorem cd_y_X2_0 : u_lay RX2 TX2 0 ∈ cd_T := cd_T1 (List.mem_of_getElem? (i := 90) (by decide +kernel)) (by decide +kernel)
theorem cd_y_X2_1 : u_lay RX2 TX2 1 ∈ cd_T := cd_T1 (List.mem_of_getElem? (i := 92) (by decide +kernel)) (by decide +kernel)
theorem cd_y_X2_2 : u_lay RX2 TX2 2 ∈ cd_T := cd_T1 (List.mem_of_getElem? (i := 94) (by decide +kernel)) (by decide +kernel)
theorem cd_y_X2_3 : u_lay RX2 TX2 3 ∈ cd_T := cd_T1 (List.mem_of_getElem? (i := 96) (by decide +kernel)) (by decide +kernel)
theorem cd_y_X2_4 : u_lay RX2 TX2 4 ∈ cd_T := cd_T1 (List.mem_of_getElem? (i := 98) (by decide +kernel)) (by decide +kernel)
theorem cd_y_X2_5 : u_lay RX2 TX2 5 ∈ cd_T := cd_T1 (List.mem_of_getElem? (i := 100) (by decide +kernel)) (by decide +kernel)
theorem cd_y_X2_6 : u_lay RX2 TX2 6 ∈ cd_T := cd_T1 (List.mem_of_getElem? (i := 102) (by decide +kernel)) (by decide +kernel)
theorem cd_y_X2_7 : u_lay RX2 TX2 7 ∈ cd_T := cd_T1 (List.mem_of_getElem? (i := 104) (by decide +kernel)) (by decide +kernel)
theorem cd_x2 : ∀ w ∈ wsX20, w ∈ cd_T := by
  intro w hw
  obtain ⟨k, hk, rfl⟩ := List.mem_map.mp hw
  have hk := List.mem_range.mp hk
  match k, hk with
  | 0, _ => exact cd_y_X2_0
  | 1, _ => exact cd_y_X2_1
  | 2, _ => exact cd_y_X2_2
  | 3, _ => exact cd_y_X2_3
  | 4, _ => exact cd_y_X2_4
  | 5, _ => exact cd_y_X2_5
  | 6, _ => exact cd_y_X2_6
  | 7, _ => exact cd_y_X2_7
  | k + 8, hk => exact absurd hk (by omega)
theorem cd_y_X3_0 : u_lay RX3 TX3 0 ∈ cd_T := cd_T1 (List.mem_of_getElem? (i := 31) (by decide +kernel)) (by decide +kernel)
theorem cd_y_X3_1 : u_lay RX3 TX3 1 ∈ cd_T := cd_T1 (List.mem_of_getElem? (i := 33) (by decide +kernel)) (by decide +kernel)
theorem cd_y_X3_2 : u_lay RX3 TX3 2 ∈ cd_T := cd_T1 (List.mem_of_getElem? (i := 35) (by decide +kernel)) (by decide +kernel)
theorem cd_y_X3_3 : u_lay RX3 TX3 3 ∈ cd_T := cd_T1 (List.mem_of_getElem? (i := 37) (by decide +kernel)) (by decide +kernel)
theorem cd_x3 : ∀ w ∈ wsX30, w ∈ cd_T := by
  intro w hw
  obtain ⟨k, hk, rfl⟩ := List.mem_map.mp hw
  have hk := List.mem_range.mp hk
  match k, hk with
  | 0, _ => exact cd_y_X3_0
  | 1, _ => exact cd_y_X3_1
  | 2, _ => exact cd_y_X3_2
  | 3, _ => exact cd_y_X3_3
  | k + 4, hk => exact absurd hk (by omega)
theorem cd_y_X4_0 : u_lay RX4 TX4 0 ∈ cd_T := cd_T1 (List.mem_of_getElem? (i := 194) (by decide +kernel)) (by decide +kernel)
theorem cd_y_X4_1 : u_lay RX4 TX4 1 ∈ cd_T := cd_T1 (List.mem_of_getElem? (i := 196) (by decide +kernel)) (by decide +kernel)
theorem cd_y_X4_2 : u_lay RX4 TX4 2 ∈ cd_T := cd_T1 (List.mem_of_getElem? (i := 198) (by decide +kernel)) (by decide +kernel)
theorem cd_y_X4_3 : u_lay RX4 TX4 3 ∈ cd_T := cd_T1 (List.mem_of_getElem? (i := 200) (by decide +kernel)) (by decide +kernel)
theorem cd_y_X4_4 : u_lay RX4 TX4 4 ∈ cd_T := cd_T1 (List.mem_of_getElem? (i := 202) (by decide +kernel)) (by decide +kernel)
theorem cd_y_X4_5 : u_lay RX4 TX4 5 ∈ cd_T := cd_T1 (List.mem_of_getElem? (i := 204) (by decide +kernel)) (by decide +kernel)
theorem cd_y_X4_6 : u_lay RX4 TX4 6 ∈ cd_T := cd_T1 (List.mem_of_getElem? (i := 206) (by decide +kernel)) (by decide +kernel)
theorem cd_y_X4_7 : u_lay RX4 TX4 7 ∈ cd_T := cd_T1 (List.mem_of_getElem? (i := 208) (by decide +kernel)) (by decide +kernel)
theorem cd_y_X4_8 : u_lay RX4 TX4 8 ∈ cd_T := cd_T1 (List.mem_of_getElem? (i := 210) (by decide +kernel)) (by decide +kernel)
theorem cd_y_X4_9 : u_lay RX4 TX4 9 ∈ cd_T := cd_T1 (List.mem_of_getElem? (i := 212) (by decide +kernel)) (by decide +kernel)
theorem cd_y_X4_10 : u_lay RX4 TX4 10 ∈ cd_T := cd_T1 (List.mem_of_getElem? (i := 214) (by decide +kernel)) (by decide +kernel)
theorem cd_x4 : ∀ w ∈ wsX40, w ∈ cd_T := by
  intro w hw
  obtain ⟨k, hk, rfl⟩ := List.mem_map.mp hw
  have hk := List.mem_range.mp hk
  match k, hk with
  | 0, _ => exact cd_y_X4_0
  | 1, _ => exact cd_y_X4_1
  | 2, _ => exact cd_y_X4_2
  | 3, _ => exact cd_y_X4_3
  | 4, _ => exact cd_y_X4_4
  | 5, _ => exact cd_y_X4_5
  | 6, _ => exact cd_y_X4_6
  | 7, _ => exact cd_y_X4_7
  | 8, _ => exact cd_y_X4_8
  | 9, _ => exact cd_y_X4_9
  | 10, _ => exact cd_y_X4_10
  | k + 11, hk => exact absurd hk (by omega)
theorem cd_y_X5_0 : u_lay RX5 TX5 0 ∈ cd_T := cd_T1 (List.mem_of_getElem? (i := 61) (by decide +kernel)) (by decide +kernel)
theorem cd_y_X5_1 : u_lay RX5 TX5 1 ∈ cd_T := cd_T1 (List.mem_of_getElem? (i := 63) (by decide +kernel)) (by decide +kernel)
theorem cd_y_X5_2 : u_lay RX5 TX5 2 ∈ cd_T := cd_T1 (List.mem_of_getElem? (i := 65) (by decide +kernel)) (by decide +kernel)
theorem cd_y_X5_3 : u_lay RX5 TX5 3 ∈ cd_T := cd_T1 (List.mem_of_getElem? (i := 67) (by decide +kernel)) (by decide +kernel)
theorem cd_x5 : ∀ w ∈ wsX50, w ∈ cd_T := by
  intro w hw
  obtain ⟨k, hk, rfl⟩ := List.mem_map.mp hw
  have hk := List.mem_range.mp hk
  match k, hk with
  | 0, _ => exact cd_y_X5_0
  | 1, _ => exact cd_y_X5_1
  | 2, _ => exact cd_y_X5_2
  | 3, _ => exact cd_y_X5_3
  | k + 4, hk => exact absurd hk (by omega)
theorem cd_y_X6_0 : u_lay RX6 TX6 0 ∈ cd_T := cd_T2 (List.mem_of_getElem? (i := 13) (by decide +kernel)) (by decide +kernel)
theorem cd_y_X6_1 : u_lay RX6 TX6 1 ∈ cd_T := cd_T2 (List.mem_of_getElem? (i := 15) (by decide +kernel)) (by decide +kernel)
theorem cd_y_X6_2 : u_lay RX6 TX6 2 ∈ cd_T := cd_T2 (List.mem_of_getElem? (i := 17) (by decide +kernel)) (by decide +kernel)
theorem cd_y_X6_3 : u_lay RX6 TX6 3 ∈ cd_T := cd_T2 (List.mem_of_getElem? (i := 19) (by decide +kernel)) (by decide +kernel)
theorem cd_y_X6_4 : u_lay RX6 TX6 4 ∈ cd_T := cd_T2 (List.mem_of_getElem? (i := 21) (by decide +kernel)) (by decide +kernel)
theorem cd_y_X6_5 : u_lay RX6 TX6 5 ∈ cd_T := cd_T2 (List.mem_of_getElem? (i := 23) (by decide +kernel)) (by decide +kernel)
theorem cd_y_X6_6 : u_lay RX6 TX6 6 ∈ cd_T := cd_T2 (List.mem_of_getElem? (i := 25) (by decide +kernel)) (by decide +kernel)
theorem cd_y_X6_7 : u_lay RX6 TX6 7 ∈ cd_T := cd_T2 (List.mem_of_getElem? (i := 27) (by decide +kernel)) (by decide +kernel)
theorem cd_x6 : ∀ w ∈ wsX60, w ∈ cd_T := by
  intro w hw
  obtain ⟨k, hk, rfl⟩ := List.mem_map.mp hw
  have hk := List.mem_range.mp hk
  match k, hk with
  | 0, _ => exact cd_y_X6_0
  | 1, _ => exact cd_y_X6_1
  | 2, _ => exact cd_y_X6_2
  | 3, _ => exact cd_y_X6_3
  | 4, _ => exact cd_y_X6_4
  | 5, _ => exact cd_y_X6_5
  | 6, _ => exact cd_y_X6_6
  | 7, _ => exact cd_y_X6_7
  | k + 8, hk => exact absurd hk (by omega)
theorem cd_y_X7_0 : u_lay RX7 TX7 0 ∈ cd_T := cd_T2 (List.mem_of_getElem? (i := 34) (by decide +kernel)) (by decide +kernel)
theorem cd_y_X7_1 : u_lay RX7 TX7 1 ∈ cd_T := cd_T2 (List.mem_of_getElem? (i := 36) (by decide +kernel)) (by decide +kernel)
theorem cd_y_X7_2 : u_lay RX7 TX7 2 ∈ cd_T := cd_T2 (List.mem_of_getElem? (i := 38) (by decide +kernel)) (by decide +kernel)
theorem cd_y_X7_3 : u_lay RX7 TX7 3 ∈ cd_T := cd_T2 (List.mem_of_getElem? (i := 40) (by decide +kernel)) (by decide +kernel)
theorem cd_x7 : ∀ w ∈ wsX70, w ∈ cd_T := by
  intro w hw
  obtain ⟨k, hk, rfl⟩ := List.mem_map.mp hw
  have hk := List.mem_range.mp hk
  match k, hk with
  | 0, _ => exact cd_y_X7_0
  | 1, _ => exact cd_y_X7_1
  | 2, _ => exact cd_y_X7_2
  | 3, _ => exact cd_y_X7_3
  | k + 4, hk => exact absurd hk (by omega)
theorem cd_y_X8_0 : u_lay RX8 TX8 0 ∈ cd_T := cd_T4 (List.mem_of_getElem? (i := 85) (by decide +kernel)) (by decide +kernel)
theorem cd_y_X8_1 : u_lay RX8 TX8 1 ∈ cd_T := cd_T4 (List.mem_of_getElem? (i := 87) (by decide +kernel)) (by decide +kernel)
theorem cd_y_X8_2 : u_lay RX8 TX8 2 ∈ cd_T := cd_T4 (List.mem_of_getElem? (i := 89) (by decide +kernel)) (by decide +kernel)
theorem cd_y_X8_3 : u_lay RX8 TX8 3 ∈ cd_T := cd_T4 (List.mem_of_getElem? (i := 91) (by decide +kernel)) (by decide +kernel)
theorem cd_y_X8_4 : u_lay RX8 TX8 4 ∈ cd_T := cd_T4 (List.mem_of_getElem? (i := 93) (by decide +kernel)) (by decide +kernel)
theorem cd_y_X8_5 : u_lay RX8 TX8 5 ∈ cd_T := cd_T4 (List.mem_of_getElem? (i := 95) (by decide +kernel)) (by decide +kernel)
theorem cd_y_X8_6 : u_lay RX8 TX8 6 ∈ cd_T := cd_T4 (List.mem_of_getElem? (i := 97) (by decide +kernel)) (by decide +kernel)
theorem cd_y_X8_7 : u_lay RX8 TX8 7 ∈ cd_T := cd_T4 (List.mem_of_getElem? (i := 99) (by decide +kernel)) (by decide +kernel)
theorem cd_y_X8_8 : u_lay RX8 TX8 8 ∈ cd_T := cd_T4 (List.mem_of_getElem? (i := 101) (by decide +kernel)) (by decide +kernel)
theorem cd_y_X8_9 : u_lay RX8 TX8 9 ∈ cd_T := cd_T4 (List.mem_of_getElem? (i := 103) (by decide +kernel)) (by decide +kernel)
theorem cd_y_X8_10 : u_lay RX8 TX8 10 ∈ cd_T := cd_T4 (List.mem_of_getElem? (i := 105) (by decide +kernel)) (by decide +kernel)
theorem cd_y_X8_11 : u_lay RX8 TX8 11 ∈ cd_T := cd_T4 (List.mem_of_getElem? (i := 107) (by decide +kernel)) (by decide +kernel)
theorem cd_y_X8_12 : u_lay RX8 TX8 12 ∈ cd_T := cd_T4 (List.mem_of_getElem? (i := 109) (by decide +kernel)) (by decide +kernel)
theorem cd_y_X8_13 : u_lay RX8 TX8 13 ∈ cd_T := cd_T4 (List.mem_of_getElem? (i := 111) (by decide +kernel)) (by decide +kernel)
theorem cd_y_X8_14 : u_lay RX8 TX8 14 ∈ cd_T := cd_T4 (List.mem_of_getElem? (i := 113) (by decide +kernel)) (by decide +kernel)
theorem cd_y_X8_15 : u_lay RX8 TX8 15 ∈ cd_T := cd_T4 (List.mem_of_getElem? (i := 115) (by decide +kernel)) (by decide +kernel)
theorem cd_y_X8_16 : u_lay RX8 TX8 16 ∈ cd_T := cd_T4 (List.mem_of_getElem? (i := 117) (by decide +kernel)) (by decide +kernel)
theorem cd_y_X8_17 : u_lay RX8 TX8 17 ∈ cd_T := cd_T4 (List.mem_of_getElem? (i := 119) (by decide +kernel)) (by decide +kernel)
theorem cd_x8 : ∀ w ∈ wsX80, w ∈ cd_T := by
  intro w hw
  obtain ⟨k, hk, rfl⟩ := List.mem_map.mp hw
  have hk := List.mem_range.mp hk
  match k, hk with
  | 0, _ => exact cd_y_X8_0
  | 1, _ => exact cd_y_X8_1
  | 2, _ => exact cd_y_X8_2
  | 3, _ => exact cd_y_X8_3
  | 4, _ => exact cd_y_X8_4
  | 5, _ => exact cd_y_X8_5
  | 6, _ => exact cd_y_X8_6
  | 7, _ => exact cd_y_X8_7
  | 8, _ => exact cd_y_X8_8
  | 9, _ => exact cd_y_X8_9
  | 10, _ => exact cd_y_X8_10
  | 11, _ => exact cd_y_X8_11
  | 12, _ => exact cd_y_X8_12
  | 13, _ => exact cd_y_X8_13
  | 14, _ => exact cd_y_X8_14
  | 15, _ => exact cd_y_X8_15
  | 16, _ => exact cd_y_X8_16
  | 17, _ => exact cd_y_X8_17
  | k + 18, hk => exact absurd hk (by omega)
end
section
theorem dX0_init_0 : decode cX0_init 0 = .ok (.aload_n 0, 1) := by decide +kernel
theorem dX0_init_1 : decode cX0_init 1 = .ok (.invokespecial 3, 3) := by decide +kernel
theorem dX0_init_4 : decode cX0_init 4 = .ok (.aload_n 0, 1) := by decide +kernel
theorem dX0_init_5 : decode cX0_init 5 = .ok (.iconst 4, 1) := by decide +kernel
theorem dX0_init_6 : decode cX0_init 6 = .ok (.newarray .int, 2) := by decide +kernel
theorem dX0_init_8 : decode cX0_init 8 = .ok (.putfield 9, 3) := by decide +kernel
theorem dX0_init_11 : decode cX0_init 11 = .ok (.aload_n 0, 1) := by decide +kernel
theorem dX0_init_12 : decode cX0_init 12 = .ok (.iconst 4, 1) := by decide +kernel
theorem dX0_init_13 : decode cX0_init 13 = .ok (.newarray .int, 2) := by decide +kernel
theorem dX0_init_15 : decode cX0_init 15 = .ok (.putfield 15, 3) := by decide +kernel
theorem dX0_init_18 : decode cX0_init 18 = .ok (.aload_n 0, 1) := by decide +kernel
theorem dX0_init_19 : decode cX0_init 19 = .ok (.iconst 4, 1) := by decide +kernel
theorem dX0_init_20 : decode cX0_init 20 = .ok (.newarray .int, 2) := by decide +kernel
theorem dX0_init_22 : decode cX0_init 22 = .ok (.putfield 18, 3) := by decide +kernel
theorem dX0_init_25 : decode cX0_init 25 = .ok (.aload_n 0, 1) := by decide +kernel
theorem dX0_init_26 : decode cX0_init 26 = .ok (.bipush 24, 2) := by decide +kernel
theorem dX0_init_28 : decode cX0_init 28 = .ok (.newarray .int, 2) := by decide +kernel
theorem dX0_init_30 : decode cX0_init 30 = .ok (.putfield 21, 3) := by decide +kernel
theorem dX0_init_33 : decode cX0_init 33 = .ok (.aload_n 0, 1) := by decide +kernel
theorem dX0_init_34 : decode cX0_init 34 = .ok (.bipush 6, 2) := by decide +kernel
theorem dX0_init_36 : decode cX0_init 36 = .ok (.newarray .int, 2) := by decide +kernel
theorem dX0_init_38 : decode cX0_init 38 = .ok (.putfield 24, 3) := by decide +kernel
theorem dX0_init_41 : decode cX0_init 41 = .ok (.aload_n 0, 1) := by decide +kernel
theorem dX0_init_42 : decode cX0_init 42 = .ok (.bipush 6, 2) := by decide +kernel
theorem dX0_init_44 : decode cX0_init 44 = .ok (.newarray .int, 2) := by decide +kernel
theorem dX0_init_46 : decode cX0_init 46 = .ok (.putfield 27, 3) := by decide +kernel
theorem dX0_init_49 : decode cX0_init 49 = .ok (.return_, 1) := by decide +kernel
theorem dX0_begin_0 : decode cX0_begin 0 = .ok (.aload_n 0, 1) := by decide +kernel
theorem dX0_begin_1 : decode cX0_begin 1 = .ok (.iload_n 1, 1) := by decide +kernel
theorem dX0_begin_2 : decode cX0_begin 2 = .ok (.putfield 30, 3) := by decide +kernel
theorem dX0_begin_5 : decode cX0_begin 5 = .ok (.aload_n 0, 1) := by decide +kernel
theorem dX0_begin_6 : decode cX0_begin 6 = .ok (.iload_n 2, 1) := by decide +kernel
theorem dX0_begin_7 : decode cX0_begin 7 = .ok (.putfield 34, 3) := by decide +kernel
theorem dX0_begin_10 : decode cX0_begin 10 = .ok (.aload_n 0, 1) := by decide +kernel
theorem dX0_begin_11 : decode cX0_begin 11 = .ok (.iload_n 3, 1) := by decide +kernel
theorem dX0_begin_12 : decode cX0_begin 12 = .ok (.putfield 37, 3) := by decide +kernel
theorem dX0_begin_15 : decode cX0_begin 15 = .ok (.aload_n 0, 1) := by decide +kernel
theorem dX0_begin_16 : decode cX0_begin 16 = .ok (.iload 4, 2) := by decide +kernel
theorem dX0_begin_18 : decode cX0_begin 18 = .ok (.putfield 41, 3) := by decide +kernel
theorem dX0_begin_21 : decode cX0_begin 21 = .ok (.aload_n 0, 1) := by decide +kernel
theorem dX0_begin_22 : decode cX0_begin 22 = .ok (.iconst 1, 1) := by decide +kernel
theorem dX0_begin_23 : decode cX0_begin 23 = .ok (.putfield 44, 3) := by decide +kernel
theorem dX0_begin_26 : decode cX0_begin 26 = .ok (.aload_n 0, 1) := by decide +kernel
theorem dX0_begin_27 : decode cX0_begin 27 = .ok (.iconst 0, 1) := by decide +kernel
theorem dX0_begin_28 : decode cX0_begin 28 = .ok (.putfield 47, 3) := by decide +kernel
theorem dX0_begin_31 : decode cX0_begin 31 = .ok (.aload_n 0, 1) := by decide +kernel
theorem dX0_begin_32 : decode cX0_begin 32 = .ok (.iconst 0, 1) := by decide +kernel
theorem dX0_begin_33 : decode cX0_begin 33 = .ok (.putfield 50, 3) := by decide +kernel
theorem dX0_begin_36 : decode cX0_begin 36 = .ok (.aload_n 0, 1) := by decide +kernel
theorem dX0_begin_37 : decode cX0_begin 37 = .ok (.iconst 0, 1) := by decide +kernel
theorem dX0_begin_38 : decode cX0_begin 38 = .ok (.putfield 53, 3) := by decide +kernel
theorem dX0_begin_41 : decode cX0_begin 41 = .ok (.aload_n 0, 1) := by decide +kernel
theorem dX0_begin_42 : decode cX0_begin 42 = .ok (.iconst 0, 1) := by decide +kernel
theorem dX0_begin_43 : decode cX0_begin 43 = .ok (.putfield 56, 3) := by decide +kernel
theorem dX0_begin_46 : decode cX0_begin 46 = .ok (.aload_n 0, 1) := by decide +kernel
theorem dX0_begin_47 : decode cX0_begin 47 = .ok (.iconst 0, 1) := by decide +kernel
theorem dX0_begin_48 : decode cX0_begin 48 = .ok (.putfield 59, 3) := by decide +kernel
theorem dX0_begin_51 : decode cX0_begin 51 = .ok (.iconst 0, 1) := by decide +kernel
theorem dX0_begin_52 : decode cX0_begin 52 = .ok (.istore 5, 2) := by decide +kernel
theorem dX0_begin_54 : decode cX0_begin 54 = .ok (.iload 5, 2) := by decide +kernel
theorem dX0_begin_56 : decode cX0_begin 56 = .ok (.aload_n 0, 1) := by decide +kernel
theorem dX0_begin_57 : decode cX0_begin 57 = .ok (.getfield 21, 3) := by decide +kernel
theorem dX0_begin_60 : decode cX0_begin 60 = .ok (.arraylength, 1) := by decide +kernel
theorem dX0_begin_61 : decode cX0_begin 61 = .ok (.if_icmp .ge 17, 3) := by decide +kernel
theorem dX0_begin_64 : decode cX0_begin 64 = .ok (.aload_n 0, 1) := by decide +kernel
theorem dX0_begin_65 : decode cX0_begin 65 = .ok (.getfield 21, 3) := by decide +kernel
theorem dX0_begin_68 : decode cX0_begin 68 = .ok (.iload 5, 2) := by decide +kernel
theorem dX0_begin_70 : decode cX0_begin 70 = .ok (.iconst 0, 1) := by decide +kernel
theorem dX0_begin_71 : decode cX0_begin 71 = .ok (.iastore, 1) := by decide +kernel
theorem dX0_begin_72 : decode cX0_begin 72 = .ok (.iinc 5 1, 3) := by decide +kernel
theorem dX0_begin_75 : decode cX0_begin 75 = .ok (.goto (-21), 3) := by decide +kernel
theorem dX0_begin_78 : decode cX0_begin 78 = .ok (.iconst 0, 1) := by decide +kernel
theorem dX0_begin_79 : decode cX0_begin 79 = .ok (.istore 5, 2) := by decide +kernel
theorem dX0_begin_81 : decode cX0_begin 81 = .ok (.iload 5, 2) := by decide +kernel
theorem dX0_begin_83 : decode cX0_begin 83 = .ok (.bipush 6, 2) := by decide +kernel
theorem dX0_begin_85 : decode cX0_begin 85 = .ok (.if_icmp .ge 25, 3) := by decide +kernel
theorem dX0_begin_88 : decode cX0_begin 88 = .ok (.aload_n 0, 1) := by decide +kernel
theorem dX0_begin_89 : decode cX0_begin 89 = .ok (.getfield 24, 3) := by decide +kernel
theorem dX0_begin_92 : decode cX0_begin 92 = .ok (.iload 5, 2) := by decide +kernel
theorem dX0_begin_94 : decode cX0_begin 94 = .ok (.iconst 0, 1) := by decide +kernel
theorem dX0_begin_95 : decode cX0_begin 95 = .ok (.iastore, 1) := by decide +kernel
theorem dX0_begin_96 : decode cX0_begin 96 = .ok (.aload_n 0, 1) := by decide +kernel
theorem dX0_begin_97 : decode cX0_begin 97 = .ok (.getfield 27, 3) := by decide +kernel
theorem dX0_begin_100 : decode cX0_begin 100 = .ok (.iload 5, 2) := by decide +kernel
theorem dX0_begin_102 : decode cX0_begin 102 = .ok (.iconst 0, 1) := by decide +kernel
theorem dX0_begin_103 : decode cX0_begin 103 = .ok (.iastore, 1) := by decide +kernel
theorem dX0_begin_104 : decode cX0_begin 104 = .ok (.iinc 5 1, 3) := by decide +kernel
theorem dX0_begin_107 : decode cX0_begin 107 = .ok (.goto (-26), 3) := by decide +kernel
theorem dX0_begin_110 : decode cX0_begin 110 = .ok (.return_, 1) := by decide +kernel
theorem dX0_become_0 : decode cX0_become 0 = .ok (.aload_n 0, 1) := by decide +kernel
theorem dX0_become_1 : decode cX0_become 1 = .ok (.aload_n 1, 1) := by decide +kernel
theorem dX0_become_2 : decode cX0_become 2 = .ok (.getfield 30, 3) := by decide +kernel
theorem dX0_become_5 : decode cX0_become 5 = .ok (.putfield 30, 3) := by decide +kernel
theorem dX0_become_8 : decode cX0_become 8 = .ok (.aload_n 0, 1) := by decide +kernel
theorem dX0_become_9 : decode cX0_become 9 = .ok (.aload_n 1, 1) := by decide +kernel
theorem dX0_become_10 : decode cX0_become 10 = .ok (.getfield 34, 3) := by decide +kernel
theorem dX0_become_13 : decode cX0_become 13 = .ok (.putfield 34, 3) := by decide +kernel
theorem dX0_become_16 : decode cX0_become 16 = .ok (.aload_n 0, 1) := by decide +kernel
theorem dX0_become_17 : decode cX0_become 17 = .ok (.aload_n 1, 1) := by decide +kernel
theorem dX0_become_18 : decode cX0_become 18 = .ok (.getfield 37, 3) := by decide +kernel
theorem dX0_become_21 : decode cX0_become 21 = .ok (.putfield 37, 3) := by decide +kernel
theorem dX0_become_24 : decode cX0_become 24 = .ok (.aload_n 0, 1) := by decide +kernel
theorem dX0_become_25 : decode cX0_become 25 = .ok (.aload_n 1, 1) := by decide +kernel
theorem dX0_become_26 : decode cX0_become 26 = .ok (.getfield 41, 3) := by decide +kernel
theorem dX0_become_29 : decode cX0_become 29 = .ok (.putfield 41, 3) := by decide +kernel
theorem dX0_become_32 : decode cX0_become 32 = .ok (.aload_n 0, 1) := by decide +kernel
theorem dX0_become_33 : decode cX0_become 33 = .ok (.aload_n 1, 1) := by decide +kernel
theorem dX0_become_34 : decode cX0_become 34 = .ok (.getfield 44, 3) := by decide +kernel
theorem dX0_become_37 : decode cX0_become 37 = .ok (.putfield 44, 3) := by decide +kernel
theorem dX0_become_40 : decode cX0_become 40 = .ok (.aload_n 0, 1) := by decide +kernel
theorem dX0_become_41 : decode cX0_become 41 = .ok (.aload_n 1, 1) := by decide +kernel
theorem dX0_become_42 : decode cX0_become 42 = .ok (.getfield 47, 3) := by decide +kernel
theorem dX0_become_45 : decode cX0_become 45 = .ok (.putfield 47, 3) := by decide +kernel
theorem dX0_become_48 : decode cX0_become 48 = .ok (.aload_n 0, 1) := by decide +kernel
theorem dX0_become_49 : decode cX0_become 49 = .ok (.aload_n 1, 1) := by decide +kernel
theorem dX0_become_50 : decode cX0_become 50 = .ok (.getfield 50, 3) := by decide +kernel
theorem dX0_become_53 : decode cX0_become 53 = .ok (.putfield 50, 3) := by decide +kernel
theorem dX0_become_56 : decode cX0_become 56 = .ok (.aload_n 0, 1) := by decide +kernel
theorem dX0_become_57 : decode cX0_become 57 = .ok (.aload_n 1, 1) := by decide +kernel
theorem dX0_become_58 : decode cX0_become 58 = .ok (.getfield 53, 3) := by decide +kernel
theorem dX0_become_61 : decode cX0_become 61 = .ok (.putfield 53, 3) := by decide +kernel
theorem dX0_become_64 : decode cX0_become 64 = .ok (.aload_n 0, 1) := by decide +kernel
theorem dX0_become_65 : decode cX0_become 65 = .ok (.aload_n 1, 1) := by decide +kernel
theorem dX0_become_66 : decode cX0_become 66 = .ok (.getfield 56, 3) := by decide +kernel
theorem dX0_become_69 : decode cX0_become 69 = .ok (.putfield 56, 3) := by decide +kernel
theorem dX0_become_72 : decode cX0_become 72 = .ok (.aload_n 0, 1) := by decide +kernel
theorem dX0_become_73 : decode cX0_become 73 = .ok (.aload_n 1, 1) := by decide +kernel
theorem dX0_become_74 : decode cX0_become 74 = .ok (.getfield 59, 3) := by decide +kernel
theorem dX0_become_77 : decode cX0_become 77 = .ok (.putfield 59, 3) := by decide +kernel
theorem dX0_become_80 : decode cX0_become 80 = .ok (.aload_n 1, 1) := by decide +kernel
theorem dX0_become_81 : decode cX0_become 81 = .ok (.getfield 9, 3) := by decide +kernel
theorem dX0_become_84 : decode cX0_become 84 = .ok (.aload_n 0, 1) := by decide +kernel
theorem dX0_become_85 : decode cX0_become 85 = .ok (.getfield 9, 3) := by decide +kernel
theorem dX0_become_88 : decode cX0_become 88 = .ok (.invokestatic 62, 3) := by decide +kernel
theorem dX0_become_91 : decode cX0_become 91 = .ok (.aload_n 1, 1) := by decide +kernel
theorem dX0_become_92 : decode cX0_become 92 = .ok (.getfield 15, 3) := by decide +kernel
theorem dX0_become_95 : decode cX0_become 95 = .ok (.aload_n 0, 1) := by decide +kernel
theorem dX0_become_96 : decode cX0_become 96 = .ok (.getfield 15, 3) := by decide +kernel
theorem dX0_become_99 : decode cX0_become 99 = .ok (.invokestatic 62, 3) := by decide +kernel
theorem dX0_become_102 : decode cX0_become 102 = .ok (.aload_n 1, 1) := by decide +kernel
theorem dX0_become_103 : decode cX0_become 103 = .ok (.getfield 18, 3) := by decide +kernel
theorem dX0_become_106 : decode cX0_become 106 = .ok (.aload_n 0, 1) := by decide +kernel
theorem dX0_become_107 : decode cX0_become 107 = .ok (.getfield 18, 3) := by decide +kernel
theorem dX0_become_110 : decode cX0_become 110 = .ok (.invokestatic 62, 3) := by decide +kernel
theorem dX0_become_113 : decode cX0_become 113 = .ok (.aload_n 1, 1) := by decide +kernel
theorem dX0_become_114 : decode cX0_become 114 = .ok (.getfield 21, 3) := by decide +kernel
theorem dX0_become_117 : decode cX0_become 117 = .ok (.aload_n 0, 1) := by decide +kernel
theorem dX0_become_118 : decode cX0_become 118 = .ok (.getfield 21, 3) := by decide +kernel
theorem dX0_become_121 : decode cX0_become 121 = .ok (.invokestatic 62, 3) := by decide +kernel
theorem dX0_become_124 : decode cX0_become 124 = .ok (.aload_n 1, 1) := by decide +kernel
theorem dX0_become_125 : decode cX0_become 125 = .ok (.getfield 24, 3) := by decide +kernel
theorem dX0_become_128 : decode cX0_become 128 = .ok (.aload_n 0, 1) := by decide +kernel
theorem dX0_become_129 : decode cX0_become 129 = .ok (.getfield 24, 3) := by decide +kernel
theorem dX0_become_132 : decode cX0_become 132 = .ok (.invokestatic 62, 3) := by decide +kernel
theorem dX0_become_135 : decode cX0_become 135 = .ok (.aload_n 1, 1) := by decide +kernel
theorem dX0_become_136 : decode cX0_become 136 = .ok (.getfield 27, 3) := by decide +kernel
theorem dX0_become_139 : decode cX0_become 139 = .ok (.aload_n 0, 1) := by decide +kernel
theorem dX0_become_140 : decode cX0_become 140 = .ok (.getfield 27, 3) := by decide +kernel
theorem dX0_become_143 : decode cX0_become 143 = .ok (.invokestatic 62, 3) := by decide +kernel
theorem dX0_become_146 : decode cX0_become 146 = .ok (.return_, 1) := by decide +kernel
theorem dX0_hasEvent_0 : decode cX0_hasEvent 0 = .ok (.iload_n 1, 1) := by decide +kernel
theorem dX0_hasEvent_1 : decode cX0_hasEvent 1 = .ok (.iconst 0, 1) := by decide +kernel
theorem dX0_hasEvent_2 : decode cX0_hasEvent 2 = .ok (.aload_n 0, 1) := by decide +kernel
theorem dX0_hasEvent_3 : decode cX0_hasEvent 3 = .ok (.getfield 50, 3) := by decide +kernel
theorem dX0_hasEvent_6 : decode cX0_hasEvent 6 = .ok (.iconst 1, 1) := by decide +kernel
theorem dX0_hasEvent_7 : decode cX0_hasEvent 7 = .ok (.isub, 1) := by decide +kernel
theorem dX0_hasEvent_8 : decode cX0_hasEvent 8 = .ok (.invokestatic 66, 3) := by decide +kernel
theorem dX0_hasEvent_11 : decode cX0_hasEvent 11 = .ok (.ireturn, 1) := by decide +kernel
theorem dX0_append_0 : decode cX0_append 0 = .ok (.aload_n 0, 1) := by decide +kernel
theorem dX0_append_1 : decode cX0_append 1 = .ok (.getfield 50, 3) := by decide +kernel
theorem dX0_append_4 : decode cX0_append 4 = .ok (.iconst 4, 1) := by decide +kernel
theorem dX0_append_5 : decode cX0_append 5 = .ok (.if_icmp .lt 6, 3) := by decide +kernel
theorem dX0_append_8 : decode cX0_append 8 = .ok (.bipush (-4), 2) := by decide +kernel
theorem dX0_append_10 : decode cX0_append 10 = .ok (.ireturn, 1) := by decide +kernel
theorem dX0_append_11 : decode cX0_append 11 = .ok (.aload_n 0, 1) := by decide +kernel
theorem dX0_append_12 : decode cX0_append 12 = .ok (.getfield 50, 3) := by decide +kernel
theorem dX0_append_15 : decode cX0_append 15 = .ok (.istore_n 2, 1) := by decide +kernel
theorem dX0_append_16 : decode cX0_append 16 = .ok (.aload_n 0, 1) := by decide +kernel
theorem dX0_append_17 : decode cX0_append 17 = .ok (.dup, 1) := by decide +kernel
theorem dX0_append_18 : decode cX0_append 18 = .ok (.getfield 50, 3) := by decide +kernel
theorem dX0_append_21 : decode cX0_append 21 = .ok (.iconst 1, 1) := by decide +kernel
theorem dX0_append_22 : decode cX0_append 22 = .ok (.iadd, 1) := by decide +kernel
theorem dX0_append_23 : decode cX0_append 23 = .ok (.putfield 50, 3) := by decide +kernel
theorem dX0_append_26 : decode cX0_append 26 = .ok (.aload_n 0, 1) := by decide +kernel
theorem dX0_append_27 : decode cX0_append 27 = .ok (.getfield 9, 3) := by decide +kernel
theorem dX0_append_30 : decode cX0_append 30 = .ok (.iload_n 2, 1) := by decide +kernel
theorem dX0_append_31 : decode cX0_append 31 = .ok (.iload_n 1, 1) := by decide +kernel
theorem dX0_append_32 : decode cX0_append 32 = .ok (.iastore, 1) := by decide +kernel
theorem dX0_append_33 : decode cX0_append 33 = .ok (.aload_n 0, 1) := by decide +kernel
theorem dX0_append_34 : decode cX0_append 34 = .ok (.getfield 15, 3) := by decide +kernel
theorem dX0_append_37 : decode cX0_append 37 = .ok (.iload_n 2, 1) := by decide +kernel
theorem dX0_append_38 : decode cX0_append 38 = .ok (.iconst 0, 1) := by decide +kernel
theorem dX0_append_39 : decode cX0_append 39 = .ok (.iastore, 1) := by decide +kernel
theorem dX0_append_40 : decode cX0_append 40 = .ok (.aload_n 0, 1) := by decide +kernel
theorem dX0_append_41 : decode cX0_append 41 = .ok (.getfield 18, 3) := by decide +kernel
theorem dX0_append_44 : decode cX0_append 44 = .ok (.iload_n 2, 1) := by decide +kernel
theorem dX0_append_45 : decode cX0_append 45 = .ok (.iconst (-1), 1) := by decide +kernel
theorem dX0_append_46 : decode cX0_append 46 = .ok (.iastore, 1) := by decide +kernel
theorem dX0_append_47 : decode cX0_append 47 = .ok (.iload_n 2, 1) := by decide +kernel
theorem dX0_append_48 : decode cX0_append 48 = .ok (.ireturn, 1) := by decide +kernel
theorem dX0_leaveSeats_0 : decode cX0_leaveSeats 0 = .ok (.aload_n 0, 1) := by decide +kernel
theorem dX0_leaveSeats_1 : decode cX0_leaveSeats 1 = .ok (.iconst 0, 1) := by decide +kernel
theorem dX0_leaveSeats_2 : decode cX0_leaveSeats 2 = .ok (.putfield 47, 3) := by decide +kernel
theorem dX0_leaveSeats_5 : decode cX0_leaveSeats 5 = .ok (.iconst 0, 1) := by decide +kernel
theorem dX0_leaveSeats_6 : decode cX0_leaveSeats 6 = .ok (.istore_n 1, 1) := by decide +kernel
theorem dX0_leaveSeats_7 : decode cX0_leaveSeats 7 = .ok (.iload_n 1, 1) := by decide +kernel
theorem dX0_leaveSeats_8 : decode cX0_leaveSeats 8 = .ok (.aload_n 0, 1) := by decide +kernel
theorem dX0_leaveSeats_9 : decode cX0_leaveSeats 9 = .ok (.getfield 50, 3) := by decide +kernel
theorem dX0_leaveSeats_12 : decode cX0_leaveSeats 12 = .ok (.if_icmp .ge 16, 3) := by decide +kernel
theorem dX0_leaveSeats_15 : decode cX0_leaveSeats 15 = .ok (.aload_n 0, 1) := by decide +kernel
theorem dX0_leaveSeats_16 : decode cX0_leaveSeats 16 = .ok (.getfield 18, 3) := by decide +kernel
theorem dX0_leaveSeats_19 : decode cX0_leaveSeats 19 = .ok (.iload_n 1, 1) := by decide +kernel
theorem dX0_leaveSeats_20 : decode cX0_leaveSeats 20 = .ok (.iconst (-1), 1) := by decide +kernel
theorem dX0_leaveSeats_21 : decode cX0_leaveSeats 21 = .ok (.iastore, 1) := by decide +kernel
theorem dX0_leaveSeats_22 : decode cX0_leaveSeats 22 = .ok (.iinc 1 1, 3) := by decide +kernel
theorem dX0_leaveSeats_25 : decode cX0_leaveSeats 25 = .ok (.goto (-18), 3) := by decide +kernel
theorem dX0_leaveSeats_28 : decode cX0_leaveSeats 28 = .ok (.return_, 1) := by decide +kernel
theorem dX0_countSlice_0 : decode cX0_countSlice 0 = .ok (.aload_n 0, 1) := by decide +kernel
theorem dX0_countSlice_1 : decode cX0_countSlice 1 = .ok (.getfield 27, 3) := by decide +kernel
theorem dX0_countSlice_4 : decode cX0_countSlice 4 = .ok (.iload_n 2, 1) := by decide +kernel
theorem dX0_countSlice_5 : decode cX0_countSlice 5 = .ok (.dup2, 1) := by decide +kernel
theorem dX0_countSlice_6 : decode cX0_countSlice 6 = .ok (.iaload, 1) := by decide +kernel
theorem dX0_countSlice_7 : decode cX0_countSlice 7 = .ok (.iconst 1, 1) := by decide +kernel
theorem dX0_countSlice_8 : decode cX0_countSlice 8 = .ok (.iadd, 1) := by decide +kernel
theorem dX0_countSlice_9 : decode cX0_countSlice 9 = .ok (.iastore, 1) := by decide +kernel
theorem dX0_countSlice_10 : decode cX0_countSlice 10 = .ok (.iconst 0, 1) := by decide +kernel
theorem dX0_countSlice_11 : decode cX0_countSlice 11 = .ok (.istore_n 3, 1) := by decide +kernel
theorem dX0_countSlice_12 : decode cX0_countSlice 12 = .ok (.iload_n 3, 1) := by decide +kernel
theorem dX0_countSlice_13 : decode cX0_countSlice 13 = .ok (.aload_n 0, 1) := by decide +kernel
theorem dX0_countSlice_14 : decode cX0_countSlice 14 = .ok (.getfield 50, 3) := by decide +kernel
theorem dX0_countSlice_17 : decode cX0_countSlice 17 = .ok (.if_icmp .ge 55, 3) := by decide +kernel
theorem dX0_countSlice_20 : decode cX0_countSlice 20 = .ok (.aload_n 1, 1) := by decide +kernel
theorem dX0_countSlice_21 : decode cX0_countSlice 21 = .ok (.iload_n 2, 1) := by decide +kernel
theorem dX0_countSlice_22 : decode cX0_countSlice 22 = .ok (.aload_n 0, 1) := by decide +kernel
theorem dX0_countSlice_23 : decode cX0_countSlice 23 = .ok (.getfield 9, 3) := by decide +kernel
theorem dX0_countSlice_26 : decode cX0_countSlice 26 = .ok (.iload_n 3, 1) := by decide +kernel
theorem dX0_countSlice_27 : decode cX0_countSlice 27 = .ok (.iaload, 1) := by decide +kernel
theorem dX0_countSlice_28 : decode cX0_countSlice 28 = .ok (.invokevirtual 70, 3) := by decide +kernel
theorem dX0_countSlice_31 : decode cX0_countSlice 31 = .ok (.istore 4, 2) := by decide +kernel
theorem dX0_countSlice_33 : decode cX0_countSlice 33 = .ok (.aload_n 0, 1) := by decide +kernel
theorem dX0_countSlice_34 : decode cX0_countSlice 34 = .ok (.getfield 21, 3) := by decide +kernel
theorem dX0_countSlice_37 : decode cX0_countSlice 37 = .ok (.iload_n 3, 1) := by decide +kernel
theorem dX0_countSlice_38 : decode cX0_countSlice 38 = .ok (.bipush 6, 2) := by decide +kernel
theorem dX0_countSlice_40 : decode cX0_countSlice 40 = .ok (.imul, 1) := by decide +kernel
theorem dX0_countSlice_41 : decode cX0_countSlice 41 = .ok (.iload_n 2, 1) := by decide +kernel
theorem dX0_countSlice_42 : decode cX0_countSlice 42 = .ok (.iadd, 1) := by decide +kernel
theorem dX0_countSlice_43 : decode cX0_countSlice 43 = .ok (.dup2, 1) := by decide +kernel
theorem dX0_countSlice_44 : decode cX0_countSlice 44 = .ok (.iaload, 1) := by decide +kernel
theorem dX0_countSlice_45 : decode cX0_countSlice 45 = .ok (.iload 4, 2) := by decide +kernel
theorem dX0_countSlice_47 : decode cX0_countSlice 47 = .ok (.iadd, 1) := by decide +kernel
theorem dX0_countSlice_48 : decode cX0_countSlice 48 = .ok (.iastore, 1) := by decide +kernel
theorem dX0_countSlice_49 : decode cX0_countSlice 49 = .ok (.aload_n 0, 1) := by decide +kernel
theorem dX0_countSlice_50 : decode cX0_countSlice 50 = .ok (.getfield 15, 3) := by decide +kernel
theorem dX0_countSlice_53 : decode cX0_countSlice 53 = .ok (.iload_n 3, 1) := by decide +kernel
theorem dX0_countSlice_54 : decode cX0_countSlice 54 = .ok (.aload_n 0, 1) := by decide +kernel
theorem dX0_countSlice_55 : decode cX0_countSlice 55 = .ok (.getfield 15, 3) := by decide +kernel
theorem dX0_countSlice_58 : decode cX0_countSlice 58 = .ok (.iload_n 3, 1) := by decide +kernel
theorem dX0_countSlice_59 : decode cX0_countSlice 59 = .ok (.iaload, 1) := by decide +kernel
theorem dX0_countSlice_60 : decode cX0_countSlice 60 = .ok (.iload 4, 2) := by decide +kernel
theorem dX0_countSlice_62 : decode cX0_countSlice 62 = .ok (.invokestatic 76, 3) := by decide +kernel
theorem dX0_countSlice_65 : decode cX0_countSlice 65 = .ok (.iastore, 1) := by decide +kernel
theorem dX0_countSlice_66 : decode cX0_countSlice 66 = .ok (.iinc 3 1, 3) := by decide +kernel
theorem dX0_countSlice_69 : decode cX0_countSlice 69 = .ok (.goto (-57), 3) := by decide +kernel
theorem dX0_countSlice_72 : decode cX0_countSlice 72 = .ok (.return_, 1) := by decide +kernel
theorem dX0_moveTo_0 : decode cX0_moveTo 0 = .ok (.aload_n 0, 1) := by decide +kernel
theorem dX0_moveTo_1 : decode cX0_moveTo 1 = .ok (.getfield 24, 3) := by decide +kernel
theorem dX0_moveTo_4 : decode cX0_moveTo 4 = .ok (.iload_n 1, 1) := by decide +kernel
theorem dX0_moveTo_5 : decode cX0_moveTo 5 = .ok (.iload_n 2, 1) := by decide +kernel
theorem dX0_moveTo_6 : decode cX0_moveTo 6 = .ok (.invokestatic 81, 3) := by decide +kernel
theorem dX0_moveTo_9 : decode cX0_moveTo 9 = .ok (.aload_n 0, 1) := by decide +kernel
theorem dX0_moveTo_10 : decode cX0_moveTo 10 = .ok (.getfield 27, 3) := by decide +kernel
theorem dX0_moveTo_13 : decode cX0_moveTo 13 = .ok (.iload_n 1, 1) := by decide +kernel
theorem dX0_moveTo_14 : decode cX0_moveTo 14 = .ok (.iload_n 2, 1) := by decide +kernel
theorem dX0_moveTo_15 : decode cX0_moveTo 15 = .ok (.invokestatic 81, 3) := by decide +kernel
theorem dX0_moveTo_18 : decode cX0_moveTo 18 = .ok (.iconst 0, 1) := by decide +kernel
theorem dX0_moveTo_19 : decode cX0_moveTo 19 = .ok (.istore_n 3, 1) := by decide +kernel
theorem dX0_moveTo_20 : decode cX0_moveTo 20 = .ok (.iload_n 3, 1) := by decide +kernel
theorem dX0_moveTo_21 : decode cX0_moveTo 21 = .ok (.aload_n 0, 1) := by decide +kernel
theorem dX0_moveTo_22 : decode cX0_moveTo 22 = .ok (.getfield 50, 3) := by decide +kernel
theorem dX0_moveTo_25 : decode cX0_moveTo 25 = .ok (.if_icmp .ge 28, 3) := by decide +kernel
theorem dX0_moveTo_28 : decode cX0_moveTo 28 = .ok (.aload_n 0, 1) := by decide +kernel
theorem dX0_moveTo_29 : decode cX0_moveTo 29 = .ok (.getfield 21, 3) := by decide +kernel
theorem dX0_moveTo_32 : decode cX0_moveTo 32 = .ok (.iload_n 3, 1) := by decide +kernel
theorem dX0_moveTo_33 : decode cX0_moveTo 33 = .ok (.bipush 6, 2) := by decide +kernel
theorem dX0_moveTo_35 : decode cX0_moveTo 35 = .ok (.imul, 1) := by decide +kernel
theorem dX0_moveTo_36 : decode cX0_moveTo 36 = .ok (.iload_n 1, 1) := by decide +kernel
theorem dX0_moveTo_37 : decode cX0_moveTo 37 = .ok (.iadd, 1) := by decide +kernel
theorem dX0_moveTo_38 : decode cX0_moveTo 38 = .ok (.iload_n 3, 1) := by decide +kernel
theorem dX0_moveTo_39 : decode cX0_moveTo 39 = .ok (.bipush 6, 2) := by decide +kernel
theorem dX0_moveTo_41 : decode cX0_moveTo 41 = .ok (.imul, 1) := by decide +kernel
theorem dX0_moveTo_42 : decode cX0_moveTo 42 = .ok (.iload_n 2, 1) := by decide +kernel
theorem dX0_moveTo_43 : decode cX0_moveTo 43 = .ok (.iadd, 1) := by decide +kernel
theorem dX0_moveTo_44 : decode cX0_moveTo 44 = .ok (.invokestatic 81, 3) := by decide +kernel
theorem dX0_moveTo_47 : decode cX0_moveTo 47 = .ok (.iinc 3 1, 3) := by decide +kernel
theorem dX0_moveTo_50 : decode cX0_moveTo 50 = .ok (.goto (-30), 3) := by decide +kernel
theorem dX0_moveTo_53 : decode cX0_moveTo 53 = .ok (.return_, 1) := by decide +kernel
theorem dX0_moveCell_0 : decode cX0_moveCell 0 = .ok (.aload_n 0, 1) := by decide +kernel
theorem dX0_moveCell_1 : decode cX0_moveCell 1 = .ok (.iload_n 2, 1) := by decide +kernel
theorem dX0_moveCell_2 : decode cX0_moveCell 2 = .ok (.dup2, 1) := by decide +kernel
theorem dX0_moveCell_3 : decode cX0_moveCell 3 = .ok (.iaload, 1) := by decide +kernel
theorem dX0_moveCell_4 : decode cX0_moveCell 4 = .ok (.aload_n 0, 1) := by decide +kernel
theorem dX0_moveCell_5 : decode cX0_moveCell 5 = .ok (.iload_n 1, 1) := by decide +kernel
theorem dX0_moveCell_6 : decode cX0_moveCell 6 = .ok (.iaload, 1) := by decide +kernel
theorem dX0_moveCell_7 : decode cX0_moveCell 7 = .ok (.iadd, 1) := by decide +kernel
theorem dX0_moveCell_8 : decode cX0_moveCell 8 = .ok (.iastore, 1) := by decide +kernel
theorem dX0_moveCell_9 : decode cX0_moveCell 9 = .ok (.aload_n 0, 1) := by decide +kernel
theorem dX0_moveCell_10 : decode cX0_moveCell 10 = .ok (.iload_n 1, 1) := by decide +kernel
theorem dX0_moveCell_11 : decode cX0_moveCell 11 = .ok (.iconst 0, 1) := by decide +kernel
theorem dX0_moveCell_12 : decode cX0_moveCell 12 = .ok (.iastore, 1) := by decide +kernel
theorem dX0_moveCell_13 : decode cX0_moveCell 13 = .ok (.return_, 1) := by decide +kernel
theorem dX0_countIn_0 : decode cX0_countIn 0 = .ok (.aload_n 0, 1) := by decide +kernel
theorem dX0_countIn_1 : decode cX0_countIn 1 = .ok (.getfield 21, 3) := by decide +kernel
theorem dX0_countIn_4 : decode cX0_countIn 4 = .ok (.iload_n 1, 1) := by decide +kernel
theorem dX0_countIn_5 : decode cX0_countIn 5 = .ok (.bipush 6, 2) := by decide +kernel
theorem dX0_countIn_7 : decode cX0_countIn 7 = .ok (.imul, 1) := by decide +kernel
theorem dX0_countIn_8 : decode cX0_countIn 8 = .ok (.iload_n 2, 1) := by decide +kernel
theorem dX0_countIn_9 : decode cX0_countIn 9 = .ok (.invokestatic 85, 3) := by decide +kernel
theorem dX0_countIn_12 : decode cX0_countIn 12 = .ok (.ireturn, 1) := by decide +kernel
theorem dX0_enabledIn_0 : decode cX0_enabledIn 0 = .ok (.aload_n 0, 1) := by decide +kernel
theorem dX0_enabledIn_1 : decode cX0_enabledIn 1 = .ok (.getfield 24, 3) := by decide +kernel
theorem dX0_enabledIn_4 : decode cX0_enabledIn 4 = .ok (.iconst 0, 1) := by decide +kernel
theorem dX0_enabledIn_5 : decode cX0_enabledIn 5 = .ok (.iload_n 1, 1) := by decide +kernel
theorem dX0_enabledIn_6 : decode cX0_enabledIn 6 = .ok (.invokestatic 85, 3) := by decide +kernel
theorem dX0_enabledIn_9 : decode cX0_enabledIn 9 = .ok (.ireturn, 1) := by decide +kernel
theorem dX0_runningIn_0 : decode cX0_runningIn 0 = .ok (.aload_n 0, 1) := by decide +kernel
theorem dX0_runningIn_1 : decode cX0_runningIn 1 = .ok (.getfield 27, 3) := by decide +kernel
theorem dX0_runningIn_4 : decode cX0_runningIn 4 = .ok (.iconst 0, 1) := by decide +kernel
theorem dX0_runningIn_5 : decode cX0_runningIn 5 = .ok (.iload_n 1, 1) := by decide +kernel
theorem dX0_runningIn_6 : decode cX0_runningIn 6 = .ok (.invokestatic 85, 3) := by decide +kernel
theorem dX0_runningIn_9 : decode cX0_runningIn 9 = .ok (.ireturn, 1) := by decide +kernel
theorem dX0_cellOrSum_0 : decode cX0_cellOrSum 0 = .ok (.iload_n 2, 1) := by decide +kernel
theorem dX0_cellOrSum_1 : decode cX0_cellOrSum 1 = .ok (.iconst (-1), 1) := by decide +kernel
theorem dX0_cellOrSum_2 : decode cX0_cellOrSum 2 = .ok (.if_icmp .eq 9, 3) := by decide +kernel
theorem dX0_cellOrSum_5 : decode cX0_cellOrSum 5 = .ok (.aload_n 0, 1) := by decide +kernel
theorem dX0_cellOrSum_6 : decode cX0_cellOrSum 6 = .ok (.iload_n 1, 1) := by decide +kernel
theorem dX0_cellOrSum_7 : decode cX0_cellOrSum 7 = .ok (.iload_n 2, 1) := by decide +kernel
theorem dX0_cellOrSum_8 : decode cX0_cellOrSum 8 = .ok (.iadd, 1) := by decide +kernel
theorem dX0_cellOrSum_9 : decode cX0_cellOrSum 9 = .ok (.iaload, 1) := by decide +kernel
theorem dX0_cellOrSum_10 : decode cX0_cellOrSum 10 = .ok (.ireturn, 1) := by decide +kernel
theorem dX0_cellOrSum_11 : decode cX0_cellOrSum 11 = .ok (.iconst 0, 1) := by decide +kernel
theorem dX0_cellOrSum_12 : decode cX0_cellOrSum 12 = .ok (.istore_n 3, 1) := by decide +kernel
theorem dX0_cellOrSum_13 : decode cX0_cellOrSum 13 = .ok (.iconst 0, 1) := by decide +kernel
theorem dX0_cellOrSum_14 : decode cX0_cellOrSum 14 = .ok (.istore 4, 2) := by decide +kernel
theorem dX0_cellOrSum_16 : decode cX0_cellOrSum 16 = .ok (.iload 4, 2) := by decide +kernel
theorem dX0_cellOrSum_18 : decode cX0_cellOrSum 18 = .ok (.bipush 6, 2) := by decide +kernel
theorem dX0_cellOrSum_20 : decode cX0_cellOrSum 20 = .ok (.if_icmp .ge 18, 3) := by decide +kernel
theorem dX0_cellOrSum_23 : decode cX0_cellOrSum 23 = .ok (.iload_n 3, 1) := by decide +kernel
theorem dX0_cellOrSum_24 : decode cX0_cellOrSum 24 = .ok (.aload_n 0, 1) := by decide +kernel
theorem dX0_cellOrSum_25 : decode cX0_cellOrSum 25 = .ok (.iload_n 1, 1) := by decide +kernel
theorem dX0_cellOrSum_26 : decode cX0_cellOrSum 26 = .ok (.iload 4, 2) := by decide +kernel
theorem dX0_cellOrSum_28 : decode cX0_cellOrSum 28 = .ok (.iadd, 1) := by decide +kernel
theorem dX0_cellOrSum_29 : decode cX0_cellOrSum 29 = .ok (.iaload, 1) := by decide +kernel
theorem dX0_cellOrSum_30 : decode cX0_cellOrSum 30 = .ok (.iadd, 1) := by decide +kernel
theorem dX0_cellOrSum_31 : decode cX0_cellOrSum 31 = .ok (.istore_n 3, 1) := by decide +kernel
theorem dX0_cellOrSum_32 : decode cX0_cellOrSum 32 = .ok (.iinc 4 1, 3) := by decide +kernel
theorem dX0_cellOrSum_35 : decode cX0_cellOrSum 35 = .ok (.goto (-19), 3) := by decide +kernel
theorem dX0_cellOrSum_38 : decode cX0_cellOrSum 38 = .ok (.iload_n 3, 1) := by decide +kernel
theorem dX0_cellOrSum_39 : decode cX0_cellOrSum 39 = .ok (.ireturn, 1) := by decide +kernel
theorem dX0_scaledCount_0 : decode cX0_scaledCount 0 = .ok (.aload_n 0, 1) := by decide +kernel
theorem dX0_scaledCount_1 : decode cX0_scaledCount 1 = .ok (.iconst (-1), 1) := by decide +kernel
theorem dX0_scaledCount_2 : decode cX0_scaledCount 2 = .ok (.invokevirtual 89, 3) := by decide +kernel
theorem dX0_scaledCount_5 : decode cX0_scaledCount 5 = .ok (.istore_n 2, 1) := by decide +kernel
theorem dX0_scaledCount_6 : decode cX0_scaledCount 6 = .ok (.iload_n 2, 1) := by decide +kernel
theorem dX0_scaledCount_7 : decode cX0_scaledCount 7 = .ok (.ifCond .ne 5, 3) := by decide +kernel
theorem dX0_scaledCount_10 : decode cX0_scaledCount 10 = .ok (.iconst (-1), 1) := by decide +kernel
theorem dX0_scaledCount_11 : decode cX0_scaledCount 11 = .ok (.ireturn, 1) := by decide +kernel
theorem dX0_scaledCount_12 : decode cX0_scaledCount 12 = .ok (.aload_n 0, 1) := by decide +kernel
theorem dX0_scaledCount_13 : decode cX0_scaledCount 13 = .ok (.iload_n 1, 1) := by decide +kernel
theorem dX0_scaledCount_14 : decode cX0_scaledCount 14 = .ok (.iconst (-1), 1) := by decide +kernel
theorem dX0_scaledCount_15 : decode cX0_scaledCount 15 = .ok (.invokevirtual 93, 3) := by decide +kernel
theorem dX0_scaledCount_18 : decode cX0_scaledCount 18 = .ok (.i2l, 1) := by decide +kernel
theorem dX0_scaledCount_19 : decode cX0_scaledCount 19 = .ok (.aload_n 0, 1) := by decide +kernel
theorem dX0_scaledCount_20 : decode cX0_scaledCount 20 = .ok (.iconst (-1), 1) := by decide +kernel
theorem dX0_scaledCount_21 : decode cX0_scaledCount 21 = .ok (.invokevirtual 96, 3) := by decide +kernel
theorem dX0_scaledCount_24 : decode cX0_scaledCount 24 = .ok (.i2l, 1) := by decide +kernel
theorem dX0_scaledCount_25 : decode cX0_scaledCount 25 = .ok (.lmul, 1) := by decide +kernel
theorem dX0_scaledCount_26 : decode cX0_scaledCount 26 = .ok (.iload_n 2, 1) := by decide +kernel
theorem dX0_scaledCount_27 : decode cX0_scaledCount 27 = .ok (.i2l, 1) := by decide +kernel
theorem dX0_scaledCount_28 : decode cX0_scaledCount 28 = .ok (.ldiv, 1) := by decide +kernel
theorem dX0_scaledCount_29 : decode cX0_scaledCount 29 = .ok (.l2i, 1) := by decide +kernel
theorem dX0_scaledCount_30 : decode cX0_scaledCount 30 = .ok (.ireturn, 1) := by decide +kernel
theorem dX0_mostCount_0 : decode cX0_mostCount 0 = .ok (.aload_n 0, 1) := by decide +kernel
theorem dX0_mostCount_1 : decode cX0_mostCount 1 = .ok (.iload_n 1, 1) := by decide +kernel
theorem dX0_mostCount_2 : decode cX0_mostCount 2 = .ok (.iconst (-1), 1) := by decide +kernel
theorem dX0_mostCount_3 : decode cX0_mostCount 3 = .ok (.invokevirtual 93, 3) := by decide +kernel
theorem dX0_mostCount_6 : decode cX0_mostCount 6 = .ok (.aload_n 0, 1) := by decide +kernel
theorem dX0_mostCount_7 : decode cX0_mostCount 7 = .ok (.iconst (-1), 1) := by decide +kernel
theorem dX0_mostCount_8 : decode cX0_mostCount 8 = .ok (.invokevirtual 96, 3) := by decide +kernel
theorem dX0_mostCount_11 : decode cX0_mostCount 11 = .ok (.aload_n 0, 1) := by decide +kernel
theorem dX0_mostCount_12 : decode cX0_mostCount 12 = .ok (.iconst (-1), 1) := by decide +kernel
theorem dX0_mostCount_13 : decode cX0_mostCount 13 = .ok (.invokevirtual 89, 3) := by decide +kernel
theorem dX0_mostCount_16 : decode cX0_mostCount 16 = .ok (.isub, 1) := by decide +kernel
theorem dX0_mostCount_17 : decode cX0_mostCount 17 = .ok (.aload_n 0, 1) := by decide +kernel
theorem dX0_mostCount_18 : decode cX0_mostCount 18 = .ok (.getfield 15, 3) := by decide +kernel
theorem dX0_mostCount_21 : decode cX0_mostCount 21 = .ok (.iload_n 1, 1) := by decide +kernel
theorem dX0_mostCount_22 : decode cX0_mostCount 22 = .ok (.iaload, 1) := by decide +kernel
theorem dX0_mostCount_23 : decode cX0_mostCount 23 = .ok (.imul, 1) := by decide +kernel
theorem dX0_mostCount_24 : decode cX0_mostCount 24 = .ok (.iadd, 1) := by decide +kernel
theorem dX0_mostCount_25 : decode cX0_mostCount 25 = .ok (.ireturn, 1) := by decide +kernel
theorem dX1_init_0 : decode cX1_init 0 = .ok (.aload_n 0, 1) := by decide +kernel
theorem dX1_init_1 : decode cX1_init 1 = .ok (.invokespecial 3, 3) := by decide +kernel
theorem dX1_init_4 : decode cX1_init 4 = .ok (.aload_n 0, 1) := by decide +kernel
theorem dX1_init_5 : decode cX1_init 5 = .ok (.bipush 6, 2) := by decide +kernel
theorem dX1_init_7 : decode cX1_init 7 = .ok (.anewarray 11, 3) := by decide +kernel
theorem dX1_init_10 : decode cX1_init 10 = .ok (.putfield 13, 3) := by decide +kernel
theorem dX1_init_13 : decode cX1_init 13 = .ok (.iconst 0, 1) := by decide +kernel
theorem dX1_init_14 : decode cX1_init 14 = .ok (.istore_n 2, 1) := by decide +kernel
theorem dX1_init_15 : decode cX1_init 15 = .ok (.iload_n 2, 1) := by decide +kernel
theorem dX1_init_16 : decode cX1_init 16 = .ok (.bipush 6, 2) := by decide +kernel
theorem dX1_init_18 : decode cX1_init 18 = .ok (.if_icmp .ge 23, 3) := by decide +kernel
theorem dX1_init_21 : decode cX1_init 21 = .ok (.aload_n 0, 1) := by decide +kernel
theorem dX1_init_22 : decode cX1_init 22 = .ok (.getfield 13, 3) := by decide +kernel
theorem dX1_init_25 : decode cX1_init 25 = .ok (.iload_n 2, 1) := by decide +kernel
theorem dX1_init_26 : decode cX1_init 26 = .ok (.new 11, 3) := by decide +kernel
theorem dX1_init_29 : decode cX1_init 29 = .ok (.dup, 1) := by decide +kernel
theorem dX1_init_30 : decode cX1_init 30 = .ok (.aload_n 1, 1) := by decide +kernel
theorem dX1_init_31 : decode cX1_init 31 = .ok (.invokespecial 17, 3) := by decide +kernel
theorem dX1_init_34 : decode cX1_init 34 = .ok (.aastore, 1) := by decide +kernel
theorem dX1_init_35 : decode cX1_init 35 = .ok (.iinc 2 1, 3) := by decide +kernel
theorem dX1_init_38 : decode cX1_init 38 = .ok (.goto (-23), 3) := by decide +kernel
theorem dX1_init_41 : decode cX1_init 41 = .ok (.return_, 1) := by decide +kernel
theorem dX1_hold_0 : decode cX1_hold 0 = .ok (.aload_n 0, 1) := by decide +kernel
theorem dX1_hold_1 : decode cX1_hold 1 = .ok (.getfield 13, 3) := by decide +kernel
theorem dX1_hold_4 : decode cX1_hold 4 = .ok (.aload_n 0, 1) := by decide +kernel
theorem dX1_hold_5 : decode cX1_hold 5 = .ok (.getfield 20, 3) := by decide +kernel
theorem dX1_hold_8 : decode cX1_hold 8 = .ok (.aaload, 1) := by decide +kernel
theorem dX1_hold_9 : decode cX1_hold 9 = .ok (.aload_n 1, 1) := by decide +kernel
theorem dX1_hold_10 : decode cX1_hold 10 = .ok (.invokevirtual 24, 3) := by decide +kernel
theorem dX1_hold_13 : decode cX1_hold 13 = .ok (.return_, 1) := by decide +kernel
theorem dX1_undo_0 : decode cX1_undo 0 = .ok (.aload_n 1, 1) := by decide +kernel
theorem dX1_undo_1 : decode cX1_undo 1 = .ok (.aload_n 0, 1) := by decide +kernel
theorem dX1_undo_2 : decode cX1_undo 2 = .ok (.getfield 13, 3) := by decide +kernel
theorem dX1_undo_5 : decode cX1_undo 5 = .ok (.aload_n 0, 1) := by decide +kernel
theorem dX1_undo_6 : decode cX1_undo 6 = .ok (.getfield 20, 3) := by decide +kernel
theorem dX1_undo_9 : decode cX1_undo 9 = .ok (.aaload, 1) := by decide +kernel
theorem dX1_undo_10 : decode cX1_undo 10 = .ok (.invokevirtual 24, 3) := by decide +kernel
theorem dX1_undo_13 : decode cX1_undo 13 = .ok (.return_, 1) := by decide +kernel
theorem dX1_keep_0 : decode cX1_keep 0 = .ok (.aload_n 0, 1) := by decide +kernel
theorem dX1_keep_1 : decode cX1_keep 1 = .ok (.aload_n 0, 1) := by decide +kernel
theorem dX1_keep_2 : decode cX1_keep 2 = .ok (.getfield 20, 3) := by decide +kernel
theorem dX1_keep_5 : decode cX1_keep 5 = .ok (.iconst 1, 1) := by decide +kernel
theorem dX1_keep_6 : decode cX1_keep 6 = .ok (.iadd, 1) := by decide +kernel
theorem dX1_keep_7 : decode cX1_keep 7 = .ok (.bipush 6, 2) := by decide +kernel
theorem dX1_keep_9 : decode cX1_keep 9 = .ok (.irem, 1) := by decide +kernel
theorem dX1_keep_10 : decode cX1_keep 10 = .ok (.putfield 20, 3) := by decide +kernel
theorem dX1_keep_13 : decode cX1_keep 13 = .ok (.aload_n 0, 1) := by decide +kernel
theorem dX1_keep_14 : decode cX1_keep 14 = .ok (.aload_n 0, 1) := by decide +kernel
theorem dX1_keep_15 : decode cX1_keep 15 = .ok (.getfield 28, 3) := by decide +kernel
theorem dX1_keep_18 : decode cX1_keep 18 = .ok (.iconst 1, 1) := by decide +kernel
theorem dX1_keep_19 : decode cX1_keep 19 = .ok (.iadd, 1) := by decide +kernel
theorem dX1_keep_20 : decode cX1_keep 20 = .ok (.iconst 5, 1) := by decide +kernel
theorem dX1_keep_21 : decode cX1_keep 21 = .ok (.invokestatic 31, 3) := by decide +kernel
theorem dX1_keep_24 : decode cX1_keep 24 = .ok (.putfield 28, 3) := by decide +kernel
theorem dX1_keep_27 : decode cX1_keep 27 = .ok (.return_, 1) := by decide +kernel
theorem dX1_stepBack_0 : decode cX1_stepBack 0 = .ok (.aload_n 0, 1) := by decide +kernel
theorem dX1_stepBack_1 : decode cX1_stepBack 1 = .ok (.getfield 28, 3) := by decide +kernel
theorem dX1_stepBack_4 : decode cX1_stepBack 4 = .ok (.ifCond .gt 6, 3) := by decide +kernel
theorem dX1_stepBack_7 : decode cX1_stepBack 7 = .ok (.bipush (-3), 2) := by decide +kernel
theorem dX1_stepBack_9 : decode cX1_stepBack 9 = .ok (.ireturn, 1) := by decide +kernel
theorem dX1_stepBack_10 : decode cX1_stepBack 10 = .ok (.aload_n 0, 1) := by decide +kernel
theorem dX1_stepBack_11 : decode cX1_stepBack 11 = .ok (.aload_n 0, 1) := by decide +kernel
theorem dX1_stepBack_12 : decode cX1_stepBack 12 = .ok (.getfield 20, 3) := by decide +kernel
theorem dX1_stepBack_15 : decode cX1_stepBack 15 = .ok (.bipush 6, 2) := by decide +kernel
theorem dX1_stepBack_17 : decode cX1_stepBack 17 = .ok (.iadd, 1) := by decide +kernel
theorem dX1_stepBack_18 : decode cX1_stepBack 18 = .ok (.iconst 1, 1) := by decide +kernel
theorem dX1_stepBack_19 : decode cX1_stepBack 19 = .ok (.isub, 1) := by decide +kernel
theorem dX1_stepBack_20 : decode cX1_stepBack 20 = .ok (.bipush 6, 2) := by decide +kernel
theorem dX1_stepBack_22 : decode cX1_stepBack 22 = .ok (.irem, 1) := by decide +kernel
theorem dX1_stepBack_23 : decode cX1_stepBack 23 = .ok (.putfield 20, 3) := by decide +kernel
theorem dX1_stepBack_26 : decode cX1_stepBack 26 = .ok (.aload_n 0, 1) := by decide +kernel
theorem dX1_stepBack_27 : decode cX1_stepBack 27 = .ok (.dup, 1) := by decide +kernel
theorem dX1_stepBack_28 : decode cX1_stepBack 28 = .ok (.getfield 28, 3) := by decide +kernel
theorem dX1_stepBack_31 : decode cX1_stepBack 31 = .ok (.iconst 1, 1) := by decide +kernel
theorem dX1_stepBack_32 : decode cX1_stepBack 32 = .ok (.isub, 1) := by decide +kernel
theorem dX1_stepBack_33 : decode cX1_stepBack 33 = .ok (.putfield 28, 3) := by decide +kernel
theorem dX1_stepBack_36 : decode cX1_stepBack 36 = .ok (.aload_n 1, 1) := by decide +kernel
theorem dX1_stepBack_37 : decode cX1_stepBack 37 = .ok (.aload_n 0, 1) := by decide +kernel
theorem dX1_stepBack_38 : decode cX1_stepBack 38 = .ok (.getfield 13, 3) := by decide +kernel
theorem dX1_stepBack_41 : decode cX1_stepBack 41 = .ok (.aload_n 0, 1) := by decide +kernel
theorem dX1_stepBack_42 : decode cX1_stepBack 42 = .ok (.getfield 20, 3) := by decide +kernel
theorem dX1_stepBack_45 : decode cX1_stepBack 45 = .ok (.aaload, 1) := by decide +kernel
theorem dX1_stepBack_46 : decode cX1_stepBack 46 = .ok (.invokevirtual 24, 3) := by decide +kernel
theorem dX1_stepBack_49 : decode cX1_stepBack 49 = .ok (.aload_n 0, 1) := by decide +kernel
theorem dX1_stepBack_50 : decode cX1_stepBack 50 = .ok (.getfield 28, 3) := by decide +kernel
theorem dX1_stepBack_53 : decode cX1_stepBack 53 = .ok (.ireturn, 1) := by decide +kernel
theorem dX2_init_0 : decode cX2_init 0 = .ok (.aload_n 0, 1) := by decide +kernel
theorem dX2_init_1 : decode cX2_init 1 = .ok (.invokespecial 3, 3) := by decide +kernel
theorem dX2_init_4 : decode cX2_init 4 = .ok (.aload_n 0, 1) := by decide +kernel
theorem dX2_init_5 : decode cX2_init 5 = .ok (.bipush 64, 2) := by decide +kernel
theorem dX2_init_7 : decode cX2_init 7 = .ok (.newarray .int, 2) := by decide +kernel
theorem dX2_init_9 : decode cX2_init 9 = .ok (.putfield 9, 3) := by decide +kernel
theorem dX2_init_12 : decode cX2_init 12 = .ok (.aload_n 0, 1) := by decide +kernel
theorem dX2_init_13 : decode cX2_init 13 = .ok (.bipush 64, 2) := by decide +kernel
theorem dX2_init_15 : decode cX2_init 15 = .ok (.newarray .int, 2) := by decide +kernel
theorem dX2_init_17 : decode cX2_init 17 = .ok (.putfield 15, 3) := by decide +kernel
theorem dX2_init_20 : decode cX2_init 20 = .ok (.aload_n 0, 1) := by decide +kernel
theorem dX2_init_21 : decode cX2_init 21 = .ok (.bipush 12, 2) := by decide +kernel
theorem dX2_init_23 : decode cX2_init 23 = .ok (.newarray .int, 2) := by decide +kernel
theorem dX2_init_25 : decode cX2_init 25 = .ok (.putfield 18, 3) := by decide +kernel
theorem dX2_init_28 : decode cX2_init 28 = .ok (.aload_n 0, 1) := by decide +kernel
theorem dX2_init_29 : decode cX2_init 29 = .ok (.bipush 12, 2) := by decide +kernel
theorem dX2_init_31 : decode cX2_init 31 = .ok (.newarray .int, 2) := by decide +kernel
theorem dX2_init_33 : decode cX2_init 33 = .ok (.putfield 21, 3) := by decide +kernel
theorem dX2_init_36 : decode cX2_init 36 = .ok (.aload_n 0, 1) := by decide +kernel
theorem dX2_init_37 : decode cX2_init 37 = .ok (.bipush 12, 2) := by decide +kernel
theorem dX2_init_39 : decode cX2_init 39 = .ok (.newarray .int, 2) := by decide +kernel
theorem dX2_init_41 : decode cX2_init 41 = .ok (.putfield 24, 3) := by decide +kernel
theorem dX2_init_44 : decode cX2_init 44 = .ok (.return_, 1) := by decide +kernel
theorem dX2_become_0 : decode cX2_become 0 = .ok (.aload_n 0, 1) := by decide +kernel
theorem dX2_become_1 : decode cX2_become 1 = .ok (.aload_n 1, 1) := by decide +kernel
theorem dX2_become_2 : decode cX2_become 2 = .ok (.getfield 27, 3) := by decide +kernel
theorem dX2_become_5 : decode cX2_become 5 = .ok (.putfield 27, 3) := by decide +kernel
theorem dX2_become_8 : decode cX2_become 8 = .ok (.aload_n 0, 1) := by decide +kernel
theorem dX2_become_9 : decode cX2_become 9 = .ok (.aload_n 1, 1) := by decide +kernel
theorem dX2_become_10 : decode cX2_become 10 = .ok (.getfield 31, 3) := by decide +kernel
theorem dX2_become_13 : decode cX2_become 13 = .ok (.putfield 31, 3) := by decide +kernel
theorem dX2_become_16 : decode cX2_become 16 = .ok (.aload_n 0, 1) := by decide +kernel
theorem dX2_become_17 : decode cX2_become 17 = .ok (.aload_n 1, 1) := by decide +kernel
theorem dX2_become_18 : decode cX2_become 18 = .ok (.getfield 34, 3) := by decide +kernel
theorem dX2_become_21 : decode cX2_become 21 = .ok (.putfield 34, 3) := by decide +kernel
theorem dX2_become_24 : decode cX2_become 24 = .ok (.aload_n 1, 1) := by decide +kernel
theorem dX2_become_25 : decode cX2_become 25 = .ok (.getfield 9, 3) := by decide +kernel
theorem dX2_become_28 : decode cX2_become 28 = .ok (.iconst 0, 1) := by decide +kernel
theorem dX2_become_29 : decode cX2_become 29 = .ok (.aload_n 0, 1) := by decide +kernel
theorem dX2_become_30 : decode cX2_become 30 = .ok (.getfield 9, 3) := by decide +kernel
theorem dX2_become_33 : decode cX2_become 33 = .ok (.iconst 0, 1) := by decide +kernel
theorem dX2_become_34 : decode cX2_become 34 = .ok (.aload_n 0, 1) := by decide +kernel
theorem dX2_become_35 : decode cX2_become 35 = .ok (.getfield 27, 3) := by decide +kernel
theorem dX2_become_38 : decode cX2_become 38 = .ok (.invokestatic 37, 3) := by decide +kernel
theorem dX2_become_41 : decode cX2_become 41 = .ok (.aload_n 1, 1) := by decide +kernel
theorem dX2_become_42 : decode cX2_become 42 = .ok (.getfield 15, 3) := by decide +kernel
theorem dX2_become_45 : decode cX2_become 45 = .ok (.iconst 0, 1) := by decide +kernel
theorem dX2_become_46 : decode cX2_become 46 = .ok (.aload_n 0, 1) := by decide +kernel
theorem dX2_become_47 : decode cX2_become 47 = .ok (.getfield 15, 3) := by decide +kernel
theorem dX2_become_50 : decode cX2_become 50 = .ok (.iconst 0, 1) := by decide +kernel
theorem dX2_become_51 : decode cX2_become 51 = .ok (.aload_n 0, 1) := by decide +kernel
theorem dX2_become_52 : decode cX2_become 52 = .ok (.getfield 27, 3) := by decide +kernel
theorem dX2_become_55 : decode cX2_become 55 = .ok (.invokestatic 37, 3) := by decide +kernel
theorem dX2_become_58 : decode cX2_become 58 = .ok (.aload_n 1, 1) := by decide +kernel
theorem dX2_become_59 : decode cX2_become 59 = .ok (.getfield 18, 3) := by decide +kernel
theorem dX2_become_62 : decode cX2_become 62 = .ok (.iconst 0, 1) := by decide +kernel
theorem dX2_become_63 : decode cX2_become 63 = .ok (.aload_n 0, 1) := by decide +kernel
theorem dX2_become_64 : decode cX2_become 64 = .ok (.getfield 18, 3) := by decide +kernel
theorem dX2_become_67 : decode cX2_become 67 = .ok (.iconst 0, 1) := by decide +kernel
theorem dX2_become_68 : decode cX2_become 68 = .ok (.aload_n 0, 1) := by decide +kernel
theorem dX2_become_69 : decode cX2_become 69 = .ok (.getfield 31, 3) := by decide +kernel
theorem dX2_become_72 : decode cX2_become 72 = .ok (.invokestatic 37, 3) := by decide +kernel
theorem dX2_become_75 : decode cX2_become 75 = .ok (.aload_n 1, 1) := by decide +kernel
theorem dX2_become_76 : decode cX2_become 76 = .ok (.getfield 21, 3) := by decide +kernel
theorem dX2_become_79 : decode cX2_become 79 = .ok (.iconst 0, 1) := by decide +kernel
theorem dX2_become_80 : decode cX2_become 80 = .ok (.aload_n 0, 1) := by decide +kernel
theorem dX2_become_81 : decode cX2_become 81 = .ok (.getfield 21, 3) := by decide +kernel
theorem dX2_become_84 : decode cX2_become 84 = .ok (.iconst 0, 1) := by decide +kernel
theorem dX2_become_85 : decode cX2_become 85 = .ok (.aload_n 0, 1) := by decide +kernel
theorem dX2_become_86 : decode cX2_become 86 = .ok (.getfield 31, 3) := by decide +kernel
theorem dX2_become_89 : decode cX2_become 89 = .ok (.invokestatic 37, 3) := by decide +kernel
theorem dX2_become_92 : decode cX2_become 92 = .ok (.aload_n 1, 1) := by decide +kernel
theorem dX2_become_93 : decode cX2_become 93 = .ok (.getfield 24, 3) := by decide +kernel
theorem dX2_become_96 : decode cX2_become 96 = .ok (.iconst 0, 1) := by decide +kernel
theorem dX2_become_97 : decode cX2_become 97 = .ok (.aload_n 0, 1) := by decide +kernel
theorem dX2_become_98 : decode cX2_become 98 = .ok (.getfield 24, 3) := by decide +kernel
theorem dX2_become_101 : decode cX2_become 101 = .ok (.iconst 0, 1) := by decide +kernel
theorem dX2_become_102 : decode cX2_become 102 = .ok (.aload_n 0, 1) := by decide +kernel
theorem dX2_become_103 : decode cX2_become 103 = .ok (.getfield 31, 3) := by decide +kernel
theorem dX2_become_106 : decode cX2_become 106 = .ok (.invokestatic 37, 3) := by decide +kernel
theorem dX2_become_109 : decode cX2_become 109 = .ok (.return_, 1) := by decide +kernel
theorem dX2_await_0 : decode cX2_await 0 = .ok (.aload_n 0, 1) := by decide +kernel
theorem dX2_await_1 : decode cX2_await 1 = .ok (.getfield 27, 3) := by decide +kernel
theorem dX2_await_4 : decode cX2_await 4 = .ok (.bipush 64, 2) := by decide +kernel
theorem dX2_await_6 : decode cX2_await 6 = .ok (.if_icmp .ge 33, 3) := by decide +kernel
theorem dX2_await_9 : decode cX2_await 9 = .ok (.aload_n 0, 1) := by decide +kernel
theorem dX2_await_10 : decode cX2_await 10 = .ok (.getfield 9, 3) := by decide +kernel
theorem dX2_await_13 : decode cX2_await 13 = .ok (.aload_n 0, 1) := by decide +kernel
theorem dX2_await_14 : decode cX2_await 14 = .ok (.getfield 27, 3) := by decide +kernel
theorem dX2_await_17 : decode cX2_await 17 = .ok (.iload_n 1, 1) := by decide +kernel
theorem dX2_await_18 : decode cX2_await 18 = .ok (.iastore, 1) := by decide +kernel
theorem dX2_await_19 : decode cX2_await 19 = .ok (.aload_n 0, 1) := by decide +kernel
theorem dX2_await_20 : decode cX2_await 20 = .ok (.getfield 15, 3) := by decide +kernel
theorem dX2_await_23 : decode cX2_await 23 = .ok (.aload_n 0, 1) := by decide +kernel
theorem dX2_await_24 : decode cX2_await 24 = .ok (.getfield 27, 3) := by decide +kernel
theorem dX2_await_27 : decode cX2_await 27 = .ok (.iload_n 2, 1) := by decide +kernel
theorem dX2_await_28 : decode cX2_await 28 = .ok (.iastore, 1) := by decide +kernel
theorem dX2_await_29 : decode cX2_await 29 = .ok (.aload_n 0, 1) := by decide +kernel
theorem dX2_await_30 : decode cX2_await 30 = .ok (.dup, 1) := by decide +kernel
theorem dX2_await_31 : decode cX2_await 31 = .ok (.getfield 27, 3) := by decide +kernel
theorem dX2_await_34 : decode cX2_await 34 = .ok (.iconst 1, 1) := by decide +kernel
theorem dX2_await_35 : decode cX2_await 35 = .ok (.iadd, 1) := by decide +kernel
theorem dX2_await_36 : decode cX2_await 36 = .ok (.putfield 27, 3) := by decide +kernel
theorem dX2_await_39 : decode cX2_await 39 = .ok (.return_, 1) := by decide +kernel
theorem dX2_tellDue_0 : decode cX2_tellDue 0 = .ok (.iconst 0, 1) := by decide +kernel
theorem dX2_tellDue_1 : decode cX2_tellDue 1 = .ok (.istore_n 3, 1) := by decide +kernel
theorem dX2_tellDue_2 : decode cX2_tellDue 2 = .ok (.iconst 0, 1) := by decide +kernel
theorem dX2_tellDue_3 : decode cX2_tellDue 3 = .ok (.istore 4, 2) := by decide +kernel
theorem dX2_tellDue_5 : decode cX2_tellDue 5 = .ok (.iload 4, 2) := by decide +kernel
theorem dX2_tellDue_7 : decode cX2_tellDue 7 = .ok (.aload_n 0, 1) := by decide +kernel
theorem dX2_tellDue_8 : decode cX2_tellDue 8 = .ok (.getfield 27, 3) := by decide +kernel
theorem dX2_tellDue_11 : decode cX2_tellDue 11 = .ok (.if_icmp .ge 65, 3) := by decide +kernel
theorem dX2_tellDue_14 : decode cX2_tellDue 14 = .ok (.aload_n 0, 1) := by decide +kernel
theorem dX2_tellDue_15 : decode cX2_tellDue 15 = .ok (.getfield 15, 3) := by decide +kernel
theorem dX2_tellDue_18 : decode cX2_tellDue 18 = .ok (.iload 4, 2) := by decide +kernel
theorem dX2_tellDue_20 : decode cX2_tellDue 20 = .ok (.iaload, 1) := by decide +kernel
theorem dX2_tellDue_21 : decode cX2_tellDue 21 = .ok (.iload_n 2, 1) := by decide +kernel
theorem dX2_tellDue_22 : decode cX2_tellDue 22 = .ok (.if_icmp .gt 19, 3) := by decide +kernel
theorem dX2_tellDue_25 : decode cX2_tellDue 25 = .ok (.aload_n 0, 1) := by decide +kernel
theorem dX2_tellDue_26 : decode cX2_tellDue 26 = .ok (.aload_n 0, 1) := by decide +kernel
theorem dX2_tellDue_27 : decode cX2_tellDue 27 = .ok (.getfield 9, 3) := by decide +kernel
theorem dX2_tellDue_30 : decode cX2_tellDue 30 = .ok (.iload 4, 2) := by decide +kernel
theorem dX2_tellDue_32 : decode cX2_tellDue 32 = .ok (.iaload, 1) := by decide +kernel
theorem dX2_tellDue_33 : decode cX2_tellDue 33 = .ok (.iload_n 1, 1) := by decide +kernel
theorem dX2_tellDue_34 : decode cX2_tellDue 34 = .ok (.iload_n 2, 1) := by decide +kernel
theorem dX2_tellDue_35 : decode cX2_tellDue 35 = .ok (.invokevirtual 43, 3) := by decide +kernel
theorem dX2_tellDue_38 : decode cX2_tellDue 38 = .ok (.goto 32, 3) := by decide +kernel
theorem dX2_tellDue_41 : decode cX2_tellDue 41 = .ok (.aload_n 0, 1) := by decide +kernel
theorem dX2_tellDue_42 : decode cX2_tellDue 42 = .ok (.getfield 9, 3) := by decide +kernel
theorem dX2_tellDue_45 : decode cX2_tellDue 45 = .ok (.iload_n 3, 1) := by decide +kernel
theorem dX2_tellDue_46 : decode cX2_tellDue 46 = .ok (.aload_n 0, 1) := by decide +kernel
theorem dX2_tellDue_47 : decode cX2_tellDue 47 = .ok (.getfield 9, 3) := by decide +kernel
theorem dX2_tellDue_50 : decode cX2_tellDue 50 = .ok (.iload 4, 2) := by decide +kernel
theorem dX2_tellDue_52 : decode cX2_tellDue 52 = .ok (.iaload, 1) := by decide +kernel
theorem dX2_tellDue_53 : decode cX2_tellDue 53 = .ok (.iastore, 1) := by decide +kernel
theorem dX2_tellDue_54 : decode cX2_tellDue 54 = .ok (.aload_n 0, 1) := by decide +kernel
theorem dX2_tellDue_55 : decode cX2_tellDue 55 = .ok (.getfield 15, 3) := by decide +kernel
theorem dX2_tellDue_58 : decode cX2_tellDue 58 = .ok (.iload_n 3, 1) := by decide +kernel
theorem dX2_tellDue_59 : decode cX2_tellDue 59 = .ok (.aload_n 0, 1) := by decide +kernel
theorem dX2_tellDue_60 : decode cX2_tellDue 60 = .ok (.getfield 15, 3) := by decide +kernel
theorem dX2_tellDue_63 : decode cX2_tellDue 63 = .ok (.iload 4, 2) := by decide +kernel
theorem dX2_tellDue_65 : decode cX2_tellDue 65 = .ok (.iaload, 1) := by decide +kernel
theorem dX2_tellDue_66 : decode cX2_tellDue 66 = .ok (.iastore, 1) := by decide +kernel
theorem dX2_tellDue_67 : decode cX2_tellDue 67 = .ok (.iinc 3 1, 3) := by decide +kernel
theorem dX2_tellDue_70 : decode cX2_tellDue 70 = .ok (.iinc 4 1, 3) := by decide +kernel
theorem dX2_tellDue_73 : decode cX2_tellDue 73 = .ok (.goto (-68), 3) := by decide +kernel
theorem dX2_tellDue_76 : decode cX2_tellDue 76 = .ok (.aload_n 0, 1) := by decide +kernel
theorem dX2_tellDue_77 : decode cX2_tellDue 77 = .ok (.iload_n 3, 1) := by decide +kernel
theorem dX2_tellDue_78 : decode cX2_tellDue 78 = .ok (.putfield 27, 3) := by decide +kernel
theorem dX2_tellDue_81 : decode cX2_tellDue 81 = .ok (.return_, 1) := by decide +kernel
theorem dX2_keep_0 : decode cX2_keep 0 = .ok (.aload_n 0, 1) := by decide +kernel
theorem dX2_keep_1 : decode cX2_keep 1 = .ok (.getfield 31, 3) := by decide +kernel
theorem dX2_keep_4 : decode cX2_keep 4 = .ok (.bipush 12, 2) := by decide +kernel
theorem dX2_keep_6 : decode cX2_keep 6 = .ok (.if_icmp .lt 14, 3) := by decide +kernel
theorem dX2_keep_9 : decode cX2_keep 9 = .ok (.aload_n 0, 1) := by decide +kernel
theorem dX2_keep_10 : decode cX2_keep 10 = .ok (.dup, 1) := by decide +kernel
theorem dX2_keep_11 : decode cX2_keep 11 = .ok (.getfield 34, 3) := by decide +kernel
theorem dX2_keep_14 : decode cX2_keep 14 = .ok (.iconst 1, 1) := by decide +kernel
theorem dX2_keep_15 : decode cX2_keep 15 = .ok (.iadd, 1) := by decide +kernel
theorem dX2_keep_16 : decode cX2_keep 16 = .ok (.putfield 34, 3) := by decide +kernel
theorem dX2_keep_19 : decode cX2_keep 19 = .ok (.return_, 1) := by decide +kernel
theorem dX2_keep_20 : decode cX2_keep 20 = .ok (.aload_n 0, 1) := by decide +kernel
theorem dX2_keep_21 : decode cX2_keep 21 = .ok (.getfield 18, 3) := by decide +kernel
theorem dX2_keep_24 : decode cX2_keep 24 = .ok (.aload_n 0, 1) := by decide +kernel
theorem dX2_keep_25 : decode cX2_keep 25 = .ok (.getfield 31, 3) := by decide +kernel
theorem dX2_keep_28 : decode cX2_keep 28 = .ok (.iload_n 1, 1) := by decide +kernel
theorem dX2_keep_29 : decode cX2_keep 29 = .ok (.iastore, 1) := by decide +kernel
theorem dX2_keep_30 : decode cX2_keep 30 = .ok (.aload_n 0, 1) := by decide +kernel
theorem dX2_keep_31 : decode cX2_keep 31 = .ok (.getfield 21, 3) := by decide +kernel
theorem dX2_keep_34 : decode cX2_keep 34 = .ok (.aload_n 0, 1) := by decide +kernel
theorem dX2_keep_35 : decode cX2_keep 35 = .ok (.getfield 31, 3) := by decide +kernel
theorem dX2_keep_38 : decode cX2_keep 38 = .ok (.iload_n 2, 1) := by decide +kernel
theorem dX2_keep_39 : decode cX2_keep 39 = .ok (.iastore, 1) := by decide +kernel
theorem dX2_keep_40 : decode cX2_keep 40 = .ok (.aload_n 0, 1) := by decide +kernel
theorem dX2_keep_41 : decode cX2_keep 41 = .ok (.getfield 24, 3) := by decide +kernel
theorem dX2_keep_44 : decode cX2_keep 44 = .ok (.aload_n 0, 1) := by decide +kernel
theorem dX2_keep_45 : decode cX2_keep 45 = .ok (.getfield 31, 3) := by decide +kernel
theorem dX2_keep_48 : decode cX2_keep 48 = .ok (.iload_n 3, 1) := by decide +kernel
theorem dX2_keep_49 : decode cX2_keep 49 = .ok (.iastore, 1) := by decide +kernel
theorem dX2_keep_50 : decode cX2_keep 50 = .ok (.aload_n 0, 1) := by decide +kernel
theorem dX2_keep_51 : decode cX2_keep 51 = .ok (.dup, 1) := by decide +kernel
theorem dX2_keep_52 : decode cX2_keep 52 = .ok (.getfield 31, 3) := by decide +kernel
theorem dX2_keep_55 : decode cX2_keep 55 = .ok (.iconst 1, 1) := by decide +kernel
theorem dX2_keep_56 : decode cX2_keep 56 = .ok (.iadd, 1) := by decide +kernel
theorem dX2_keep_57 : decode cX2_keep 57 = .ok (.putfield 31, 3) := by decide +kernel
theorem dX2_keep_60 : decode cX2_keep 60 = .ok (.return_, 1) := by decide +kernel
theorem dX2_keptFact_0 : decode cX2_keptFact 0 = .ok (.iload_n 1, 1) := by decide +kernel
theorem dX2_keptFact_1 : decode cX2_keptFact 1 = .ok (.ifCond .lt 12, 3) := by decide +kernel
theorem dX2_keptFact_4 : decode cX2_keptFact 4 = .ok (.iload_n 2, 1) := by decide +kernel
theorem dX2_keptFact_5 : decode cX2_keptFact 5 = .ok (.iconst 0, 1) := by decide +kernel
theorem dX2_keptFact_6 : decode cX2_keptFact 6 = .ok (.iconst 2, 1) := by decide +kernel
theorem dX2_keptFact_7 : decode cX2_keptFact 7 = .ok (.invokestatic 47, 3) := by decide +kernel
theorem dX2_keptFact_10 : decode cX2_keptFact 10 = .ok (.ifCond .ne 6, 3) := by decide +kernel
theorem dX2_keptFact_13 : decode cX2_keptFact 13 = .ok (.bipush (-2), 2) := by decide +kernel
theorem dX2_keptFact_15 : decode cX2_keptFact 15 = .ok (.ireturn, 1) := by decide +kernel
theorem dX2_keptFact_16 : decode cX2_keptFact 16 = .ok (.iload_n 1, 1) := by decide +kernel
theorem dX2_keptFact_17 : decode cX2_keptFact 17 = .ok (.aload_n 0, 1) := by decide +kernel
theorem dX2_keptFact_18 : decode cX2_keptFact 18 = .ok (.getfield 31, 3) := by decide +kernel
theorem dX2_keptFact_21 : decode cX2_keptFact 21 = .ok (.if_icmp .lt 5, 3) := by decide +kernel
theorem dX2_keptFact_24 : decode cX2_keptFact 24 = .ok (.iconst (-1), 1) := by decide +kernel
theorem dX2_keptFact_25 : decode cX2_keptFact 25 = .ok (.ireturn, 1) := by decide +kernel
theorem dX2_keptFact_26 : decode cX2_keptFact 26 = .ok (.iload_n 2, 1) := by decide +kernel
theorem dX2_keptFact_27 : decode cX2_keptFact 27 = .ok (.lookupswitch 39 #[(0, 25), (1, 32)], 25) := by decide +kernel
theorem dX2_keptFact_52 : decode cX2_keptFact 52 = .ok (.aload_n 0, 1) := by decide +kernel
theorem dX2_keptFact_53 : decode cX2_keptFact 53 = .ok (.getfield 18, 3) := by decide +kernel
theorem dX2_keptFact_56 : decode cX2_keptFact 56 = .ok (.iload_n 1, 1) := by decide +kernel
theorem dX2_keptFact_57 : decode cX2_keptFact 57 = .ok (.iaload, 1) := by decide +kernel
theorem dX2_keptFact_58 : decode cX2_keptFact 58 = .ok (.ireturn, 1) := by decide +kernel
theorem dX2_keptFact_59 : decode cX2_keptFact 59 = .ok (.aload_n 0, 1) := by decide +kernel
theorem dX2_keptFact_60 : decode cX2_keptFact 60 = .ok (.getfield 21, 3) := by decide +kernel
theorem dX2_keptFact_63 : decode cX2_keptFact 63 = .ok (.iload_n 1, 1) := by decide +kernel
theorem dX2_keptFact_64 : decode cX2_keptFact 64 = .ok (.iaload, 1) := by decide +kernel
theorem dX2_keptFact_65 : decode cX2_keptFact 65 = .ok (.ireturn, 1) := by decide +kernel
theorem dX2_keptFact_66 : decode cX2_keptFact 66 = .ok (.aload_n 0, 1) := by decide +kernel
theorem dX2_keptFact_67 : decode cX2_keptFact 67 = .ok (.getfield 24, 3) := by decide +kernel
theorem dX2_keptFact_70 : decode cX2_keptFact 70 = .ok (.iload_n 1, 1) := by decide +kernel
theorem dX2_keptFact_71 : decode cX2_keptFact 71 = .ok (.iaload, 1) := by decide +kernel
theorem dX2_keptFact_72 : decode cX2_keptFact 72 = .ok (.ireturn, 1) := by decide +kernel
theorem dX3_init_0 : decode cX3_init 0 = .ok (.aload_n 0, 1) := by decide +kernel
theorem dX3_init_1 : decode cX3_init 1 = .ok (.invokespecial 3, 3) := by decide +kernel
theorem dX3_init_4 : decode cX3_init 4 = .ok (.aload_n 0, 1) := by decide +kernel
theorem dX3_init_5 : decode cX3_init 5 = .ok (.iconst 4, 1) := by decide +kernel
theorem dX3_init_6 : decode cX3_init 6 = .ok (.newarray .int, 2) := by decide +kernel
theorem dX3_init_8 : decode cX3_init 8 = .ok (.putfield 9, 3) := by decide +kernel
theorem dX3_init_11 : decode cX3_init 11 = .ok (.aload_n 0, 1) := by decide +kernel
theorem dX3_init_12 : decode cX3_init 12 = .ok (.iconst 4, 1) := by decide +kernel
theorem dX3_init_13 : decode cX3_init 13 = .ok (.newarray .int, 2) := by decide +kernel
theorem dX3_init_15 : decode cX3_init 15 = .ok (.putfield 15, 3) := by decide +kernel
theorem dX3_init_18 : decode cX3_init 18 = .ok (.return_, 1) := by decide +kernel
theorem dX3_open_0 : decode cX3_open 0 = .ok (.aload_n 0, 1) := by decide +kernel
theorem dX3_open_1 : decode cX3_open 1 = .ok (.iconst 0, 1) := by decide +kernel
theorem dX3_open_2 : decode cX3_open 2 = .ok (.putfield 18, 3) := by decide +kernel
theorem dX3_open_5 : decode cX3_open 5 = .ok (.aload_n 0, 1) := by decide +kernel
theorem dX3_open_6 : decode cX3_open 6 = .ok (.iconst 1, 1) := by decide +kernel
theorem dX3_open_7 : decode cX3_open 7 = .ok (.iload_n 1, 1) := by decide +kernel
theorem dX3_open_8 : decode cX3_open 8 = .ok (.ishl, 1) := by decide +kernel
theorem dX3_open_9 : decode cX3_open 9 = .ok (.iconst 1, 1) := by decide +kernel
theorem dX3_open_10 : decode cX3_open 10 = .ok (.isub, 1) := by decide +kernel
theorem dX3_open_11 : decode cX3_open 11 = .ok (.putfield 22, 3) := by decide +kernel
theorem dX3_open_14 : decode cX3_open 14 = .ok (.return_, 1) := by decide +kernel
theorem dX3_take_0 : decode cX3_take 0 = .ok (.aload_n 0, 1) := by decide +kernel
theorem dX3_take_1 : decode cX3_take 1 = .ok (.getfield 18, 3) := by decide +kernel
theorem dX3_take_4 : decode cX3_take 4 = .ok (.istore_n 3, 1) := by decide +kernel
theorem dX3_take_5 : decode cX3_take 5 = .ok (.iload_n 3, 1) := by decide +kernel
theorem dX3_take_6 : decode cX3_take 6 = .ok (.aload_n 1, 1) := by decide +kernel
theorem dX3_take_7 : decode cX3_take 7 = .ok (.getfield 25, 3) := by decide +kernel
theorem dX3_take_10 : decode cX3_take 10 = .ok (.iadd, 1) := by decide +kernel
theorem dX3_take_11 : decode cX3_take 11 = .ok (.iconst 4, 1) := by decide +kernel
theorem dX3_take_12 : decode cX3_take 12 = .ok (.if_icmp .le 5, 3) := by decide +kernel
theorem dX3_take_15 : decode cX3_take 15 = .ok (.iconst 0, 1) := by decide +kernel
theorem dX3_take_16 : decode cX3_take 16 = .ok (.ireturn, 1) := by decide +kernel
theorem dX3_take_17 : decode cX3_take 17 = .ok (.iconst 0, 1) := by decide +kernel
theorem dX3_take_18 : decode cX3_take 18 = .ok (.istore 4, 2) := by decide +kernel
theorem dX3_take_20 : decode cX3_take 20 = .ok (.iload 4, 2) := by decide +kernel
theorem dX3_take_22 : decode cX3_take 22 = .ok (.aload_n 1, 1) := by decide +kernel
theorem dX3_take_23 : decode cX3_take 23 = .ok (.getfield 25, 3) := by decide +kernel
theorem dX3_take_26 : decode cX3_take 26 = .ok (.if_icmp .ge 37, 3) := by decide +kernel
theorem dX3_take_29 : decode cX3_take 29 = .ok (.aload_n 0, 1) := by decide +kernel
theorem dX3_take_30 : decode cX3_take 30 = .ok (.getfield 9, 3) := by decide +kernel
theorem dX3_take_33 : decode cX3_take 33 = .ok (.aload_n 0, 1) := by decide +kernel
theorem dX3_take_34 : decode cX3_take 34 = .ok (.getfield 18, 3) := by decide +kernel
theorem dX3_take_37 : decode cX3_take 37 = .ok (.aload_n 2, 1) := by decide +kernel
theorem dX3_take_38 : decode cX3_take 38 = .ok (.aload_n 1, 1) := by decide +kernel
theorem dX3_take_39 : decode cX3_take 39 = .ok (.getfield 30, 3) := by decide +kernel
theorem dX3_take_42 : decode cX3_take 42 = .ok (.iload 4, 2) := by decide +kernel
theorem dX3_take_44 : decode cX3_take 44 = .ok (.iaload, 1) := by decide +kernel
theorem dX3_take_45 : decode cX3_take 45 = .ok (.iaload, 1) := by decide +kernel
theorem dX3_take_46 : decode cX3_take 46 = .ok (.iastore, 1) := by decide +kernel
theorem dX3_take_47 : decode cX3_take 47 = .ok (.aload_n 0, 1) := by decide +kernel
theorem dX3_take_48 : decode cX3_take 48 = .ok (.dup, 1) := by decide +kernel
theorem dX3_take_49 : decode cX3_take 49 = .ok (.getfield 18, 3) := by decide +kernel
theorem dX3_take_52 : decode cX3_take 52 = .ok (.iconst 1, 1) := by decide +kernel
theorem dX3_take_53 : decode cX3_take 53 = .ok (.iadd, 1) := by decide +kernel
theorem dX3_take_54 : decode cX3_take 54 = .ok (.putfield 18, 3) := by decide +kernel
theorem dX3_take_57 : decode cX3_take 57 = .ok (.iinc 4 1, 3) := by decide +kernel
theorem dX3_take_60 : decode cX3_take 60 = .ok (.goto (-40), 3) := by decide +kernel
theorem dX3_take_63 : decode cX3_take 63 = .ok (.aload_n 0, 1) := by decide +kernel
theorem dX3_take_64 : decode cX3_take 64 = .ok (.getfield 9, 3) := by decide +kernel
theorem dX3_take_67 : decode cX3_take 67 = .ok (.aload_n 0, 1) := by decide +kernel
theorem dX3_take_68 : decode cX3_take 68 = .ok (.getfield 15, 3) := by decide +kernel
theorem dX3_take_71 : decode cX3_take 71 = .ok (.aload_n 0, 1) := by decide +kernel
theorem dX3_take_72 : decode cX3_take 72 = .ok (.getfield 18, 3) := by decide +kernel
theorem dX3_take_75 : decode cX3_take 75 = .ok (.iconst 0, 1) := by decide +kernel
theorem dX3_take_76 : decode cX3_take 76 = .ok (.aload_n 0, 1) := by decide +kernel
theorem dX3_take_77 : decode cX3_take 77 = .ok (.getfield 22, 3) := by decide +kernel
theorem dX3_take_80 : decode cX3_take 80 = .ok (.invokestatic 33, 3) := by decide +kernel
theorem dX3_take_83 : decode cX3_take 83 = .ok (.ifCond .eq 5, 3) := by decide +kernel
theorem dX3_take_86 : decode cX3_take 86 = .ok (.iconst 1, 1) := by decide +kernel
theorem dX3_take_87 : decode cX3_take 87 = .ok (.ireturn, 1) := by decide +kernel
theorem dX3_take_88 : decode cX3_take 88 = .ok (.aload_n 0, 1) := by decide +kernel
theorem dX3_take_89 : decode cX3_take 89 = .ok (.iload_n 3, 1) := by decide +kernel
theorem dX3_take_90 : decode cX3_take 90 = .ok (.putfield 18, 3) := by decide +kernel
theorem dX3_take_93 : decode cX3_take 93 = .ok (.iconst 0, 1) := by decide +kernel
theorem dX3_take_94 : decode cX3_take 94 = .ok (.ireturn, 1) := by decide +kernel
theorem dX3_sitAll_0 : decode cX3_sitAll 0 = .ok (.aload_n 0, 1) := by decide +kernel
theorem dX3_sitAll_1 : decode cX3_sitAll 1 = .ok (.getfield 9, 3) := by decide +kernel
theorem dX3_sitAll_4 : decode cX3_sitAll 4 = .ok (.aload_n 0, 1) := by decide +kernel
theorem dX3_sitAll_5 : decode cX3_sitAll 5 = .ok (.getfield 15, 3) := by decide +kernel
theorem dX3_sitAll_8 : decode cX3_sitAll 8 = .ok (.aload_n 0, 1) := by decide +kernel
theorem dX3_sitAll_9 : decode cX3_sitAll 9 = .ok (.getfield 18, 3) := by decide +kernel
theorem dX3_sitAll_12 : decode cX3_sitAll 12 = .ok (.iconst 0, 1) := by decide +kernel
theorem dX3_sitAll_13 : decode cX3_sitAll 13 = .ok (.aload_n 0, 1) := by decide +kernel
theorem dX3_sitAll_14 : decode cX3_sitAll 14 = .ok (.getfield 22, 3) := by decide +kernel
theorem dX3_sitAll_17 : decode cX3_sitAll 17 = .ok (.invokestatic 33, 3) := by decide +kernel
theorem dX3_sitAll_20 : decode cX3_sitAll 20 = .ok (.pop, 1) := by decide +kernel
theorem dX3_sitAll_21 : decode cX3_sitAll 21 = .ok (.return_, 1) := by decide +kernel
theorem dX3_sit_0 : decode cX3_sit 0 = .ok (.iload_n 3, 1) := by decide +kernel
theorem dX3_sit_1 : decode cX3_sit 1 = .ok (.iload_n 2, 1) := by decide +kernel
theorem dX3_sit_2 : decode cX3_sit 2 = .ok (.if_icmp .lt 5, 3) := by decide +kernel
theorem dX3_sit_5 : decode cX3_sit 5 = .ok (.iconst 1, 1) := by decide +kernel
theorem dX3_sit_6 : decode cX3_sit 6 = .ok (.ireturn, 1) := by decide +kernel
theorem dX3_sit_7 : decode cX3_sit 7 = .ok (.iconst 0, 1) := by decide +kernel
theorem dX3_sit_8 : decode cX3_sit 8 = .ok (.istore 5, 2) := by decide +kernel
theorem dX3_sit_10 : decode cX3_sit 10 = .ok (.iload 5, 2) := by decide +kernel
theorem dX3_sit_12 : decode cX3_sit 12 = .ok (.iconst 4, 1) := by decide +kernel
theorem dX3_sit_13 : decode cX3_sit 13 = .ok (.if_icmp .ge 53, 3) := by decide +kernel
theorem dX3_sit_16 : decode cX3_sit 16 = .ok (.iconst 1, 1) := by decide +kernel
theorem dX3_sit_17 : decode cX3_sit 17 = .ok (.iload 5, 2) := by decide +kernel
theorem dX3_sit_19 : decode cX3_sit 19 = .ok (.ishl, 1) := by decide +kernel
theorem dX3_sit_20 : decode cX3_sit 20 = .ok (.istore 6, 2) := by decide +kernel
theorem dX3_sit_22 : decode cX3_sit 22 = .ok (.aload_n 0, 1) := by decide +kernel
theorem dX3_sit_23 : decode cX3_sit 23 = .ok (.iload_n 3, 1) := by decide +kernel
theorem dX3_sit_24 : decode cX3_sit 24 = .ok (.iaload, 1) := by decide +kernel
theorem dX3_sit_25 : decode cX3_sit 25 = .ok (.iload 4, 2) := by decide +kernel
theorem dX3_sit_27 : decode cX3_sit 27 = .ok (.iand, 1) := by decide +kernel
theorem dX3_sit_28 : decode cX3_sit 28 = .ok (.iload 6, 2) := by decide +kernel
theorem dX3_sit_30 : decode cX3_sit 30 = .ok (.iand, 1) := by decide +kernel
theorem dX3_sit_31 : decode cX3_sit 31 = .ok (.ifCond .eq 29, 3) := by decide +kernel
theorem dX3_sit_34 : decode cX3_sit 34 = .ok (.aload_n 1, 1) := by decide +kernel
theorem dX3_sit_35 : decode cX3_sit 35 = .ok (.iload_n 3, 1) := by decide +kernel
theorem dX3_sit_36 : decode cX3_sit 36 = .ok (.iload 5, 2) := by decide +kernel
theorem dX3_sit_38 : decode cX3_sit 38 = .ok (.iastore, 1) := by decide +kernel
theorem dX3_sit_39 : decode cX3_sit 39 = .ok (.aload_n 0, 1) := by decide +kernel
theorem dX3_sit_40 : decode cX3_sit 40 = .ok (.aload_n 1, 1) := by decide +kernel
theorem dX3_sit_41 : decode cX3_sit 41 = .ok (.iload_n 2, 1) := by decide +kernel
theorem dX3_sit_42 : decode cX3_sit 42 = .ok (.iload_n 3, 1) := by decide +kernel
theorem dX3_sit_43 : decode cX3_sit 43 = .ok (.iconst 1, 1) := by decide +kernel
theorem dX3_sit_44 : decode cX3_sit 44 = .ok (.iadd, 1) := by decide +kernel
theorem dX3_sit_45 : decode cX3_sit 45 = .ok (.iload 4, 2) := by decide +kernel
theorem dX3_sit_47 : decode cX3_sit 47 = .ok (.iload 6, 2) := by decide +kernel
theorem dX3_sit_49 : decode cX3_sit 49 = .ok (.iconst (-1), 1) := by decide +kernel
theorem dX3_sit_50 : decode cX3_sit 50 = .ok (.ixor, 1) := by decide +kernel
theorem dX3_sit_51 : decode cX3_sit 51 = .ok (.iand, 1) := by decide +kernel
theorem dX3_sit_52 : decode cX3_sit 52 = .ok (.invokestatic 33, 3) := by decide +kernel
theorem dX3_sit_55 : decode cX3_sit 55 = .ok (.ifCond .eq 5, 3) := by decide +kernel
theorem dX3_sit_58 : decode cX3_sit 58 = .ok (.iconst 1, 1) := by decide +kernel
theorem dX3_sit_59 : decode cX3_sit 59 = .ok (.ireturn, 1) := by decide +kernel
theorem dX3_sit_60 : decode cX3_sit 60 = .ok (.iinc 5 1, 3) := by decide +kernel
theorem dX3_sit_63 : decode cX3_sit 63 = .ok (.goto (-53), 3) := by decide +kernel
theorem dX3_sit_66 : decode cX3_sit 66 = .ok (.iconst 0, 1) := by decide +kernel
theorem dX3_sit_67 : decode cX3_sit 67 = .ok (.ireturn, 1) := by decide +kernel
theorem dX4_init_0 : decode cX4_init 0 = .ok (.aload_n 0, 1) := by decide +kernel
theorem dX4_init_1 : decode cX4_init 1 = .ok (.invokespecial 3, 3) := by decide +kernel
theorem dX4_init_4 : decode cX4_init 4 = .ok (.aload_n 0, 1) := by decide +kernel
theorem dX4_init_5 : decode cX4_init 5 = .ok (.iconst 2, 1) := by decide +kernel
theorem dX4_init_6 : decode cX4_init 6 = .ok (.putfield 9, 3) := by decide +kernel
theorem dX4_init_9 : decode cX4_init 9 = .ok (.aload_n 0, 1) := by decide +kernel
theorem dX4_init_10 : decode cX4_init 10 = .ok (.iconst 1, 1) := by decide +kernel
theorem dX4_init_11 : decode cX4_init 11 = .ok (.putfield 15, 3) := by decide +kernel
theorem dX4_init_14 : decode cX4_init 14 = .ok (.aload_n 0, 1) := by decide +kernel
theorem dX4_init_15 : decode cX4_init 15 = .ok (.bipush 8, 2) := by decide +kernel
theorem dX4_init_17 : decode cX4_init 17 = .ok (.newarray .int, 2) := by decide +kernel
theorem dX4_init_19 : decode cX4_init 19 = .ok (.putfield 18, 3) := by decide +kernel
theorem dX4_init_22 : decode cX4_init 22 = .ok (.aload_n 0, 1) := by decide +kernel
theorem dX4_init_23 : decode cX4_init 23 = .ok (.new 22, 3) := by decide +kernel
theorem dX4_init_26 : decode cX4_init 26 = .ok (.dup, 1) := by decide +kernel
theorem dX4_init_27 : decode cX4_init 27 = .ok (.invokespecial 24, 3) := by decide +kernel
theorem dX4_init_30 : decode cX4_init 30 = .ok (.putfield 25, 3) := by decide +kernel
theorem dX4_init_33 : decode cX4_init 33 = .ok (.aload_n 0, 1) := by decide +kernel
theorem dX4_init_34 : decode cX4_init 34 = .ok (.bipush 6, 2) := by decide +kernel
theorem dX4_init_36 : decode cX4_init 36 = .ok (.anewarray 29, 3) := by decide +kernel
theorem dX4_init_39 : decode cX4_init 39 = .ok (.putfield 31, 3) := by decide +kernel
theorem dX4_init_42 : decode cX4_init 42 = .ok (.aload_n 0, 1) := by decide +kernel
theorem dX4_init_43 : decode cX4_init 43 = .ok (.bipush 6, 2) := by decide +kernel
theorem dX4_init_45 : decode cX4_init 45 = .ok (.newarray .int, 2) := by decide +kernel
theorem dX4_init_47 : decode cX4_init 47 = .ok (.putfield 35, 3) := by decide +kernel
theorem dX4_init_50 : decode cX4_init 50 = .ok (.aload_n 0, 1) := by decide +kernel
theorem dX4_init_51 : decode cX4_init 51 = .ok (.new 38, 3) := by decide +kernel
theorem dX4_init_54 : decode cX4_init 54 = .ok (.dup, 1) := by decide +kernel
theorem dX4_init_55 : decode cX4_init 55 = .ok (.invokespecial 40, 3) := by decide +kernel
theorem dX4_init_58 : decode cX4_init 58 = .ok (.putfield 41, 3) := by decide +kernel
theorem dX4_init_61 : decode cX4_init 61 = .ok (.aload_n 0, 1) := by decide +kernel
theorem dX4_init_62 : decode cX4_init 62 = .ok (.aload_n 1, 1) := by decide +kernel
theorem dX4_init_63 : decode cX4_init 63 = .ok (.putfield 45, 3) := by decide +kernel
theorem dX4_init_66 : decode cX4_init 66 = .ok (.iconst 0, 1) := by decide +kernel
theorem dX4_init_67 : decode cX4_init 67 = .ok (.istore_n 2, 1) := by decide +kernel
theorem dX4_init_68 : decode cX4_init 68 = .ok (.iload_n 2, 1) := by decide +kernel
theorem dX4_init_69 : decode cX4_init 69 = .ok (.bipush 8, 2) := by decide +kernel
theorem dX4_init_71 : decode cX4_init 71 = .ok (.if_icmp .ge 17, 3) := by decide +kernel
theorem dX4_init_74 : decode cX4_init 74 = .ok (.aload_n 0, 1) := by decide +kernel
theorem dX4_init_75 : decode cX4_init 75 = .ok (.getfield 18, 3) := by decide +kernel
theorem dX4_init_78 : decode cX4_init 78 = .ok (.iload_n 2, 1) := by decide +kernel
theorem dX4_init_79 : decode cX4_init 79 = .ok (.bipush 15, 2) := by decide +kernel
theorem dX4_init_81 : decode cX4_init 81 = .ok (.iastore, 1) := by decide +kernel
theorem dX4_init_82 : decode cX4_init 82 = .ok (.iinc 2 1, 3) := by decide +kernel
theorem dX4_init_85 : decode cX4_init 85 = .ok (.goto (-17), 3) := by decide +kernel
theorem dX4_init_88 : decode cX4_init 88 = .ok (.iconst 0, 1) := by decide +kernel
theorem dX4_init_89 : decode cX4_init 89 = .ok (.istore_n 2, 1) := by decide +kernel
theorem dX4_init_90 : decode cX4_init 90 = .ok (.iload_n 2, 1) := by decide +kernel
theorem dX4_init_91 : decode cX4_init 91 = .ok (.bipush 6, 2) := by decide +kernel
theorem dX4_init_93 : decode cX4_init 93 = .ok (.if_icmp .ge 22, 3) := by decide +kernel
theorem dX4_init_96 : decode cX4_init 96 = .ok (.aload_n 0, 1) := by decide +kernel
theorem dX4_init_97 : decode cX4_init 97 = .ok (.getfield 31, 3) := by decide +kernel
theorem dX4_init_100 : decode cX4_init 100 = .ok (.iload_n 2, 1) := by decide +kernel
theorem dX4_init_101 : decode cX4_init 101 = .ok (.new 29, 3) := by decide +kernel
theorem dX4_init_104 : decode cX4_init 104 = .ok (.dup, 1) := by decide +kernel
theorem dX4_init_105 : decode cX4_init 105 = .ok (.invokespecial 49, 3) := by decide +kernel
theorem dX4_init_108 : decode cX4_init 108 = .ok (.aastore, 1) := by decide +kernel
theorem dX4_init_109 : decode cX4_init 109 = .ok (.iinc 2 1, 3) := by decide +kernel
theorem dX4_init_112 : decode cX4_init 112 = .ok (.goto (-22), 3) := by decide +kernel
theorem dX4_init_115 : decode cX4_init 115 = .ok (.return_, 1) := by decide +kernel
theorem dX4_become_0 : decode cX4_become 0 = .ok (.aload_n 0, 1) := by decide +kernel
theorem dX4_become_1 : decode cX4_become 1 = .ok (.aload_n 1, 1) := by decide +kernel
theorem dX4_become_2 : decode cX4_become 2 = .ok (.getfield 9, 3) := by decide +kernel
theorem dX4_become_5 : decode cX4_become 5 = .ok (.putfield 9, 3) := by decide +kernel
theorem dX4_become_8 : decode cX4_become 8 = .ok (.aload_n 0, 1) := by decide +kernel
theorem dX4_become_9 : decode cX4_become 9 = .ok (.aload_n 1, 1) := by decide +kernel
theorem dX4_become_10 : decode cX4_become 10 = .ok (.getfield 15, 3) := by decide +kernel
theorem dX4_become_13 : decode cX4_become 13 = .ok (.putfield 15, 3) := by decide +kernel
theorem dX4_become_16 : decode cX4_become 16 = .ok (.aload_n 0, 1) := by decide +kernel
theorem dX4_become_17 : decode cX4_become 17 = .ok (.aload_n 1, 1) := by decide +kernel
theorem dX4_become_18 : decode cX4_become 18 = .ok (.getfield 50, 3) := by decide +kernel
theorem dX4_become_21 : decode cX4_become 21 = .ok (.putfield 50, 3) := by decide +kernel
theorem dX4_become_24 : decode cX4_become 24 = .ok (.aload_n 0, 1) := by decide +kernel
theorem dX4_become_25 : decode cX4_become 25 = .ok (.aload_n 1, 1) := by decide +kernel
theorem dX4_become_26 : decode cX4_become 26 = .ok (.getfield 53, 3) := by decide +kernel
theorem dX4_become_29 : decode cX4_become 29 = .ok (.putfield 53, 3) := by decide +kernel
theorem dX4_become_32 : decode cX4_become 32 = .ok (.aload_n 0, 1) := by decide +kernel
theorem dX4_become_33 : decode cX4_become 33 = .ok (.aload_n 1, 1) := by decide +kernel
theorem dX4_become_34 : decode cX4_become 34 = .ok (.getfield 56, 3) := by decide +kernel
theorem dX4_become_37 : decode cX4_become 37 = .ok (.putfield 56, 3) := by decide +kernel
theorem dX4_become_40 : decode cX4_become 40 = .ok (.aload_n 1, 1) := by decide +kernel
theorem dX4_become_41 : decode cX4_become 41 = .ok (.getfield 18, 3) := by decide +kernel
theorem dX4_become_44 : decode cX4_become 44 = .ok (.aload_n 0, 1) := by decide +kernel
theorem dX4_become_45 : decode cX4_become 45 = .ok (.getfield 18, 3) := by decide +kernel
theorem dX4_become_48 : decode cX4_become 48 = .ok (.invokestatic 59, 3) := by decide +kernel
theorem dX4_become_51 : decode cX4_become 51 = .ok (.aload_n 0, 1) := by decide +kernel
theorem dX4_become_52 : decode cX4_become 52 = .ok (.getfield 25, 3) := by decide +kernel
theorem dX4_become_55 : decode cX4_become 55 = .ok (.aload_n 1, 1) := by decide +kernel
theorem dX4_become_56 : decode cX4_become 56 = .ok (.getfield 25, 3) := by decide +kernel
theorem dX4_become_59 : decode cX4_become 59 = .ok (.invokevirtual 63, 3) := by decide +kernel
theorem dX4_become_62 : decode cX4_become 62 = .ok (.iconst 0, 1) := by decide +kernel
theorem dX4_become_63 : decode cX4_become 63 = .ok (.istore_n 2, 1) := by decide +kernel
theorem dX4_become_64 : decode cX4_become 64 = .ok (.iload_n 2, 1) := by decide +kernel
theorem dX4_become_65 : decode cX4_become 65 = .ok (.aload_n 0, 1) := by decide +kernel
theorem dX4_become_66 : decode cX4_become 66 = .ok (.getfield 53, 3) := by decide +kernel
theorem dX4_become_69 : decode cX4_become 69 = .ok (.if_icmp .ge 24, 3) := by decide +kernel
theorem dX4_become_72 : decode cX4_become 72 = .ok (.aload_n 0, 1) := by decide +kernel
theorem dX4_become_73 : decode cX4_become 73 = .ok (.getfield 31, 3) := by decide +kernel
theorem dX4_become_76 : decode cX4_become 76 = .ok (.iload_n 2, 1) := by decide +kernel
theorem dX4_become_77 : decode cX4_become 77 = .ok (.aaload, 1) := by decide +kernel
theorem dX4_become_78 : decode cX4_become 78 = .ok (.aload_n 1, 1) := by decide +kernel
theorem dX4_become_79 : decode cX4_become 79 = .ok (.getfield 31, 3) := by decide +kernel
theorem dX4_become_82 : decode cX4_become 82 = .ok (.iload_n 2, 1) := by decide +kernel
theorem dX4_become_83 : decode cX4_become 83 = .ok (.aaload, 1) := by decide +kernel
theorem dX4_become_84 : decode cX4_become 84 = .ok (.invokevirtual 67, 3) := by decide +kernel
theorem dX4_become_87 : decode cX4_become 87 = .ok (.iinc 2 1, 3) := by decide +kernel
theorem dX4_become_90 : decode cX4_become 90 = .ok (.goto (-26), 3) := by decide +kernel
theorem dX4_become_93 : decode cX4_become 93 = .ok (.aload_n 1, 1) := by decide +kernel
theorem dX4_become_94 : decode cX4_become 94 = .ok (.getfield 35, 3) := by decide +kernel
theorem dX4_become_97 : decode cX4_become 97 = .ok (.aload_n 0, 1) := by decide +kernel
theorem dX4_become_98 : decode cX4_become 98 = .ok (.getfield 35, 3) := by decide +kernel
theorem dX4_become_101 : decode cX4_become 101 = .ok (.invokestatic 59, 3) := by decide +kernel
theorem dX4_become_104 : decode cX4_become 104 = .ok (.aload_n 0, 1) := by decide +kernel
theorem dX4_become_105 : decode cX4_become 105 = .ok (.getfield 41, 3) := by decide +kernel
theorem dX4_become_108 : decode cX4_become 108 = .ok (.aload_n 1, 1) := by decide +kernel
theorem dX4_become_109 : decode cX4_become 109 = .ok (.getfield 41, 3) := by decide +kernel
theorem dX4_become_112 : decode cX4_become 112 = .ok (.invokevirtual 70, 3) := by decide +kernel
theorem dX4_become_115 : decode cX4_become 115 = .ok (.return_, 1) := by decide +kernel
theorem dX4_hasGroup_0 : decode cX4_hasGroup 0 = .ok (.iload_n 1, 1) := by decide +kernel
theorem dX4_hasGroup_1 : decode cX4_hasGroup 1 = .ok (.iconst 0, 1) := by decide +kernel
theorem dX4_hasGroup_2 : decode cX4_hasGroup 2 = .ok (.aload_n 0, 1) := by decide +kernel
theorem dX4_hasGroup_3 : decode cX4_hasGroup 3 = .ok (.getfield 53, 3) := by decide +kernel
theorem dX4_hasGroup_6 : decode cX4_hasGroup 6 = .ok (.iconst 1, 1) := by decide +kernel
theorem dX4_hasGroup_7 : decode cX4_hasGroup 7 = .ok (.isub, 1) := by decide +kernel
theorem dX4_hasGroup_8 : decode cX4_hasGroup 8 = .ok (.invokestatic 73, 3) := by decide +kernel
theorem dX4_hasGroup_11 : decode cX4_hasGroup 11 = .ok (.ireturn, 1) := by decide +kernel
theorem dX4_hasEvent_0 : decode cX4_hasEvent 0 = .ok (.aload_n 0, 1) := by decide +kernel
theorem dX4_hasEvent_1 : decode cX4_hasEvent 1 = .ok (.iload_n 1, 1) := by decide +kernel
theorem dX4_hasEvent_2 : decode cX4_hasEvent 2 = .ok (.invokevirtual 77, 3) := by decide +kernel
theorem dX4_hasEvent_5 : decode cX4_hasEvent 5 = .ok (.ifCond .eq 20, 3) := by decide +kernel
theorem dX4_hasEvent_8 : decode cX4_hasEvent 8 = .ok (.aload_n 0, 1) := by decide +kernel
theorem dX4_hasEvent_9 : decode cX4_hasEvent 9 = .ok (.getfield 31, 3) := by decide +kernel
theorem dX4_hasEvent_12 : decode cX4_hasEvent 12 = .ok (.iload_n 1, 1) := by decide +kernel
theorem dX4_hasEvent_13 : decode cX4_hasEvent 13 = .ok (.aaload, 1) := by decide +kernel
theorem dX4_hasEvent_14 : decode cX4_hasEvent 14 = .ok (.iload_n 2, 1) := by decide +kernel
theorem dX4_hasEvent_15 : decode cX4_hasEvent 15 = .ok (.invokevirtual 81, 3) := by decide +kernel
theorem dX4_hasEvent_18 : decode cX4_hasEvent 18 = .ok (.ifCond .eq 7, 3) := by decide +kernel
theorem dX4_hasEvent_21 : decode cX4_hasEvent 21 = .ok (.iconst 1, 1) := by decide +kernel
theorem dX4_hasEvent_22 : decode cX4_hasEvent 22 = .ok (.goto 4, 3) := by decide +kernel
theorem dX4_hasEvent_25 : decode cX4_hasEvent 25 = .ok (.iconst 0, 1) := by decide +kernel
theorem dX4_hasEvent_26 : decode cX4_hasEvent 26 = .ok (.ireturn, 1) := by decide +kernel
theorem dX4_putCounters_0 : decode cX4_putCounters 0 = .ok (.iload_n 1, 1) := by decide +kernel
theorem dX4_putCounters_1 : decode cX4_putCounters 1 = .ok (.iconst 1, 1) := by decide +kernel
theorem dX4_putCounters_2 : decode cX4_putCounters 2 = .ok (.iconst 4, 1) := by decide +kernel
theorem dX4_putCounters_3 : decode cX4_putCounters 3 = .ok (.invokestatic 73, 3) := by decide +kernel
theorem dX4_putCounters_6 : decode cX4_putCounters 6 = .ok (.ifCond .ne 6, 3) := by decide +kernel
theorem dX4_putCounters_9 : decode cX4_putCounters 9 = .ok (.bipush (-2), 2) := by decide +kernel
theorem dX4_putCounters_11 : decode cX4_putCounters 11 = .ok (.ireturn, 1) := by decide +kernel
theorem dX4_putCounters_12 : decode cX4_putCounters 12 = .ok (.aload_n 0, 1) := by decide +kernel
theorem dX4_putCounters_13 : decode cX4_putCounters 13 = .ok (.getfield 9, 3) := by decide +kernel
theorem dX4_putCounters_16 : decode cX4_putCounters 16 = .ok (.istore_n 2, 1) := by decide +kernel
theorem dX4_putCounters_17 : decode cX4_putCounters 17 = .ok (.aload_n 0, 1) := by decide +kernel
theorem dX4_putCounters_18 : decode cX4_putCounters 18 = .ok (.iload_n 1, 1) := by decide +kernel
theorem dX4_putCounters_19 : decode cX4_putCounters 19 = .ok (.putfield 9, 3) := by decide +kernel
theorem dX4_putCounters_22 : decode cX4_putCounters 22 = .ok (.iload_n 2, 1) := by decide +kernel
theorem dX4_putCounters_23 : decode cX4_putCounters 23 = .ok (.ireturn, 1) := by decide +kernel
theorem dX4_putMask_0 : decode cX4_putMask 0 = .ok (.iload_n 1, 1) := by decide +kernel
theorem dX4_putMask_1 : decode cX4_putMask 1 = .ok (.iconst 0, 1) := by decide +kernel
theorem dX4_putMask_2 : decode cX4_putMask 2 = .ok (.bipush 7, 2) := by decide +kernel
theorem dX4_putMask_4 : decode cX4_putMask 4 = .ok (.invokestatic 73, 3) := by decide +kernel
theorem dX4_putMask_7 : decode cX4_putMask 7 = .ok (.ifCond .eq 13, 3) := by decide +kernel
theorem dX4_putMask_10 : decode cX4_putMask 10 = .ok (.iload_n 2, 1) := by decide +kernel
theorem dX4_putMask_11 : decode cX4_putMask 11 = .ok (.iconst 0, 1) := by decide +kernel
theorem dX4_putMask_12 : decode cX4_putMask 12 = .ok (.bipush 15, 2) := by decide +kernel
theorem dX4_putMask_14 : decode cX4_putMask 14 = .ok (.invokestatic 73, 3) := by decide +kernel
theorem dX4_putMask_17 : decode cX4_putMask 17 = .ok (.ifCond .ne 6, 3) := by decide +kernel
theorem dX4_putMask_20 : decode cX4_putMask 20 = .ok (.bipush (-2), 2) := by decide +kernel
theorem dX4_putMask_22 : decode cX4_putMask 22 = .ok (.ireturn, 1) := by decide +kernel
theorem dX4_putMask_23 : decode cX4_putMask 23 = .ok (.aload_n 0, 1) := by decide +kernel
theorem dX4_putMask_24 : decode cX4_putMask 24 = .ok (.getfield 18, 3) := by decide +kernel
theorem dX4_putMask_27 : decode cX4_putMask 27 = .ok (.iload_n 1, 1) := by decide +kernel
theorem dX4_putMask_28 : decode cX4_putMask 28 = .ok (.iaload, 1) := by decide +kernel
theorem dX4_putMask_29 : decode cX4_putMask 29 = .ok (.istore_n 3, 1) := by decide +kernel
theorem dX4_putMask_30 : decode cX4_putMask 30 = .ok (.aload_n 0, 1) := by decide +kernel
theorem dX4_putMask_31 : decode cX4_putMask 31 = .ok (.getfield 18, 3) := by decide +kernel
theorem dX4_putMask_34 : decode cX4_putMask 34 = .ok (.iload_n 1, 1) := by decide +kernel
theorem dX4_putMask_35 : decode cX4_putMask 35 = .ok (.iload_n 2, 1) := by decide +kernel
theorem dX4_putMask_36 : decode cX4_putMask 36 = .ok (.iastore, 1) := by decide +kernel
theorem dX4_putMask_37 : decode cX4_putMask 37 = .ok (.iload_n 3, 1) := by decide +kernel
theorem dX4_putMask_38 : decode cX4_putMask 38 = .ok (.ireturn, 1) := by decide +kernel
theorem dX4_endTask_0 : decode cX4_endTask 0 = .ok (.aload_n 0, 1) := by decide +kernel
theorem dX4_endTask_1 : decode cX4_endTask 1 = .ok (.getfield 25, 3) := by decide +kernel
theorem dX4_endTask_4 : decode cX4_endTask 4 = .ok (.iload_n 1, 1) := by decide +kernel
theorem dX4_endTask_5 : decode cX4_endTask 5 = .ok (.invokevirtual 84, 3) := by decide +kernel
theorem dX4_endTask_8 : decode cX4_endTask 8 = .ok (.ifCond .eq 7, 3) := by decide +kernel
theorem dX4_endTask_11 : decode cX4_endTask 11 = .ok (.iload_n 1, 1) := by decide +kernel
theorem dX4_endTask_12 : decode cX4_endTask 12 = .ok (.ifCond .ne 6, 3) := by decide +kernel
theorem dX4_endTask_15 : decode cX4_endTask 15 = .ok (.bipush (-2), 2) := by decide +kernel
theorem dX4_endTask_17 : decode cX4_endTask 17 = .ok (.ireturn, 1) := by decide +kernel
theorem dX4_endTask_18 : decode cX4_endTask 18 = .ok (.aload_n 0, 1) := by decide +kernel
theorem dX4_endTask_19 : decode cX4_endTask 19 = .ok (.getfield 25, 3) := by decide +kernel
theorem dX4_endTask_22 : decode cX4_endTask 22 = .ok (.iload_n 1, 1) := by decide +kernel
theorem dX4_endTask_23 : decode cX4_endTask 23 = .ok (.invokevirtual 87, 3) := by decide +kernel
theorem dX4_endTask_26 : decode cX4_endTask 26 = .ok (.ifCond .ne 14, 3) := by decide +kernel
theorem dX4_endTask_29 : decode cX4_endTask 29 = .ok (.aload_n 0, 1) := by decide +kernel
theorem dX4_endTask_30 : decode cX4_endTask 30 = .ok (.getfield 25, 3) := by decide +kernel
theorem dX4_endTask_33 : decode cX4_endTask 33 = .ok (.iload_n 1, 1) := by decide +kernel
theorem dX4_endTask_34 : decode cX4_endTask 34 = .ok (.invokevirtual 90, 3) := by decide +kernel
theorem dX4_endTask_37 : decode cX4_endTask 37 = .ok (.ifCond .eq 6, 3) := by decide +kernel
theorem dX4_endTask_40 : decode cX4_endTask 40 = .ok (.bipush (-3), 2) := by decide +kernel
theorem dX4_endTask_42 : decode cX4_endTask 42 = .ok (.ireturn, 1) := by decide +kernel
theorem dX4_endTask_43 : decode cX4_endTask 43 = .ok (.aload_n 0, 1) := by decide +kernel
theorem dX4_endTask_44 : decode cX4_endTask 44 = .ok (.getfield 25, 3) := by decide +kernel
theorem dX4_endTask_47 : decode cX4_endTask 47 = .ok (.getfield 93, 3) := by decide +kernel
theorem dX4_endTask_50 : decode cX4_endTask 50 = .ok (.iload_n 1, 1) := by decide +kernel
theorem dX4_endTask_51 : decode cX4_endTask 51 = .ok (.iaload, 1) := by decide +kernel
theorem dX4_endTask_52 : decode cX4_endTask 52 = .ok (.istore_n 2, 1) := by decide +kernel
theorem dX4_endTask_53 : decode cX4_endTask 53 = .ok (.aload_n 0, 1) := by decide +kernel
theorem dX4_endTask_54 : decode cX4_endTask 54 = .ok (.getfield 25, 3) := by decide +kernel
theorem dX4_endTask_57 : decode cX4_endTask 57 = .ok (.getfield 96, 3) := by decide +kernel
theorem dX4_endTask_60 : decode cX4_endTask 60 = .ok (.iload_n 1, 1) := by decide +kernel
theorem dX4_endTask_61 : decode cX4_endTask 61 = .ok (.iconst 1, 1) := by decide +kernel
theorem dX4_endTask_62 : decode cX4_endTask 62 = .ok (.iastore, 1) := by decide +kernel
theorem dX4_endTask_63 : decode cX4_endTask 63 = .ok (.iconst 0, 1) := by decide +kernel
theorem dX4_endTask_64 : decode cX4_endTask 64 = .ok (.istore_n 3, 1) := by decide +kernel
theorem dX4_endTask_65 : decode cX4_endTask 65 = .ok (.iload_n 3, 1) := by decide +kernel
theorem dX4_endTask_66 : decode cX4_endTask 66 = .ok (.aload_n 0, 1) := by decide +kernel
theorem dX4_endTask_67 : decode cX4_endTask 67 = .ok (.getfield 53, 3) := by decide +kernel
theorem dX4_endTask_70 : decode cX4_endTask 70 = .ok (.if_icmp .ge 20, 3) := by decide +kernel
theorem dX4_endTask_73 : decode cX4_endTask 73 = .ok (.aload_n 0, 1) := by decide +kernel
theorem dX4_endTask_74 : decode cX4_endTask 74 = .ok (.getfield 31, 3) := by decide +kernel
theorem dX4_endTask_77 : decode cX4_endTask 77 = .ok (.iload_n 3, 1) := by decide +kernel
theorem dX4_endTask_78 : decode cX4_endTask 78 = .ok (.aaload, 1) := by decide +kernel
theorem dX4_endTask_79 : decode cX4_endTask 79 = .ok (.iload_n 1, 1) := by decide +kernel
theorem dX4_endTask_80 : decode cX4_endTask 80 = .ok (.iload_n 2, 1) := by decide +kernel
theorem dX4_endTask_81 : decode cX4_endTask 81 = .ok (.invokevirtual 99, 3) := by decide +kernel
theorem dX4_endTask_84 : decode cX4_endTask 84 = .ok (.iinc 3 1, 3) := by decide +kernel
theorem dX4_endTask_87 : decode cX4_endTask 87 = .ok (.goto (-22), 3) := by decide +kernel
theorem dX4_endTask_90 : decode cX4_endTask 90 = .ok (.iload_n 2, 1) := by decide +kernel
theorem dX4_endTask_91 : decode cX4_endTask 91 = .ok (.ireturn, 1) := by decide +kernel
theorem dX4_addGroup_0 : decode cX4_addGroup 0 = .ok (.aload_n 0, 1) := by decide +kernel
theorem dX4_addGroup_1 : decode cX4_addGroup 1 = .ok (.getfield 25, 3) := by decide +kernel
theorem dX4_addGroup_4 : decode cX4_addGroup 4 = .ok (.iload_n 1, 1) := by decide +kernel
theorem dX4_addGroup_5 : decode cX4_addGroup 5 = .ok (.invokevirtual 84, 3) := by decide +kernel
theorem dX4_addGroup_8 : decode cX4_addGroup 8 = .ok (.ifCond .eq 42, 3) := by decide +kernel
theorem dX4_addGroup_11 : decode cX4_addGroup 11 = .ok (.iload_n 2, 1) := by decide +kernel
theorem dX4_addGroup_12 : decode cX4_addGroup 12 = .ok (.iconst 1, 1) := by decide +kernel
theorem dX4_addGroup_13 : decode cX4_addGroup 13 = .ok (.iconst 5, 1) := by decide +kernel
theorem dX4_addGroup_14 : decode cX4_addGroup 14 = .ok (.invokestatic 73, 3) := by decide +kernel
theorem dX4_addGroup_17 : decode cX4_addGroup 17 = .ok (.ifCond .eq 33, 3) := by decide +kernel
theorem dX4_addGroup_20 : decode cX4_addGroup 20 = .ok (.iload_n 3, 1) := by decide +kernel
theorem dX4_addGroup_21 : decode cX4_addGroup 21 = .ok (.iconst 0, 1) := by decide +kernel
theorem dX4_addGroup_22 : decode cX4_addGroup 22 = .ok (.iconst 1, 1) := by decide +kernel
theorem dX4_addGroup_23 : decode cX4_addGroup 23 = .ok (.invokestatic 73, 3) := by decide +kernel
theorem dX4_addGroup_26 : decode cX4_addGroup 26 = .ok (.ifCond .eq 24, 3) := by decide +kernel
theorem dX4_addGroup_29 : decode cX4_addGroup 29 = .ok (.iload 4, 2) := by decide +kernel
theorem dX4_addGroup_31 : decode cX4_addGroup 31 = .ok (.iconst 0, 1) := by decide +kernel
theorem dX4_addGroup_32 : decode cX4_addGroup 32 = .ok (.iconst 1, 1) := by decide +kernel
theorem dX4_addGroup_33 : decode cX4_addGroup 33 = .ok (.invokestatic 73, 3) := by decide +kernel
theorem dX4_addGroup_36 : decode cX4_addGroup 36 = .ok (.ifCond .eq 14, 3) := by decide +kernel
theorem dX4_addGroup_39 : decode cX4_addGroup 39 = .ok (.iload 5, 2) := by decide +kernel
theorem dX4_addGroup_41 : decode cX4_addGroup 41 = .ok (.iconst 0, 1) := by decide +kernel
theorem dX4_addGroup_42 : decode cX4_addGroup 42 = .ok (.bipush 7, 2) := by decide +kernel
theorem dX4_addGroup_44 : decode cX4_addGroup 44 = .ok (.invokestatic 73, 3) := by decide +kernel
theorem dX4_addGroup_47 : decode cX4_addGroup 47 = .ok (.ifCond .ne 6, 3) := by decide +kernel
theorem dX4_addGroup_50 : decode cX4_addGroup 50 = .ok (.bipush (-2), 2) := by decide +kernel
theorem dX4_addGroup_52 : decode cX4_addGroup 52 = .ok (.ireturn, 1) := by decide +kernel
theorem dX4_addGroup_53 : decode cX4_addGroup 53 = .ok (.aload_n 0, 1) := by decide +kernel
theorem dX4_addGroup_54 : decode cX4_addGroup 54 = .ok (.getfield 53, 3) := by decide +kernel
theorem dX4_addGroup_57 : decode cX4_addGroup 57 = .ok (.bipush 6, 2) := by decide +kernel
theorem dX4_addGroup_59 : decode cX4_addGroup 59 = .ok (.if_icmp .lt 6, 3) := by decide +kernel
theorem dX4_addGroup_62 : decode cX4_addGroup 62 = .ok (.bipush (-4), 2) := by decide +kernel
theorem dX4_addGroup_64 : decode cX4_addGroup 64 = .ok (.ireturn, 1) := by decide +kernel
theorem dX4_addGroup_65 : decode cX4_addGroup 65 = .ok (.aload_n 0, 1) := by decide +kernel
theorem dX4_addGroup_66 : decode cX4_addGroup 66 = .ok (.getfield 53, 3) := by decide +kernel
theorem dX4_addGroup_69 : decode cX4_addGroup 69 = .ok (.istore 6, 2) := by decide +kernel
theorem dX4_addGroup_71 : decode cX4_addGroup 71 = .ok (.aload_n 0, 1) := by decide +kernel
theorem dX4_addGroup_72 : decode cX4_addGroup 72 = .ok (.dup, 1) := by decide +kernel
theorem dX4_addGroup_73 : decode cX4_addGroup 73 = .ok (.getfield 53, 3) := by decide +kernel
theorem dX4_addGroup_76 : decode cX4_addGroup 76 = .ok (.iconst 1, 1) := by decide +kernel
theorem dX4_addGroup_77 : decode cX4_addGroup 77 = .ok (.iadd, 1) := by decide +kernel
theorem dX4_addGroup_78 : decode cX4_addGroup 78 = .ok (.putfield 53, 3) := by decide +kernel
theorem dX4_addGroup_81 : decode cX4_addGroup 81 = .ok (.aload_n 0, 1) := by decide +kernel
theorem dX4_addGroup_82 : decode cX4_addGroup 82 = .ok (.getfield 31, 3) := by decide +kernel
theorem dX4_addGroup_85 : decode cX4_addGroup 85 = .ok (.iload 6, 2) := by decide +kernel
theorem dX4_addGroup_87 : decode cX4_addGroup 87 = .ok (.aaload, 1) := by decide +kernel
theorem dX4_addGroup_88 : decode cX4_addGroup 88 = .ok (.iload_n 1, 1) := by decide +kernel
theorem dX4_addGroup_89 : decode cX4_addGroup 89 = .ok (.iload_n 2, 1) := by decide +kernel
theorem dX4_addGroup_90 : decode cX4_addGroup 90 = .ok (.iload_n 3, 1) := by decide +kernel
theorem dX4_addGroup_91 : decode cX4_addGroup 91 = .ok (.iconst 1, 1) := by decide +kernel
theorem dX4_addGroup_92 : decode cX4_addGroup 92 = .ok (.if_icmp .ne 7, 3) := by decide +kernel
theorem dX4_addGroup_95 : decode cX4_addGroup 95 = .ok (.iconst 1, 1) := by decide +kernel
theorem dX4_addGroup_96 : decode cX4_addGroup 96 = .ok (.goto 4, 3) := by decide +kernel
theorem dX4_addGroup_99 : decode cX4_addGroup 99 = .ok (.iconst 0, 1) := by decide +kernel
theorem dX4_addGroup_100 : decode cX4_addGroup 100 = .ok (.iload 4, 2) := by decide +kernel
theorem dX4_addGroup_102 : decode cX4_addGroup 102 = .ok (.iconst 1, 1) := by decide +kernel
theorem dX4_addGroup_103 : decode cX4_addGroup 103 = .ok (.if_icmp .ne 7, 3) := by decide +kernel
theorem dX4_addGroup_106 : decode cX4_addGroup 106 = .ok (.iconst 1, 1) := by decide +kernel
theorem dX4_addGroup_107 : decode cX4_addGroup 107 = .ok (.goto 4, 3) := by decide +kernel
theorem dX4_addGroup_110 : decode cX4_addGroup 110 = .ok (.iconst 0, 1) := by decide +kernel
theorem dX4_addGroup_111 : decode cX4_addGroup 111 = .ok (.invokevirtual 103, 3) := by decide +kernel
theorem dX4_addGroup_114 : decode cX4_addGroup 114 = .ok (.aload_n 0, 1) := by decide +kernel
theorem dX4_addGroup_115 : decode cX4_addGroup 115 = .ok (.getfield 31, 3) := by decide +kernel
theorem dX4_addGroup_118 : decode cX4_addGroup 118 = .ok (.iload 6, 2) := by decide +kernel
theorem dX4_addGroup_120 : decode cX4_addGroup 120 = .ok (.aaload, 1) := by decide +kernel
theorem dX4_addGroup_121 : decode cX4_addGroup 121 = .ok (.iload 5, 2) := by decide +kernel
theorem dX4_addGroup_123 : decode cX4_addGroup 123 = .ok (.invokevirtual 107, 3) := by decide +kernel
theorem dX4_addGroup_126 : decode cX4_addGroup 126 = .ok (.pop, 1) := by decide +kernel
theorem dX4_addGroup_127 : decode cX4_addGroup 127 = .ok (.iload_n 3, 1) := by decide +kernel
theorem dX4_addGroup_128 : decode cX4_addGroup 128 = .ok (.ifCond .ne 33, 3) := by decide +kernel
theorem dX4_addGroup_131 : decode cX4_addGroup 131 = .ok (.aload_n 0, 1) := by decide +kernel
theorem dX4_addGroup_132 : decode cX4_addGroup 132 = .ok (.getfield 56, 3) := by decide +kernel
theorem dX4_addGroup_135 : decode cX4_addGroup 135 = .ok (.bipush 6, 2) := by decide +kernel
theorem dX4_addGroup_137 : decode cX4_addGroup 137 = .ok (.if_icmp .ge 24, 3) := by decide +kernel
theorem dX4_addGroup_140 : decode cX4_addGroup 140 = .ok (.aload_n 0, 1) := by decide +kernel
theorem dX4_addGroup_141 : decode cX4_addGroup 141 = .ok (.getfield 35, 3) := by decide +kernel
theorem dX4_addGroup_144 : decode cX4_addGroup 144 = .ok (.aload_n 0, 1) := by decide +kernel
theorem dX4_addGroup_145 : decode cX4_addGroup 145 = .ok (.getfield 56, 3) := by decide +kernel
theorem dX4_addGroup_148 : decode cX4_addGroup 148 = .ok (.iload 6, 2) := by decide +kernel
theorem dX4_addGroup_150 : decode cX4_addGroup 150 = .ok (.iastore, 1) := by decide +kernel
theorem dX4_addGroup_151 : decode cX4_addGroup 151 = .ok (.aload_n 0, 1) := by decide +kernel
theorem dX4_addGroup_152 : decode cX4_addGroup 152 = .ok (.dup, 1) := by decide +kernel
theorem dX4_addGroup_153 : decode cX4_addGroup 153 = .ok (.getfield 56, 3) := by decide +kernel
theorem dX4_addGroup_156 : decode cX4_addGroup 156 = .ok (.iconst 1, 1) := by decide +kernel
theorem dX4_addGroup_157 : decode cX4_addGroup 157 = .ok (.iadd, 1) := by decide +kernel
theorem dX4_addGroup_158 : decode cX4_addGroup 158 = .ok (.putfield 56, 3) := by decide +kernel
theorem dX4_addGroup_161 : decode cX4_addGroup 161 = .ok (.iload 6, 2) := by decide +kernel
theorem dX4_addGroup_163 : decode cX4_addGroup 163 = .ok (.ireturn, 1) := by decide +kernel
theorem dX4_addEvent_0 : decode cX4_addEvent 0 = .ok (.aload_n 0, 1) := by decide +kernel
theorem dX4_addEvent_1 : decode cX4_addEvent 1 = .ok (.iload_n 1, 1) := by decide +kernel
theorem dX4_addEvent_2 : decode cX4_addEvent 2 = .ok (.invokevirtual 77, 3) := by decide +kernel
theorem dX4_addEvent_5 : decode cX4_addEvent 5 = .ok (.ifCond .eq 13, 3) := by decide +kernel
theorem dX4_addEvent_8 : decode cX4_addEvent 8 = .ok (.iload_n 2, 1) := by decide +kernel
theorem dX4_addEvent_9 : decode cX4_addEvent 9 = .ok (.iconst 0, 1) := by decide +kernel
theorem dX4_addEvent_10 : decode cX4_addEvent 10 = .ok (.bipush 7, 2) := by decide +kernel
theorem dX4_addEvent_12 : decode cX4_addEvent 12 = .ok (.invokestatic 73, 3) := by decide +kernel
theorem dX4_addEvent_15 : decode cX4_addEvent 15 = .ok (.ifCond .ne 6, 3) := by decide +kernel
theorem dX4_addEvent_18 : decode cX4_addEvent 18 = .ok (.bipush (-2), 2) := by decide +kernel
theorem dX4_addEvent_20 : decode cX4_addEvent 20 = .ok (.ireturn, 1) := by decide +kernel
theorem dX4_addEvent_21 : decode cX4_addEvent 21 = .ok (.aload_n 0, 1) := by decide +kernel
theorem dX4_addEvent_22 : decode cX4_addEvent 22 = .ok (.getfield 31, 3) := by decide +kernel
theorem dX4_addEvent_25 : decode cX4_addEvent 25 = .ok (.iload_n 1, 1) := by decide +kernel
theorem dX4_addEvent_26 : decode cX4_addEvent 26 = .ok (.aaload, 1) := by decide +kernel
theorem dX4_addEvent_27 : decode cX4_addEvent 27 = .ok (.iload_n 2, 1) := by decide +kernel
theorem dX4_addEvent_28 : decode cX4_addEvent 28 = .ok (.invokevirtual 107, 3) := by decide +kernel
theorem dX4_addEvent_31 : decode cX4_addEvent 31 = .ok (.ireturn, 1) := by decide +kernel
theorem dX4_putPeriod_0 : decode cX4_putPeriod 0 = .ok (.aload_n 0, 1) := by decide +kernel
theorem dX4_putPeriod_1 : decode cX4_putPeriod 1 = .ok (.iload_n 1, 1) := by decide +kernel
theorem dX4_putPeriod_2 : decode cX4_putPeriod 2 = .ok (.invokevirtual 77, 3) := by decide +kernel
theorem dX4_putPeriod_5 : decode cX4_putPeriod 5 = .ok (.ifCond .eq 19, 3) := by decide +kernel
theorem dX4_putPeriod_8 : decode cX4_putPeriod 8 = .ok (.iload_n 2, 1) := by decide +kernel
theorem dX4_putPeriod_9 : decode cX4_putPeriod 9 = .ok (.ifCond .eq 18, 3) := by decide +kernel
theorem dX4_putPeriod_12 : decode cX4_putPeriod 12 = .ok (.iload_n 2, 1) := by decide +kernel
theorem dX4_putPeriod_13 : decode cX4_putPeriod 13 = .ok (.bipush 30, 2) := by decide +kernel
theorem dX4_putPeriod_15 : decode cX4_putPeriod 15 = .ok (.sipush 200, 3) := by decide +kernel
theorem dX4_putPeriod_18 : decode cX4_putPeriod 18 = .ok (.invokestatic 73, 3) := by decide +kernel
theorem dX4_putPeriod_21 : decode cX4_putPeriod 21 = .ok (.ifCond .ne 6, 3) := by decide +kernel
theorem dX4_putPeriod_24 : decode cX4_putPeriod 24 = .ok (.bipush (-2), 2) := by decide +kernel
theorem dX4_putPeriod_26 : decode cX4_putPeriod 26 = .ok (.ireturn, 1) := by decide +kernel
theorem dX4_putPeriod_27 : decode cX4_putPeriod 27 = .ok (.aload_n 0, 1) := by decide +kernel
theorem dX4_putPeriod_28 : decode cX4_putPeriod 28 = .ok (.getfield 31, 3) := by decide +kernel
theorem dX4_putPeriod_31 : decode cX4_putPeriod 31 = .ok (.iload_n 1, 1) := by decide +kernel
theorem dX4_putPeriod_32 : decode cX4_putPeriod 32 = .ok (.aaload, 1) := by decide +kernel
theorem dX4_putPeriod_33 : decode cX4_putPeriod 33 = .ok (.getfield 111, 3) := by decide +kernel
theorem dX4_putPeriod_36 : decode cX4_putPeriod 36 = .ok (.istore_n 3, 1) := by decide +kernel
theorem dX4_putPeriod_37 : decode cX4_putPeriod 37 = .ok (.aload_n 0, 1) := by decide +kernel
theorem dX4_putPeriod_38 : decode cX4_putPeriod 38 = .ok (.getfield 31, 3) := by decide +kernel
theorem dX4_putPeriod_41 : decode cX4_putPeriod 41 = .ok (.iload_n 1, 1) := by decide +kernel
theorem dX4_putPeriod_42 : decode cX4_putPeriod 42 = .ok (.aaload, 1) := by decide +kernel
theorem dX4_putPeriod_43 : decode cX4_putPeriod 43 = .ok (.iload_n 2, 1) := by decide +kernel
theorem dX4_putPeriod_44 : decode cX4_putPeriod 44 = .ok (.putfield 111, 3) := by decide +kernel
theorem dX4_putPeriod_47 : decode cX4_putPeriod 47 = .ok (.aload_n 0, 1) := by decide +kernel
theorem dX4_putPeriod_48 : decode cX4_putPeriod 48 = .ok (.getfield 31, 3) := by decide +kernel
theorem dX4_putPeriod_51 : decode cX4_putPeriod 51 = .ok (.iload_n 1, 1) := by decide +kernel
theorem dX4_putPeriod_52 : decode cX4_putPeriod 52 = .ok (.aaload, 1) := by decide +kernel
theorem dX4_putPeriod_53 : decode cX4_putPeriod 53 = .ok (.iconst 0, 1) := by decide +kernel
theorem dX4_putPeriod_54 : decode cX4_putPeriod 54 = .ok (.putfield 114, 3) := by decide +kernel
theorem dX4_putPeriod_57 : decode cX4_putPeriod 57 = .ok (.iload_n 3, 1) := by decide +kernel
theorem dX4_putPeriod_58 : decode cX4_putPeriod 58 = .ok (.ireturn, 1) := by decide +kernel
theorem dX4_putSkid_0 : decode cX4_putSkid 0 = .ok (.iload_n 1, 1) := by decide +kernel
theorem dX4_putSkid_1 : decode cX4_putSkid 1 = .ok (.iconst 0, 1) := by decide +kernel
theorem dX4_putSkid_2 : decode cX4_putSkid 2 = .ok (.iconst 3, 1) := by decide +kernel
theorem dX4_putSkid_3 : decode cX4_putSkid 3 = .ok (.invokestatic 73, 3) := by decide +kernel
theorem dX4_putSkid_6 : decode cX4_putSkid 6 = .ok (.ifCond .ne 6, 3) := by decide +kernel
theorem dX4_putSkid_9 : decode cX4_putSkid 9 = .ok (.bipush (-2), 2) := by decide +kernel
theorem dX4_putSkid_11 : decode cX4_putSkid 11 = .ok (.ireturn, 1) := by decide +kernel
theorem dX4_putSkid_12 : decode cX4_putSkid 12 = .ok (.aload_n 0, 1) := by decide +kernel
theorem dX4_putSkid_13 : decode cX4_putSkid 13 = .ok (.getfield 15, 3) := by decide +kernel
theorem dX4_putSkid_16 : decode cX4_putSkid 16 = .ok (.istore_n 2, 1) := by decide +kernel
theorem dX4_putSkid_17 : decode cX4_putSkid 17 = .ok (.aload_n 0, 1) := by decide +kernel
theorem dX4_putSkid_18 : decode cX4_putSkid 18 = .ok (.iload_n 1, 1) := by decide +kernel
theorem dX4_putSkid_19 : decode cX4_putSkid 19 = .ok (.putfield 15, 3) := by decide +kernel
theorem dX4_putSkid_22 : decode cX4_putSkid 22 = .ok (.iload_n 2, 1) := by decide +kernel
theorem dX4_putSkid_23 : decode cX4_putSkid 23 = .ok (.ireturn, 1) := by decide +kernel
theorem dX4_putLive_0 : decode cX4_putLive 0 = .ok (.aload_n 0, 1) := by decide +kernel
theorem dX4_putLive_1 : decode cX4_putLive 1 = .ok (.iload_n 1, 1) := by decide +kernel
theorem dX4_putLive_2 : decode cX4_putLive 2 = .ok (.invokevirtual 77, 3) := by decide +kernel
theorem dX4_putLive_5 : decode cX4_putLive 5 = .ok (.ifCond .eq 12, 3) := by decide +kernel
theorem dX4_putLive_8 : decode cX4_putLive 8 = .ok (.iload_n 2, 1) := by decide +kernel
theorem dX4_putLive_9 : decode cX4_putLive 9 = .ok (.iconst 0, 1) := by decide +kernel
theorem dX4_putLive_10 : decode cX4_putLive 10 = .ok (.iconst 1, 1) := by decide +kernel
theorem dX4_putLive_11 : decode cX4_putLive 11 = .ok (.invokestatic 73, 3) := by decide +kernel
theorem dX4_putLive_14 : decode cX4_putLive 14 = .ok (.ifCond .ne 6, 3) := by decide +kernel
theorem dX4_putLive_17 : decode cX4_putLive 17 = .ok (.bipush (-2), 2) := by decide +kernel
theorem dX4_putLive_19 : decode cX4_putLive 19 = .ok (.ireturn, 1) := by decide +kernel
theorem dX4_putLive_20 : decode cX4_putLive 20 = .ok (.aload_n 0, 1) := by decide +kernel
theorem dX4_putLive_21 : decode cX4_putLive 21 = .ok (.getfield 31, 3) := by decide +kernel
theorem dX4_putLive_24 : decode cX4_putLive 24 = .ok (.iload_n 1, 1) := by decide +kernel
theorem dX4_putLive_25 : decode cX4_putLive 25 = .ok (.aaload, 1) := by decide +kernel
theorem dX4_putLive_26 : decode cX4_putLive 26 = .ok (.getfield 117, 3) := by decide +kernel
theorem dX4_putLive_29 : decode cX4_putLive 29 = .ok (.invokestatic 121, 3) := by decide +kernel
theorem dX4_putLive_32 : decode cX4_putLive 32 = .ok (.istore_n 3, 1) := by decide +kernel
theorem dX4_putLive_33 : decode cX4_putLive 33 = .ok (.aload_n 0, 1) := by decide +kernel
theorem dX4_putLive_34 : decode cX4_putLive 34 = .ok (.getfield 31, 3) := by decide +kernel
theorem dX4_putLive_37 : decode cX4_putLive 37 = .ok (.iload_n 1, 1) := by decide +kernel
theorem dX4_putLive_38 : decode cX4_putLive 38 = .ok (.aaload, 1) := by decide +kernel
theorem dX4_putLive_39 : decode cX4_putLive 39 = .ok (.iload_n 2, 1) := by decide +kernel
theorem dX4_putLive_40 : decode cX4_putLive 40 = .ok (.iconst 1, 1) := by decide +kernel
theorem dX4_putLive_41 : decode cX4_putLive 41 = .ok (.if_icmp .ne 7, 3) := by decide +kernel
theorem dX4_putLive_44 : decode cX4_putLive 44 = .ok (.iconst 1, 1) := by decide +kernel
theorem dX4_putLive_45 : decode cX4_putLive 45 = .ok (.goto 4, 3) := by decide +kernel
theorem dX4_putLive_48 : decode cX4_putLive 48 = .ok (.iconst 0, 1) := by decide +kernel
theorem dX4_putLive_49 : decode cX4_putLive 49 = .ok (.putfield 117, 3) := by decide +kernel
theorem dX4_putLive_52 : decode cX4_putLive 52 = .ok (.iload_n 3, 1) := by decide +kernel
theorem dX4_putLive_53 : decode cX4_putLive 53 = .ok (.ireturn, 1) := by decide +kernel
theorem dX4_runSlices_0 : decode cX4_runSlices 0 = .ok (.aload_n 0, 1) := by decide +kernel
theorem dX4_runSlices_1 : decode cX4_runSlices 1 = .ok (.getfield 25, 3) := by decide +kernel
theorem dX4_runSlices_4 : decode cX4_runSlices 4 = .ok (.iload_n 1, 1) := by decide +kernel
theorem dX4_runSlices_5 : decode cX4_runSlices 5 = .ok (.invokevirtual 84, 3) := by decide +kernel
theorem dX4_runSlices_8 : decode cX4_runSlices 8 = .ok (.ifCond .eq 13, 3) := by decide +kernel
theorem dX4_runSlices_11 : decode cX4_runSlices 11 = .ok (.iload_n 2, 1) := by decide +kernel
theorem dX4_runSlices_12 : decode cX4_runSlices 12 = .ok (.iconst 1, 1) := by decide +kernel
theorem dX4_runSlices_13 : decode cX4_runSlices 13 = .ok (.bipush 20, 2) := by decide +kernel
theorem dX4_runSlices_15 : decode cX4_runSlices 15 = .ok (.invokestatic 73, 3) := by decide +kernel
theorem dX4_runSlices_18 : decode cX4_runSlices 18 = .ok (.ifCond .ne 6, 3) := by decide +kernel
theorem dX4_runSlices_21 : decode cX4_runSlices 21 = .ok (.bipush (-2), 2) := by decide +kernel
theorem dX4_runSlices_23 : decode cX4_runSlices 23 = .ok (.ireturn, 1) := by decide +kernel
theorem dX4_runSlices_24 : decode cX4_runSlices 24 = .ok (.aload_n 0, 1) := by decide +kernel
theorem dX4_runSlices_25 : decode cX4_runSlices 25 = .ok (.getfield 25, 3) := by decide +kernel
theorem dX4_runSlices_28 : decode cX4_runSlices 28 = .ok (.iload_n 1, 1) := by decide +kernel
theorem dX4_runSlices_29 : decode cX4_runSlices 29 = .ok (.invokevirtual 87, 3) := by decide +kernel
theorem dX4_runSlices_32 : decode cX4_runSlices 32 = .ok (.ifCond .eq 6, 3) := by decide +kernel
theorem dX4_runSlices_35 : decode cX4_runSlices 35 = .ok (.bipush (-3), 2) := by decide +kernel
theorem dX4_runSlices_37 : decode cX4_runSlices 37 = .ok (.ireturn, 1) := by decide +kernel
theorem dX4_runSlices_38 : decode cX4_runSlices 38 = .ok (.iconst 0, 1) := by decide +kernel
theorem dX4_runSlices_39 : decode cX4_runSlices 39 = .ok (.istore_n 3, 1) := by decide +kernel
theorem dX4_runSlices_40 : decode cX4_runSlices 40 = .ok (.iload_n 3, 1) := by decide +kernel
theorem dX4_runSlices_41 : decode cX4_runSlices 41 = .ok (.iload_n 2, 1) := by decide +kernel
theorem dX4_runSlices_42 : decode cX4_runSlices 42 = .ok (.if_icmp .ge 14, 3) := by decide +kernel
theorem dX4_runSlices_45 : decode cX4_runSlices 45 = .ok (.aload_n 0, 1) := by decide +kernel
theorem dX4_runSlices_46 : decode cX4_runSlices 46 = .ok (.iload_n 1, 1) := by decide +kernel
theorem dX4_runSlices_47 : decode cX4_runSlices 47 = .ok (.invokevirtual 125, 3) := by decide +kernel
theorem dX4_runSlices_50 : decode cX4_runSlices 50 = .ok (.iinc 3 1, 3) := by decide +kernel
theorem dX4_runSlices_53 : decode cX4_runSlices 53 = .ok (.goto (-13), 3) := by decide +kernel
theorem dX4_runSlices_56 : decode cX4_runSlices 56 = .ok (.aload_n 0, 1) := by decide +kernel
theorem dX4_runSlices_57 : decode cX4_runSlices 57 = .ok (.getfield 50, 3) := by decide +kernel
theorem dX4_runSlices_60 : decode cX4_runSlices 60 = .ok (.ireturn, 1) := by decide +kernel
theorem dX4_runSlice_0 : decode cX4_runSlice 0 = .ok (.aload_n 0, 1) := by decide +kernel
theorem dX4_runSlice_1 : decode cX4_runSlice 1 = .ok (.iload_n 1, 1) := by decide +kernel
theorem dX4_runSlice_2 : decode cX4_runSlice 2 = .ok (.invokevirtual 129, 3) := by decide +kernel
theorem dX4_runSlice_5 : decode cX4_runSlice 5 = .ok (.istore_n 2, 1) := by decide +kernel
theorem dX4_runSlice_6 : decode cX4_runSlice 6 = .ok (.aload_n 0, 1) := by decide +kernel
theorem dX4_runSlice_7 : decode cX4_runSlice 7 = .ok (.iload_n 2, 1) := by decide +kernel
theorem dX4_runSlice_8 : decode cX4_runSlice 8 = .ok (.invokevirtual 132, 3) := by decide +kernel
theorem dX4_runSlice_11 : decode cX4_runSlice 11 = .ok (.aload_n 0, 1) := by decide +kernel
theorem dX4_runSlice_12 : decode cX4_runSlice 12 = .ok (.iload_n 1, 1) := by decide +kernel
theorem dX4_runSlice_13 : decode cX4_runSlice 13 = .ok (.iload_n 2, 1) := by decide +kernel
theorem dX4_runSlice_14 : decode cX4_runSlice 14 = .ok (.invokevirtual 135, 3) := by decide +kernel
theorem dX4_runSlice_17 : decode cX4_runSlice 17 = .ok (.aload_n 0, 1) := by decide +kernel
theorem dX4_runSlice_18 : decode cX4_runSlice 18 = .ok (.iload_n 1, 1) := by decide +kernel
theorem dX4_runSlice_19 : decode cX4_runSlice 19 = .ok (.invokevirtual 138, 3) := by decide +kernel
theorem dX4_runSlice_22 : decode cX4_runSlice 22 = .ok (.aload_n 0, 1) := by decide +kernel
theorem dX4_runSlice_23 : decode cX4_runSlice 23 = .ok (.getfield 41, 3) := by decide +kernel
theorem dX4_runSlice_26 : decode cX4_runSlice 26 = .ok (.iload_n 1, 1) := by decide +kernel
theorem dX4_runSlice_27 : decode cX4_runSlice 27 = .ok (.aload_n 0, 1) := by decide +kernel
theorem dX4_runSlice_28 : decode cX4_runSlice 28 = .ok (.getfield 50, 3) := by decide +kernel
theorem dX4_runSlice_31 : decode cX4_runSlice 31 = .ok (.invokevirtual 141, 3) := by decide +kernel
theorem dX4_runSlice_34 : decode cX4_runSlice 34 = .ok (.aload_n 0, 1) := by decide +kernel
theorem dX4_runSlice_35 : decode cX4_runSlice 35 = .ok (.iload_n 2, 1) := by decide +kernel
theorem dX4_runSlice_36 : decode cX4_runSlice 36 = .ok (.invokevirtual 144, 3) := by decide +kernel
theorem dX4_runSlice_39 : decode cX4_runSlice 39 = .ok (.aload_n 0, 1) := by decide +kernel
theorem dX4_runSlice_40 : decode cX4_runSlice 40 = .ok (.dup, 1) := by decide +kernel
theorem dX4_runSlice_41 : decode cX4_runSlice 41 = .ok (.getfield 50, 3) := by decide +kernel
theorem dX4_runSlice_44 : decode cX4_runSlice 44 = .ok (.iconst 1, 1) := by decide +kernel
theorem dX4_runSlice_45 : decode cX4_runSlice 45 = .ok (.iadd, 1) := by decide +kernel
theorem dX4_runSlice_46 : decode cX4_runSlice 46 = .ok (.putfield 50, 3) := by decide +kernel
theorem dX4_runSlice_49 : decode cX4_runSlice 49 = .ok (.return_, 1) := by decide +kernel
theorem dX4_watchersOf_0 : decode cX4_watchersOf 0 = .ok (.iconst 0, 1) := by decide +kernel
theorem dX4_watchersOf_1 : decode cX4_watchersOf 1 = .ok (.istore_n 2, 1) := by decide +kernel
theorem dX4_watchersOf_2 : decode cX4_watchersOf 2 = .ok (.iconst 0, 1) := by decide +kernel
theorem dX4_watchersOf_3 : decode cX4_watchersOf 3 = .ok (.istore_n 3, 1) := by decide +kernel
theorem dX4_watchersOf_4 : decode cX4_watchersOf 4 = .ok (.iload_n 3, 1) := by decide +kernel
theorem dX4_watchersOf_5 : decode cX4_watchersOf 5 = .ok (.aload_n 0, 1) := by decide +kernel
theorem dX4_watchersOf_6 : decode cX4_watchersOf 6 = .ok (.getfield 53, 3) := by decide +kernel
theorem dX4_watchersOf_9 : decode cX4_watchersOf 9 = .ok (.if_icmp .ge 88, 3) := by decide +kernel
theorem dX4_watchersOf_12 : decode cX4_watchersOf 12 = .ok (.aload_n 0, 1) := by decide +kernel
theorem dX4_watchersOf_13 : decode cX4_watchersOf 13 = .ok (.getfield 31, 3) := by decide +kernel
theorem dX4_watchersOf_16 : decode cX4_watchersOf 16 = .ok (.iload_n 3, 1) := by decide +kernel
theorem dX4_watchersOf_17 : decode cX4_watchersOf 17 = .ok (.aaload, 1) := by decide +kernel
theorem dX4_watchersOf_18 : decode cX4_watchersOf 18 = .ok (.astore 4, 2) := by decide +kernel
theorem dX4_watchersOf_20 : decode cX4_watchersOf 20 = .ok (.aload 4, 2) := by decide +kernel
theorem dX4_watchersOf_22 : decode cX4_watchersOf 22 = .ok (.getfield 147, 3) := by decide +kernel
theorem dX4_watchersOf_25 : decode cX4_watchersOf 25 = .ok (.iload_n 1, 1) := by decide +kernel
theorem dX4_watchersOf_26 : decode cX4_watchersOf 26 = .ok (.if_icmp .ne 7, 3) := by decide +kernel
theorem dX4_watchersOf_29 : decode cX4_watchersOf 29 = .ok (.iconst 1, 1) := by decide +kernel
theorem dX4_watchersOf_30 : decode cX4_watchersOf 30 = .ok (.goto 4, 3) := by decide +kernel
theorem dX4_watchersOf_33 : decode cX4_watchersOf 33 = .ok (.iconst 0, 1) := by decide +kernel
theorem dX4_watchersOf_34 : decode cX4_watchersOf 34 = .ok (.istore 5, 2) := by decide +kernel
theorem dX4_watchersOf_36 : decode cX4_watchersOf 36 = .ok (.aload 4, 2) := by decide +kernel
theorem dX4_watchersOf_38 : decode cX4_watchersOf 38 = .ok (.getfield 150, 3) := by decide +kernel
theorem dX4_watchersOf_41 : decode cX4_watchersOf 41 = .ok (.ifCond .eq 23, 3) := by decide +kernel
theorem dX4_watchersOf_44 : decode cX4_watchersOf 44 = .ok (.aload_n 0, 1) := by decide +kernel
theorem dX4_watchersOf_45 : decode cX4_watchersOf 45 = .ok (.getfield 25, 3) := by decide +kernel
theorem dX4_watchersOf_48 : decode cX4_watchersOf 48 = .ok (.iload_n 1, 1) := by decide +kernel
theorem dX4_watchersOf_49 : decode cX4_watchersOf 49 = .ok (.aload 4, 2) := by decide +kernel
theorem dX4_watchersOf_51 : decode cX4_watchersOf 51 = .ok (.getfield 147, 3) := by decide +kernel
theorem dX4_watchersOf_54 : decode cX4_watchersOf 54 = .ok (.invokevirtual 153, 3) := by decide +kernel
theorem dX4_watchersOf_57 : decode cX4_watchersOf 57 = .ok (.ifCond .eq 7, 3) := by decide +kernel
theorem dX4_watchersOf_60 : decode cX4_watchersOf 60 = .ok (.iconst 1, 1) := by decide +kernel
theorem dX4_watchersOf_61 : decode cX4_watchersOf 61 = .ok (.goto 4, 3) := by decide +kernel
theorem dX4_watchersOf_64 : decode cX4_watchersOf 64 = .ok (.iconst 0, 1) := by decide +kernel
theorem dX4_watchersOf_65 : decode cX4_watchersOf 65 = .ok (.istore 6, 2) := by decide +kernel
theorem dX4_watchersOf_67 : decode cX4_watchersOf 67 = .ok (.aload 4, 2) := by decide +kernel
theorem dX4_watchersOf_69 : decode cX4_watchersOf 69 = .ok (.getfield 117, 3) := by decide +kernel
theorem dX4_watchersOf_72 : decode cX4_watchersOf 72 = .ok (.ifCond .eq 19, 3) := by decide +kernel
theorem dX4_watchersOf_75 : decode cX4_watchersOf 75 = .ok (.iload 5, 2) := by decide +kernel
theorem dX4_watchersOf_77 : decode cX4_watchersOf 77 = .ok (.ifCond .ne 8, 3) := by decide +kernel
theorem dX4_watchersOf_80 : decode cX4_watchersOf 80 = .ok (.iload 6, 2) := by decide +kernel
theorem dX4_watchersOf_82 : decode cX4_watchersOf 82 = .ok (.ifCond .eq 9, 3) := by decide +kernel
theorem dX4_watchersOf_85 : decode cX4_watchersOf 85 = .ok (.iload_n 2, 1) := by decide +kernel
theorem dX4_watchersOf_86 : decode cX4_watchersOf 86 = .ok (.iconst 1, 1) := by decide +kernel
theorem dX4_watchersOf_87 : decode cX4_watchersOf 87 = .ok (.iload_n 3, 1) := by decide +kernel
theorem dX4_watchersOf_88 : decode cX4_watchersOf 88 = .ok (.ishl, 1) := by decide +kernel
theorem dX4_watchersOf_89 : decode cX4_watchersOf 89 = .ok (.ior, 1) := by decide +kernel
theorem dX4_watchersOf_90 : decode cX4_watchersOf 90 = .ok (.istore_n 2, 1) := by decide +kernel
theorem dX4_watchersOf_91 : decode cX4_watchersOf 91 = .ok (.iinc 3 1, 3) := by decide +kernel
theorem dX4_watchersOf_94 : decode cX4_watchersOf 94 = .ok (.goto (-90), 3) := by decide +kernel
theorem dX4_watchersOf_97 : decode cX4_watchersOf 97 = .ok (.iload_n 2, 1) := by decide +kernel
theorem dX4_watchersOf_98 : decode cX4_watchersOf 98 = .ok (.ireturn, 1) := by decide +kernel
theorem dX4_isIn_0 : decode cX4_isIn 0 = .ok (.iload_n 0, 1) := by decide +kernel
theorem dX4_isIn_1 : decode cX4_isIn 1 = .ok (.iconst 1, 1) := by decide +kernel
theorem dX4_isIn_2 : decode cX4_isIn 2 = .ok (.iload_n 1, 1) := by decide +kernel
theorem dX4_isIn_3 : decode cX4_isIn 3 = .ok (.ishl, 1) := by decide +kernel
theorem dX4_isIn_4 : decode cX4_isIn 4 = .ok (.iand, 1) := by decide +kernel
theorem dX4_isIn_5 : decode cX4_isIn 5 = .ok (.ifCond .eq 7, 3) := by decide +kernel
theorem dX4_isIn_8 : decode cX4_isIn 8 = .ok (.iconst 1, 1) := by decide +kernel
theorem dX4_isIn_9 : decode cX4_isIn 9 = .ok (.goto 4, 3) := by decide +kernel
theorem dX4_isIn_12 : decode cX4_isIn 12 = .ok (.iconst 0, 1) := by decide +kernel
theorem dX4_isIn_13 : decode cX4_isIn 13 = .ok (.ireturn, 1) := by decide +kernel
theorem dX4_dealCounters_0 : decode cX4_dealCounters 0 = .ok (.aload_n 0, 1) := by decide +kernel
theorem dX4_dealCounters_1 : decode cX4_dealCounters 1 = .ok (.getfield 45, 3) := by decide +kernel
theorem dX4_dealCounters_4 : decode cX4_dealCounters 4 = .ok (.aload_n 0, 1) := by decide +kernel
theorem dX4_dealCounters_5 : decode cX4_dealCounters 5 = .ok (.getfield 9, 3) := by decide +kernel
theorem dX4_dealCounters_8 : decode cX4_dealCounters 8 = .ok (.invokevirtual 157, 3) := by decide +kernel
theorem dX4_dealCounters_11 : decode cX4_dealCounters 11 = .ok (.iconst 0, 1) := by decide +kernel
theorem dX4_dealCounters_12 : decode cX4_dealCounters 12 = .ok (.istore_n 2, 1) := by decide +kernel
theorem dX4_dealCounters_13 : decode cX4_dealCounters 13 = .ok (.iload_n 2, 1) := by decide +kernel
theorem dX4_dealCounters_14 : decode cX4_dealCounters 14 = .ok (.aload_n 0, 1) := by decide +kernel
theorem dX4_dealCounters_15 : decode cX4_dealCounters 15 = .ok (.getfield 53, 3) := by decide +kernel
theorem dX4_dealCounters_18 : decode cX4_dealCounters 18 = .ok (.if_icmp .ge 18, 3) := by decide +kernel
theorem dX4_dealCounters_21 : decode cX4_dealCounters 21 = .ok (.aload_n 0, 1) := by decide +kernel
theorem dX4_dealCounters_22 : decode cX4_dealCounters 22 = .ok (.getfield 31, 3) := by decide +kernel
theorem dX4_dealCounters_25 : decode cX4_dealCounters 25 = .ok (.iload_n 2, 1) := by decide +kernel
theorem dX4_dealCounters_26 : decode cX4_dealCounters 26 = .ok (.aaload, 1) := by decide +kernel
theorem dX4_dealCounters_27 : decode cX4_dealCounters 27 = .ok (.invokevirtual 162, 3) := by decide +kernel
theorem dX4_dealCounters_30 : decode cX4_dealCounters 30 = .ok (.iinc 2 1, 3) := by decide +kernel
theorem dX4_dealCounters_33 : decode cX4_dealCounters 33 = .ok (.goto (-20), 3) := by decide +kernel
theorem dX4_dealCounters_36 : decode cX4_dealCounters 36 = .ok (.iconst 0, 1) := by decide +kernel
theorem dX4_dealCounters_37 : decode cX4_dealCounters 37 = .ok (.istore_n 2, 1) := by decide +kernel
theorem dX4_dealCounters_38 : decode cX4_dealCounters 38 = .ok (.iload_n 2, 1) := by decide +kernel
theorem dX4_dealCounters_39 : decode cX4_dealCounters 39 = .ok (.aload_n 0, 1) := by decide +kernel
theorem dX4_dealCounters_40 : decode cX4_dealCounters 40 = .ok (.getfield 53, 3) := by decide +kernel
theorem dX4_dealCounters_43 : decode cX4_dealCounters 43 = .ok (.if_icmp .ge 55, 3) := by decide +kernel
theorem dX4_dealCounters_46 : decode cX4_dealCounters 46 = .ok (.aload_n 0, 1) := by decide +kernel
theorem dX4_dealCounters_47 : decode cX4_dealCounters 47 = .ok (.getfield 31, 3) := by decide +kernel
theorem dX4_dealCounters_50 : decode cX4_dealCounters 50 = .ok (.iload_n 2, 1) := by decide +kernel
theorem dX4_dealCounters_51 : decode cX4_dealCounters 51 = .ok (.aaload, 1) := by decide +kernel
theorem dX4_dealCounters_52 : decode cX4_dealCounters 52 = .ok (.astore_n 3, 1) := by decide +kernel
theorem dX4_dealCounters_53 : decode cX4_dealCounters 53 = .ok (.aload_n 3, 1) := by decide +kernel
theorem dX4_dealCounters_54 : decode cX4_dealCounters 54 = .ok (.getfield 165, 3) := by decide +kernel
theorem dX4_dealCounters_57 : decode cX4_dealCounters 57 = .ok (.ifCond .eq 35, 3) := by decide +kernel
theorem dX4_dealCounters_60 : decode cX4_dealCounters 60 = .ok (.iload_n 1, 1) := by decide +kernel
theorem dX4_dealCounters_61 : decode cX4_dealCounters 61 = .ok (.iload_n 2, 1) := by decide +kernel
theorem dX4_dealCounters_62 : decode cX4_dealCounters 62 = .ok (.invokestatic 168, 3) := by decide +kernel
theorem dX4_dealCounters_65 : decode cX4_dealCounters 65 = .ok (.ifCond .eq 27, 3) := by decide +kernel
theorem dX4_dealCounters_68 : decode cX4_dealCounters 68 = .ok (.aload_n 3, 1) := by decide +kernel
theorem dX4_dealCounters_69 : decode cX4_dealCounters 69 = .ok (.aload_n 0, 1) := by decide +kernel
theorem dX4_dealCounters_70 : decode cX4_dealCounters 70 = .ok (.getfield 45, 3) := by decide +kernel
theorem dX4_dealCounters_73 : decode cX4_dealCounters 73 = .ok (.aload_n 3, 1) := by decide +kernel
theorem dX4_dealCounters_74 : decode cX4_dealCounters 74 = .ok (.aload_n 0, 1) := by decide +kernel
theorem dX4_dealCounters_75 : decode cX4_dealCounters 75 = .ok (.getfield 18, 3) := by decide +kernel
theorem dX4_dealCounters_78 : decode cX4_dealCounters 78 = .ok (.invokevirtual 171, 3) := by decide +kernel
theorem dX4_dealCounters_81 : decode cX4_dealCounters 81 = .ok (.putfield 175, 3) := by decide +kernel
theorem dX4_dealCounters_84 : decode cX4_dealCounters 84 = .ok (.aload_n 3, 1) := by decide +kernel
theorem dX4_dealCounters_85 : decode cX4_dealCounters 85 = .ok (.aload_n 3, 1) := by decide +kernel
theorem dX4_dealCounters_86 : decode cX4_dealCounters 86 = .ok (.getfield 175, 3) := by decide +kernel
theorem dX4_dealCounters_89 : decode cX4_dealCounters 89 = .ok (.putfield 117, 3) := by decide +kernel
theorem dX4_dealCounters_92 : decode cX4_dealCounters 92 = .ok (.iinc 2 1, 3) := by decide +kernel
theorem dX4_dealCounters_95 : decode cX4_dealCounters 95 = .ok (.goto (-57), 3) := by decide +kernel
theorem dX4_dealCounters_98 : decode cX4_dealCounters 98 = .ok (.iconst 0, 1) := by decide +kernel
theorem dX4_dealCounters_99 : decode cX4_dealCounters 99 = .ok (.istore_n 2, 1) := by decide +kernel
theorem dX4_dealCounters_100 : decode cX4_dealCounters 100 = .ok (.iload_n 2, 1) := by decide +kernel
theorem dX4_dealCounters_101 : decode cX4_dealCounters 101 = .ok (.aload_n 0, 1) := by decide +kernel
theorem dX4_dealCounters_102 : decode cX4_dealCounters 102 = .ok (.getfield 56, 3) := by decide +kernel
theorem dX4_dealCounters_105 : decode cX4_dealCounters 105 = .ok (.if_icmp .ge 50, 3) := by decide +kernel
theorem dX4_dealCounters_108 : decode cX4_dealCounters 108 = .ok (.aload_n 0, 1) := by decide +kernel
theorem dX4_dealCounters_109 : decode cX4_dealCounters 109 = .ok (.getfield 31, 3) := by decide +kernel
theorem dX4_dealCounters_112 : decode cX4_dealCounters 112 = .ok (.aload_n 0, 1) := by decide +kernel
theorem dX4_dealCounters_113 : decode cX4_dealCounters 113 = .ok (.getfield 35, 3) := by decide +kernel
theorem dX4_dealCounters_116 : decode cX4_dealCounters 116 = .ok (.iload_n 2, 1) := by decide +kernel
theorem dX4_dealCounters_117 : decode cX4_dealCounters 117 = .ok (.iaload, 1) := by decide +kernel
theorem dX4_dealCounters_118 : decode cX4_dealCounters 118 = .ok (.aaload, 1) := by decide +kernel
theorem dX4_dealCounters_119 : decode cX4_dealCounters 119 = .ok (.astore_n 3, 1) := by decide +kernel
theorem dX4_dealCounters_120 : decode cX4_dealCounters 120 = .ok (.iload_n 1, 1) := by decide +kernel
theorem dX4_dealCounters_121 : decode cX4_dealCounters 121 = .ok (.aload_n 0, 1) := by decide +kernel
theorem dX4_dealCounters_122 : decode cX4_dealCounters 122 = .ok (.getfield 35, 3) := by decide +kernel
theorem dX4_dealCounters_125 : decode cX4_dealCounters 125 = .ok (.iload_n 2, 1) := by decide +kernel
theorem dX4_dealCounters_126 : decode cX4_dealCounters 126 = .ok (.iaload, 1) := by decide +kernel
theorem dX4_dealCounters_127 : decode cX4_dealCounters 127 = .ok (.invokestatic 168, 3) := by decide +kernel
theorem dX4_dealCounters_130 : decode cX4_dealCounters 130 = .ok (.ifCond .eq 19, 3) := by decide +kernel
theorem dX4_dealCounters_133 : decode cX4_dealCounters 133 = .ok (.aload_n 3, 1) := by decide +kernel
theorem dX4_dealCounters_134 : decode cX4_dealCounters 134 = .ok (.aload_n 0, 1) := by decide +kernel
theorem dX4_dealCounters_135 : decode cX4_dealCounters 135 = .ok (.getfield 45, 3) := by decide +kernel
theorem dX4_dealCounters_138 : decode cX4_dealCounters 138 = .ok (.aload_n 3, 1) := by decide +kernel
theorem dX4_dealCounters_139 : decode cX4_dealCounters 139 = .ok (.aload_n 0, 1) := by decide +kernel
theorem dX4_dealCounters_140 : decode cX4_dealCounters 140 = .ok (.getfield 18, 3) := by decide +kernel
theorem dX4_dealCounters_143 : decode cX4_dealCounters 143 = .ok (.invokevirtual 171, 3) := by decide +kernel
theorem dX4_dealCounters_146 : decode cX4_dealCounters 146 = .ok (.putfield 175, 3) := by decide +kernel
theorem dX4_dealCounters_149 : decode cX4_dealCounters 149 = .ok (.iinc 2 1, 3) := by decide +kernel
theorem dX4_dealCounters_152 : decode cX4_dealCounters 152 = .ok (.goto (-52), 3) := by decide +kernel
theorem dX4_dealCounters_155 : decode cX4_dealCounters 155 = .ok (.aload_n 0, 1) := by decide +kernel
theorem dX4_dealCounters_156 : decode cX4_dealCounters 156 = .ok (.getfield 45, 3) := by decide +kernel
theorem dX4_dealCounters_159 : decode cX4_dealCounters 159 = .ok (.invokevirtual 178, 3) := by decide +kernel
theorem dX4_dealCounters_162 : decode cX4_dealCounters 162 = .ok (.aload_n 0, 1) := by decide +kernel
theorem dX4_dealCounters_163 : decode cX4_dealCounters 163 = .ok (.invokevirtual 181, 3) := by decide +kernel
theorem dX4_dealCounters_166 : decode cX4_dealCounters 166 = .ok (.return_, 1) := by decide +kernel
theorem dX4_showSeats_0 : decode cX4_showSeats 0 = .ok (.iconst 0, 1) := by decide +kernel
theorem dX4_showSeats_1 : decode cX4_showSeats 1 = .ok (.istore_n 1, 1) := by decide +kernel
theorem dX4_showSeats_2 : decode cX4_showSeats 2 = .ok (.iconst 0, 1) := by decide +kernel
theorem dX4_showSeats_3 : decode cX4_showSeats 3 = .ok (.istore_n 2, 1) := by decide +kernel
theorem dX4_showSeats_4 : decode cX4_showSeats 4 = .ok (.iload_n 2, 1) := by decide +kernel
theorem dX4_showSeats_5 : decode cX4_showSeats 5 = .ok (.aload_n 0, 1) := by decide +kernel
theorem dX4_showSeats_6 : decode cX4_showSeats 6 = .ok (.getfield 53, 3) := by decide +kernel
theorem dX4_showSeats_9 : decode cX4_showSeats 9 = .ok (.if_icmp .ge 45, 3) := by decide +kernel
theorem dX4_showSeats_12 : decode cX4_showSeats 12 = .ok (.aload_n 0, 1) := by decide +kernel
theorem dX4_showSeats_13 : decode cX4_showSeats 13 = .ok (.getfield 31, 3) := by decide +kernel
theorem dX4_showSeats_16 : decode cX4_showSeats 16 = .ok (.iload_n 2, 1) := by decide +kernel
theorem dX4_showSeats_17 : decode cX4_showSeats 17 = .ok (.aaload, 1) := by decide +kernel
theorem dX4_showSeats_18 : decode cX4_showSeats 18 = .ok (.getfield 165, 3) := by decide +kernel
theorem dX4_showSeats_21 : decode cX4_showSeats 21 = .ok (.ifCond .eq 27, 3) := by decide +kernel
theorem dX4_showSeats_24 : decode cX4_showSeats 24 = .ok (.aload_n 0, 1) := by decide +kernel
theorem dX4_showSeats_25 : decode cX4_showSeats 25 = .ok (.getfield 31, 3) := by decide +kernel
theorem dX4_showSeats_28 : decode cX4_showSeats 28 = .ok (.iload_n 2, 1) := by decide +kernel
theorem dX4_showSeats_29 : decode cX4_showSeats 29 = .ok (.aaload, 1) := by decide +kernel
theorem dX4_showSeats_30 : decode cX4_showSeats 30 = .ok (.getfield 175, 3) := by decide +kernel
theorem dX4_showSeats_33 : decode cX4_showSeats 33 = .ok (.ifCond .eq 15, 3) := by decide +kernel
theorem dX4_showSeats_36 : decode cX4_showSeats 36 = .ok (.aload_n 0, 1) := by decide +kernel
theorem dX4_showSeats_37 : decode cX4_showSeats 37 = .ok (.aload_n 0, 1) := by decide +kernel
theorem dX4_showSeats_38 : decode cX4_showSeats 38 = .ok (.getfield 31, 3) := by decide +kernel
theorem dX4_showSeats_41 : decode cX4_showSeats 41 = .ok (.iload_n 2, 1) := by decide +kernel
theorem dX4_showSeats_42 : decode cX4_showSeats 42 = .ok (.aaload, 1) := by decide +kernel
theorem dX4_showSeats_43 : decode cX4_showSeats 43 = .ok (.iload_n 1, 1) := by decide +kernel
theorem dX4_showSeats_44 : decode cX4_showSeats 44 = .ok (.invokevirtual 184, 3) := by decide +kernel
theorem dX4_showSeats_47 : decode cX4_showSeats 47 = .ok (.istore_n 1, 1) := by decide +kernel
theorem dX4_showSeats_48 : decode cX4_showSeats 48 = .ok (.iinc 2 1, 3) := by decide +kernel
theorem dX4_showSeats_51 : decode cX4_showSeats 51 = .ok (.goto (-47), 3) := by decide +kernel
theorem dX4_showSeats_54 : decode cX4_showSeats 54 = .ok (.iconst 0, 1) := by decide +kernel
theorem dX4_showSeats_55 : decode cX4_showSeats 55 = .ok (.istore_n 2, 1) := by decide +kernel
theorem dX4_showSeats_56 : decode cX4_showSeats 56 = .ok (.iload_n 2, 1) := by decide +kernel
theorem dX4_showSeats_57 : decode cX4_showSeats 57 = .ok (.aload_n 0, 1) := by decide +kernel
theorem dX4_showSeats_58 : decode cX4_showSeats 58 = .ok (.getfield 56, 3) := by decide +kernel
theorem dX4_showSeats_61 : decode cX4_showSeats 61 = .ok (.if_icmp .ge 43, 3) := by decide +kernel
theorem dX4_showSeats_64 : decode cX4_showSeats 64 = .ok (.aload_n 0, 1) := by decide +kernel
theorem dX4_showSeats_65 : decode cX4_showSeats 65 = .ok (.getfield 31, 3) := by decide +kernel
theorem dX4_showSeats_68 : decode cX4_showSeats 68 = .ok (.aload_n 0, 1) := by decide +kernel
theorem dX4_showSeats_69 : decode cX4_showSeats 69 = .ok (.getfield 35, 3) := by decide +kernel
theorem dX4_showSeats_72 : decode cX4_showSeats 72 = .ok (.iload_n 2, 1) := by decide +kernel
theorem dX4_showSeats_73 : decode cX4_showSeats 73 = .ok (.iaload, 1) := by decide +kernel
theorem dX4_showSeats_74 : decode cX4_showSeats 74 = .ok (.aaload, 1) := by decide +kernel
theorem dX4_showSeats_75 : decode cX4_showSeats 75 = .ok (.getfield 175, 3) := by decide +kernel
theorem dX4_showSeats_78 : decode cX4_showSeats 78 = .ok (.ifCond .eq 20, 3) := by decide +kernel
theorem dX4_showSeats_81 : decode cX4_showSeats 81 = .ok (.aload_n 0, 1) := by decide +kernel
theorem dX4_showSeats_82 : decode cX4_showSeats 82 = .ok (.aload_n 0, 1) := by decide +kernel
theorem dX4_showSeats_83 : decode cX4_showSeats 83 = .ok (.getfield 31, 3) := by decide +kernel
theorem dX4_showSeats_86 : decode cX4_showSeats 86 = .ok (.aload_n 0, 1) := by decide +kernel
theorem dX4_showSeats_87 : decode cX4_showSeats 87 = .ok (.getfield 35, 3) := by decide +kernel
theorem dX4_showSeats_90 : decode cX4_showSeats 90 = .ok (.iload_n 2, 1) := by decide +kernel
theorem dX4_showSeats_91 : decode cX4_showSeats 91 = .ok (.iaload, 1) := by decide +kernel
theorem dX4_showSeats_92 : decode cX4_showSeats 92 = .ok (.aaload, 1) := by decide +kernel
theorem dX4_showSeats_93 : decode cX4_showSeats 93 = .ok (.iload_n 1, 1) := by decide +kernel
theorem dX4_showSeats_94 : decode cX4_showSeats 94 = .ok (.invokevirtual 184, 3) := by decide +kernel
theorem dX4_showSeats_97 : decode cX4_showSeats 97 = .ok (.istore_n 1, 1) := by decide +kernel
theorem dX4_showSeats_98 : decode cX4_showSeats 98 = .ok (.iinc 2 1, 3) := by decide +kernel
theorem dX4_showSeats_101 : decode cX4_showSeats 101 = .ok (.goto (-45), 3) := by decide +kernel
theorem dX4_showSeats_104 : decode cX4_showSeats 104 = .ok (.return_, 1) := by decide +kernel
theorem dX4_showSeatsOf_0 : decode cX4_showSeatsOf 0 = .ok (.iload_n 2, 1) := by decide +kernel
theorem dX4_showSeatsOf_1 : decode cX4_showSeatsOf 1 = .ok (.istore_n 3, 1) := by decide +kernel
theorem dX4_showSeatsOf_2 : decode cX4_showSeatsOf 2 = .ok (.iconst 0, 1) := by decide +kernel
theorem dX4_showSeatsOf_3 : decode cX4_showSeatsOf 3 = .ok (.istore 4, 2) := by decide +kernel
theorem dX4_showSeatsOf_5 : decode cX4_showSeatsOf 5 = .ok (.iload 4, 2) := by decide +kernel
theorem dX4_showSeatsOf_7 : decode cX4_showSeatsOf 7 = .ok (.aload_n 1, 1) := by decide +kernel
theorem dX4_showSeatsOf_8 : decode cX4_showSeatsOf 8 = .ok (.getfield 188, 3) := by decide +kernel
theorem dX4_showSeatsOf_11 : decode cX4_showSeatsOf 11 = .ok (.if_icmp .ge 33, 3) := by decide +kernel
theorem dX4_showSeatsOf_14 : decode cX4_showSeatsOf 14 = .ok (.iload_n 3, 1) := by decide +kernel
theorem dX4_showSeatsOf_15 : decode cX4_showSeatsOf 15 = .ok (.iconst 4, 1) := by decide +kernel
theorem dX4_showSeatsOf_16 : decode cX4_showSeatsOf 16 = .ok (.if_icmp .ge 28, 3) := by decide +kernel
theorem dX4_showSeatsOf_19 : decode cX4_showSeatsOf 19 = .ok (.aload_n 1, 1) := by decide +kernel
theorem dX4_showSeatsOf_20 : decode cX4_showSeatsOf 20 = .ok (.getfield 191, 3) := by decide +kernel
theorem dX4_showSeatsOf_23 : decode cX4_showSeatsOf 23 = .ok (.iload 4, 2) := by decide +kernel
theorem dX4_showSeatsOf_25 : decode cX4_showSeatsOf 25 = .ok (.aload_n 0, 1) := by decide +kernel
theorem dX4_showSeatsOf_26 : decode cX4_showSeatsOf 26 = .ok (.getfield 45, 3) := by decide +kernel
theorem dX4_showSeatsOf_29 : decode cX4_showSeatsOf 29 = .ok (.getfield 194, 3) := by decide +kernel
theorem dX4_showSeatsOf_32 : decode cX4_showSeatsOf 32 = .ok (.iload_n 3, 1) := by decide +kernel
theorem dX4_showSeatsOf_33 : decode cX4_showSeatsOf 33 = .ok (.iaload, 1) := by decide +kernel
theorem dX4_showSeatsOf_34 : decode cX4_showSeatsOf 34 = .ok (.iastore, 1) := by decide +kernel
theorem dX4_showSeatsOf_35 : decode cX4_showSeatsOf 35 = .ok (.iinc 3 1, 3) := by decide +kernel
theorem dX4_showSeatsOf_38 : decode cX4_showSeatsOf 38 = .ok (.iinc 4 1, 3) := by decide +kernel
theorem dX4_showSeatsOf_41 : decode cX4_showSeatsOf 41 = .ok (.goto (-36), 3) := by decide +kernel
theorem dX4_showSeatsOf_44 : decode cX4_showSeatsOf 44 = .ok (.iload_n 3, 1) := by decide +kernel
theorem dX4_showSeatsOf_45 : decode cX4_showSeatsOf 45 = .ok (.ireturn, 1) := by decide +kernel
theorem dX4_countSlice_0 : decode cX4_countSlice 0 = .ok (.iconst 0, 1) := by decide +kernel
theorem dX4_countSlice_1 : decode cX4_countSlice 1 = .ok (.istore_n 3, 1) := by decide +kernel
theorem dX4_countSlice_2 : decode cX4_countSlice 2 = .ok (.iload_n 3, 1) := by decide +kernel
theorem dX4_countSlice_3 : decode cX4_countSlice 3 = .ok (.aload_n 0, 1) := by decide +kernel
theorem dX4_countSlice_4 : decode cX4_countSlice 4 = .ok (.getfield 53, 3) := by decide +kernel
theorem dX4_countSlice_7 : decode cX4_countSlice 7 = .ok (.if_icmp .ge 58, 3) := by decide +kernel
theorem dX4_countSlice_10 : decode cX4_countSlice 10 = .ok (.iload_n 2, 1) := by decide +kernel
theorem dX4_countSlice_11 : decode cX4_countSlice 11 = .ok (.iload_n 3, 1) := by decide +kernel
theorem dX4_countSlice_12 : decode cX4_countSlice 12 = .ok (.invokestatic 168, 3) := by decide +kernel
theorem dX4_countSlice_15 : decode cX4_countSlice 15 = .ok (.ifCond .eq 18, 3) := by decide +kernel
theorem dX4_countSlice_18 : decode cX4_countSlice 18 = .ok (.aload_n 0, 1) := by decide +kernel
theorem dX4_countSlice_19 : decode cX4_countSlice 19 = .ok (.getfield 31, 3) := by decide +kernel
theorem dX4_countSlice_22 : decode cX4_countSlice 22 = .ok (.iload_n 3, 1) := by decide +kernel
theorem dX4_countSlice_23 : decode cX4_countSlice 23 = .ok (.aaload, 1) := by decide +kernel
theorem dX4_countSlice_24 : decode cX4_countSlice 24 = .ok (.getfield 195, 3) := by decide +kernel
theorem dX4_countSlice_27 : decode cX4_countSlice 27 = .ok (.iload_n 1, 1) := by decide +kernel
theorem dX4_countSlice_28 : decode cX4_countSlice 28 = .ok (.dup2, 1) := by decide +kernel
theorem dX4_countSlice_29 : decode cX4_countSlice 29 = .ok (.iaload, 1) := by decide +kernel
theorem dX4_countSlice_30 : decode cX4_countSlice 30 = .ok (.iconst 1, 1) := by decide +kernel
theorem dX4_countSlice_31 : decode cX4_countSlice 31 = .ok (.iadd, 1) := by decide +kernel
theorem dX4_countSlice_32 : decode cX4_countSlice 32 = .ok (.iastore, 1) := by decide +kernel
theorem dX4_countSlice_33 : decode cX4_countSlice 33 = .ok (.aload_n 0, 1) := by decide +kernel
theorem dX4_countSlice_34 : decode cX4_countSlice 34 = .ok (.getfield 31, 3) := by decide +kernel
theorem dX4_countSlice_37 : decode cX4_countSlice 37 = .ok (.iload_n 3, 1) := by decide +kernel
theorem dX4_countSlice_38 : decode cX4_countSlice 38 = .ok (.aaload, 1) := by decide +kernel
theorem dX4_countSlice_39 : decode cX4_countSlice 39 = .ok (.getfield 175, 3) := by decide +kernel
theorem dX4_countSlice_42 : decode cX4_countSlice 42 = .ok (.ifCond .eq 17, 3) := by decide +kernel
theorem dX4_countSlice_45 : decode cX4_countSlice 45 = .ok (.aload_n 0, 1) := by decide +kernel
theorem dX4_countSlice_46 : decode cX4_countSlice 46 = .ok (.getfield 31, 3) := by decide +kernel
theorem dX4_countSlice_49 : decode cX4_countSlice 49 = .ok (.iload_n 3, 1) := by decide +kernel
theorem dX4_countSlice_50 : decode cX4_countSlice 50 = .ok (.aaload, 1) := by decide +kernel
theorem dX4_countSlice_51 : decode cX4_countSlice 51 = .ok (.aload_n 0, 1) := by decide +kernel
theorem dX4_countSlice_52 : decode cX4_countSlice 52 = .ok (.getfield 25, 3) := by decide +kernel
theorem dX4_countSlice_55 : decode cX4_countSlice 55 = .ok (.iload_n 1, 1) := by decide +kernel
theorem dX4_countSlice_56 : decode cX4_countSlice 56 = .ok (.invokevirtual 198, 3) := by decide +kernel
theorem dX4_countSlice_59 : decode cX4_countSlice 59 = .ok (.iinc 3 1, 3) := by decide +kernel
theorem dX4_countSlice_62 : decode cX4_countSlice 62 = .ok (.goto (-60), 3) := by decide +kernel
theorem dX4_countSlice_65 : decode cX4_countSlice 65 = .ok (.return_, 1) := by decide +kernel
theorem dX4_takeSamples_0 : decode cX4_takeSamples 0 = .ok (.iconst 0, 1) := by decide +kernel
theorem dX4_takeSamples_1 : decode cX4_takeSamples 1 = .ok (.istore_n 2, 1) := by decide +kernel
theorem dX4_takeSamples_2 : decode cX4_takeSamples 2 = .ok (.iload_n 2, 1) := by decide +kernel
theorem dX4_takeSamples_3 : decode cX4_takeSamples 3 = .ok (.aload_n 0, 1) := by decide +kernel
theorem dX4_takeSamples_4 : decode cX4_takeSamples 4 = .ok (.getfield 53, 3) := by decide +kernel
theorem dX4_takeSamples_7 : decode cX4_takeSamples 7 = .ok (.if_icmp .ge 113, 3) := by decide +kernel
theorem dX4_takeSamples_10 : decode cX4_takeSamples 10 = .ok (.aload_n 0, 1) := by decide +kernel
theorem dX4_takeSamples_11 : decode cX4_takeSamples 11 = .ok (.getfield 31, 3) := by decide +kernel
theorem dX4_takeSamples_14 : decode cX4_takeSamples 14 = .ok (.iload_n 2, 1) := by decide +kernel
theorem dX4_takeSamples_15 : decode cX4_takeSamples 15 = .ok (.aaload, 1) := by decide +kernel
theorem dX4_takeSamples_16 : decode cX4_takeSamples 16 = .ok (.astore_n 3, 1) := by decide +kernel
theorem dX4_takeSamples_17 : decode cX4_takeSamples 17 = .ok (.aload_n 3, 1) := by decide +kernel
theorem dX4_takeSamples_18 : decode cX4_takeSamples 18 = .ok (.getfield 175, 3) := by decide +kernel
theorem dX4_takeSamples_21 : decode cX4_takeSamples 21 = .ok (.ifCond .eq 93, 3) := by decide +kernel
theorem dX4_takeSamples_24 : decode cX4_takeSamples 24 = .ok (.aload_n 3, 1) := by decide +kernel
theorem dX4_takeSamples_25 : decode cX4_takeSamples 25 = .ok (.getfield 111, 3) := by decide +kernel
theorem dX4_takeSamples_28 : decode cX4_takeSamples 28 = .ok (.ifCond .le 86, 3) := by decide +kernel
theorem dX4_takeSamples_31 : decode cX4_takeSamples 31 = .ok (.aload_n 3, 1) := by decide +kernel
theorem dX4_takeSamples_32 : decode cX4_takeSamples 32 = .ok (.dup, 1) := by decide +kernel
theorem dX4_takeSamples_33 : decode cX4_takeSamples 33 = .ok (.getfield 114, 3) := by decide +kernel
theorem dX4_takeSamples_36 : decode cX4_takeSamples 36 = .ok (.aload_n 0, 1) := by decide +kernel
theorem dX4_takeSamples_37 : decode cX4_takeSamples 37 = .ok (.getfield 25, 3) := by decide +kernel
theorem dX4_takeSamples_40 : decode cX4_takeSamples 40 = .ok (.iload_n 1, 1) := by decide +kernel
theorem dX4_takeSamples_41 : decode cX4_takeSamples 41 = .ok (.aload_n 3, 1) := by decide +kernel
theorem dX4_takeSamples_42 : decode cX4_takeSamples 42 = .ok (.getfield 201, 3) := by decide +kernel
theorem dX4_takeSamples_45 : decode cX4_takeSamples 45 = .ok (.iconst 0, 1) := by decide +kernel
theorem dX4_takeSamples_46 : decode cX4_takeSamples 46 = .ok (.iaload, 1) := by decide +kernel
theorem dX4_takeSamples_47 : decode cX4_takeSamples 47 = .ok (.invokevirtual 204, 3) := by decide +kernel
theorem dX4_takeSamples_50 : decode cX4_takeSamples 50 = .ok (.iadd, 1) := by decide +kernel
theorem dX4_takeSamples_51 : decode cX4_takeSamples 51 = .ok (.putfield 114, 3) := by decide +kernel
theorem dX4_takeSamples_54 : decode cX4_takeSamples 54 = .ok (.aload_n 3, 1) := by decide +kernel
theorem dX4_takeSamples_55 : decode cX4_takeSamples 55 = .ok (.getfield 114, 3) := by decide +kernel
theorem dX4_takeSamples_58 : decode cX4_takeSamples 58 = .ok (.aload_n 3, 1) := by decide +kernel
theorem dX4_takeSamples_59 : decode cX4_takeSamples 59 = .ok (.getfield 111, 3) := by decide +kernel
theorem dX4_takeSamples_62 : decode cX4_takeSamples 62 = .ok (.idiv, 1) := by decide +kernel
theorem dX4_takeSamples_63 : decode cX4_takeSamples 63 = .ok (.istore 4, 2) := by decide +kernel
theorem dX4_takeSamples_65 : decode cX4_takeSamples 65 = .ok (.aload_n 3, 1) := by decide +kernel
theorem dX4_takeSamples_66 : decode cX4_takeSamples 66 = .ok (.dup, 1) := by decide +kernel
theorem dX4_takeSamples_67 : decode cX4_takeSamples 67 = .ok (.getfield 114, 3) := by decide +kernel
theorem dX4_takeSamples_70 : decode cX4_takeSamples 70 = .ok (.iload 4, 2) := by decide +kernel
theorem dX4_takeSamples_72 : decode cX4_takeSamples 72 = .ok (.aload_n 3, 1) := by decide +kernel
theorem dX4_takeSamples_73 : decode cX4_takeSamples 73 = .ok (.getfield 111, 3) := by decide +kernel
theorem dX4_takeSamples_76 : decode cX4_takeSamples 76 = .ok (.imul, 1) := by decide +kernel
theorem dX4_takeSamples_77 : decode cX4_takeSamples 77 = .ok (.isub, 1) := by decide +kernel
theorem dX4_takeSamples_78 : decode cX4_takeSamples 78 = .ok (.putfield 114, 3) := by decide +kernel
theorem dX4_takeSamples_81 : decode cX4_takeSamples 81 = .ok (.iconst 0, 1) := by decide +kernel
theorem dX4_takeSamples_82 : decode cX4_takeSamples 82 = .ok (.istore 5, 2) := by decide +kernel
theorem dX4_takeSamples_84 : decode cX4_takeSamples 84 = .ok (.iload 5, 2) := by decide +kernel
theorem dX4_takeSamples_86 : decode cX4_takeSamples 86 = .ok (.iload 4, 2) := by decide +kernel
theorem dX4_takeSamples_88 : decode cX4_takeSamples 88 = .ok (.if_icmp .ge 26, 3) := by decide +kernel
theorem dX4_takeSamples_91 : decode cX4_takeSamples 91 = .ok (.aload_n 0, 1) := by decide +kernel
theorem dX4_takeSamples_92 : decode cX4_takeSamples 92 = .ok (.getfield 41, 3) := by decide +kernel
theorem dX4_takeSamples_95 : decode cX4_takeSamples 95 = .ok (.iload_n 2, 1) := by decide +kernel
theorem dX4_takeSamples_96 : decode cX4_takeSamples 96 = .ok (.aload_n 0, 1) := by decide +kernel
theorem dX4_takeSamples_97 : decode cX4_takeSamples 97 = .ok (.getfield 50, 3) := by decide +kernel
theorem dX4_takeSamples_100 : decode cX4_takeSamples 100 = .ok (.aload_n 0, 1) := by decide +kernel
theorem dX4_takeSamples_101 : decode cX4_takeSamples 101 = .ok (.getfield 15, 3) := by decide +kernel
theorem dX4_takeSamples_104 : decode cX4_takeSamples 104 = .ok (.iadd, 1) := by decide +kernel
theorem dX4_takeSamples_105 : decode cX4_takeSamples 105 = .ok (.invokevirtual 208, 3) := by decide +kernel
theorem dX4_takeSamples_108 : decode cX4_takeSamples 108 = .ok (.iinc 5 1, 3) := by decide +kernel
theorem dX4_takeSamples_111 : decode cX4_takeSamples 111 = .ok (.goto (-27), 3) := by decide +kernel
theorem dX4_takeSamples_114 : decode cX4_takeSamples 114 = .ok (.iinc 2 1, 3) := by decide +kernel
theorem dX4_takeSamples_117 : decode cX4_takeSamples 117 = .ok (.goto (-115), 3) := by decide +kernel
theorem dX4_takeSamples_120 : decode cX4_takeSamples 120 = .ok (.return_, 1) := by decide +kernel
theorem dX4_takeTurn_0 : decode cX4_takeTurn 0 = .ok (.iconst 0, 1) := by decide +kernel
theorem dX4_takeTurn_1 : decode cX4_takeTurn 1 = .ok (.istore_n 2, 1) := by decide +kernel
theorem dX4_takeTurn_2 : decode cX4_takeTurn 2 = .ok (.iload_n 2, 1) := by decide +kernel
theorem dX4_takeTurn_3 : decode cX4_takeTurn 3 = .ok (.aload_n 0, 1) := by decide +kernel
theorem dX4_takeTurn_4 : decode cX4_takeTurn 4 = .ok (.getfield 56, 3) := by decide +kernel
theorem dX4_takeTurn_7 : decode cX4_takeTurn 7 = .ok (.if_icmp .ge 66, 3) := by decide +kernel
theorem dX4_takeTurn_10 : decode cX4_takeTurn 10 = .ok (.iload_n 1, 1) := by decide +kernel
theorem dX4_takeTurn_11 : decode cX4_takeTurn 11 = .ok (.aload_n 0, 1) := by decide +kernel
theorem dX4_takeTurn_12 : decode cX4_takeTurn 12 = .ok (.getfield 35, 3) := by decide +kernel
theorem dX4_takeTurn_15 : decode cX4_takeTurn 15 = .ok (.iload_n 2, 1) := by decide +kernel
theorem dX4_takeTurn_16 : decode cX4_takeTurn 16 = .ok (.iaload, 1) := by decide +kernel
theorem dX4_takeTurn_17 : decode cX4_takeTurn 17 = .ok (.invokestatic 168, 3) := by decide +kernel
theorem dX4_takeTurn_20 : decode cX4_takeTurn 20 = .ok (.ifCond .eq 47, 3) := by decide +kernel
theorem dX4_takeTurn_23 : decode cX4_takeTurn 23 = .ok (.aload_n 0, 1) := by decide +kernel
theorem dX4_takeTurn_24 : decode cX4_takeTurn 24 = .ok (.getfield 31, 3) := by decide +kernel
theorem dX4_takeTurn_27 : decode cX4_takeTurn 27 = .ok (.aload_n 0, 1) := by decide +kernel
theorem dX4_takeTurn_28 : decode cX4_takeTurn 28 = .ok (.getfield 35, 3) := by decide +kernel
theorem dX4_takeTurn_31 : decode cX4_takeTurn 31 = .ok (.iload_n 2, 1) := by decide +kernel
theorem dX4_takeTurn_32 : decode cX4_takeTurn 32 = .ok (.iaload, 1) := by decide +kernel
theorem dX4_takeTurn_33 : decode cX4_takeTurn 33 = .ok (.aaload, 1) := by decide +kernel
theorem dX4_takeTurn_34 : decode cX4_takeTurn 34 = .ok (.astore_n 3, 1) := by decide +kernel
theorem dX4_takeTurn_35 : decode cX4_takeTurn 35 = .ok (.aload_n 3, 1) := by decide +kernel
theorem dX4_takeTurn_36 : decode cX4_takeTurn 36 = .ok (.dup, 1) := by decide +kernel
theorem dX4_takeTurn_37 : decode cX4_takeTurn 37 = .ok (.getfield 211, 3) := by decide +kernel
theorem dX4_takeTurn_40 : decode cX4_takeTurn 40 = .ok (.iconst 1, 1) := by decide +kernel
theorem dX4_takeTurn_41 : decode cX4_takeTurn 41 = .ok (.iadd, 1) := by decide +kernel
theorem dX4_takeTurn_42 : decode cX4_takeTurn 42 = .ok (.putfield 211, 3) := by decide +kernel
theorem dX4_takeTurn_45 : decode cX4_takeTurn 45 = .ok (.aload_n 3, 1) := by decide +kernel
theorem dX4_takeTurn_46 : decode cX4_takeTurn 46 = .ok (.getfield 211, 3) := by decide +kernel
theorem dX4_takeTurn_49 : decode cX4_takeTurn 49 = .ok (.aload_n 3, 1) := by decide +kernel
theorem dX4_takeTurn_50 : decode cX4_takeTurn 50 = .ok (.getfield 214, 3) := by decide +kernel
theorem dX4_takeTurn_53 : decode cX4_takeTurn 53 = .ok (.if_icmp .lt 13, 3) := by decide +kernel
theorem dX4_takeTurn_56 : decode cX4_takeTurn 56 = .ok (.aload_n 3, 1) := by decide +kernel
theorem dX4_takeTurn_57 : decode cX4_takeTurn 57 = .ok (.iconst 0, 1) := by decide +kernel
theorem dX4_takeTurn_58 : decode cX4_takeTurn 58 = .ok (.putfield 211, 3) := by decide +kernel
theorem dX4_takeTurn_61 : decode cX4_takeTurn 61 = .ok (.aload_n 0, 1) := by decide +kernel
theorem dX4_takeTurn_62 : decode cX4_takeTurn 62 = .ok (.iload_n 2, 1) := by decide +kernel
theorem dX4_takeTurn_63 : decode cX4_takeTurn 63 = .ok (.invokevirtual 217, 3) := by decide +kernel
theorem dX4_takeTurn_66 : decode cX4_takeTurn 66 = .ok (.return_, 1) := by decide +kernel
theorem dX4_takeTurn_67 : decode cX4_takeTurn 67 = .ok (.iinc 2 1, 3) := by decide +kernel
theorem dX4_takeTurn_70 : decode cX4_takeTurn 70 = .ok (.goto (-68), 3) := by decide +kernel
theorem dX4_takeTurn_73 : decode cX4_takeTurn 73 = .ok (.return_, 1) := by decide +kernel
theorem dX4_moveToEnd_0 : decode cX4_moveToEnd 0 = .ok (.aload_n 0, 1) := by decide +kernel
theorem dX4_moveToEnd_1 : decode cX4_moveToEnd 1 = .ok (.getfield 35, 3) := by decide +kernel
theorem dX4_moveToEnd_4 : decode cX4_moveToEnd 4 = .ok (.iload_n 1, 1) := by decide +kernel
theorem dX4_moveToEnd_5 : decode cX4_moveToEnd 5 = .ok (.iaload, 1) := by decide +kernel
theorem dX4_moveToEnd_6 : decode cX4_moveToEnd 6 = .ok (.istore_n 2, 1) := by decide +kernel
theorem dX4_moveToEnd_7 : decode cX4_moveToEnd 7 = .ok (.iload_n 1, 1) := by decide +kernel
theorem dX4_moveToEnd_8 : decode cX4_moveToEnd 8 = .ok (.istore_n 3, 1) := by decide +kernel
theorem dX4_moveToEnd_9 : decode cX4_moveToEnd 9 = .ok (.iload_n 3, 1) := by decide +kernel
theorem dX4_moveToEnd_10 : decode cX4_moveToEnd 10 = .ok (.iconst 1, 1) := by decide +kernel
theorem dX4_moveToEnd_11 : decode cX4_moveToEnd 11 = .ok (.iadd, 1) := by decide +kernel
theorem dX4_moveToEnd_12 : decode cX4_moveToEnd 12 = .ok (.aload_n 0, 1) := by decide +kernel
theorem dX4_moveToEnd_13 : decode cX4_moveToEnd 13 = .ok (.getfield 56, 3) := by decide +kernel
theorem dX4_moveToEnd_16 : decode cX4_moveToEnd 16 = .ok (.if_icmp .ge 23, 3) := by decide +kernel
theorem dX4_moveToEnd_19 : decode cX4_moveToEnd 19 = .ok (.aload_n 0, 1) := by decide +kernel
theorem dX4_moveToEnd_20 : decode cX4_moveToEnd 20 = .ok (.getfield 35, 3) := by decide +kernel
theorem dX4_moveToEnd_23 : decode cX4_moveToEnd 23 = .ok (.iload_n 3, 1) := by decide +kernel
theorem dX4_moveToEnd_24 : decode cX4_moveToEnd 24 = .ok (.aload_n 0, 1) := by decide +kernel
theorem dX4_moveToEnd_25 : decode cX4_moveToEnd 25 = .ok (.getfield 35, 3) := by decide +kernel
theorem dX4_moveToEnd_28 : decode cX4_moveToEnd 28 = .ok (.iload_n 3, 1) := by decide +kernel
theorem dX4_moveToEnd_29 : decode cX4_moveToEnd 29 = .ok (.iconst 1, 1) := by decide +kernel
theorem dX4_moveToEnd_30 : decode cX4_moveToEnd 30 = .ok (.iadd, 1) := by decide +kernel
theorem dX4_moveToEnd_31 : decode cX4_moveToEnd 31 = .ok (.iaload, 1) := by decide +kernel
theorem dX4_moveToEnd_32 : decode cX4_moveToEnd 32 = .ok (.iastore, 1) := by decide +kernel
theorem dX4_moveToEnd_33 : decode cX4_moveToEnd 33 = .ok (.iinc 3 1, 3) := by decide +kernel
theorem dX4_moveToEnd_36 : decode cX4_moveToEnd 36 = .ok (.goto (-27), 3) := by decide +kernel
theorem dX4_moveToEnd_39 : decode cX4_moveToEnd 39 = .ok (.aload_n 0, 1) := by decide +kernel
theorem dX4_moveToEnd_40 : decode cX4_moveToEnd 40 = .ok (.getfield 35, 3) := by decide +kernel
theorem dX4_moveToEnd_43 : decode cX4_moveToEnd 43 = .ok (.aload_n 0, 1) := by decide +kernel
theorem dX4_moveToEnd_44 : decode cX4_moveToEnd 44 = .ok (.getfield 56, 3) := by decide +kernel
theorem dX4_moveToEnd_47 : decode cX4_moveToEnd 47 = .ok (.iconst 1, 1) := by decide +kernel
theorem dX4_moveToEnd_48 : decode cX4_moveToEnd 48 = .ok (.isub, 1) := by decide +kernel
theorem dX4_moveToEnd_49 : decode cX4_moveToEnd 49 = .ok (.iload_n 2, 1) := by decide +kernel
theorem dX4_moveToEnd_50 : decode cX4_moveToEnd 50 = .ok (.iastore, 1) := by decide +kernel
theorem dX4_moveToEnd_51 : decode cX4_moveToEnd 51 = .ok (.return_, 1) := by decide +kernel
theorem dX4_taskFact_0 : decode cX4_taskFact 0 = .ok (.aload_n 0, 1) := by decide +kernel
theorem dX4_taskFact_1 : decode cX4_taskFact 1 = .ok (.getfield 25, 3) := by decide +kernel
theorem dX4_taskFact_4 : decode cX4_taskFact 4 = .ok (.iload_n 1, 1) := by decide +kernel
theorem dX4_taskFact_5 : decode cX4_taskFact 5 = .ok (.invokevirtual 84, 3) := by decide +kernel
theorem dX4_taskFact_8 : decode cX4_taskFact 8 = .ok (.ifCond .ne 6, 3) := by decide +kernel
theorem dX4_taskFact_11 : decode cX4_taskFact 11 = .ok (.bipush (-2), 2) := by decide +kernel
theorem dX4_taskFact_13 : decode cX4_taskFact 13 = .ok (.ireturn, 1) := by decide +kernel
theorem dX4_taskFact_14 : decode cX4_taskFact 14 = .ok (.iload_n 2, 1) := by decide +kernel
theorem dX4_taskFact_15 : decode cX4_taskFact 15 = .ok (.tableswitch 51 0 2 #[25, 35, 45], 25) := by decide +kernel
theorem dX4_taskFact_40 : decode cX4_taskFact 40 = .ok (.aload_n 0, 1) := by decide +kernel
theorem dX4_taskFact_41 : decode cX4_taskFact 41 = .ok (.getfield 25, 3) := by decide +kernel
theorem dX4_taskFact_44 : decode cX4_taskFact 44 = .ok (.getfield 93, 3) := by decide +kernel
theorem dX4_taskFact_47 : decode cX4_taskFact 47 = .ok (.iload_n 1, 1) := by decide +kernel
theorem dX4_taskFact_48 : decode cX4_taskFact 48 = .ok (.iaload, 1) := by decide +kernel
theorem dX4_taskFact_49 : decode cX4_taskFact 49 = .ok (.ireturn, 1) := by decide +kernel
theorem dX4_taskFact_50 : decode cX4_taskFact 50 = .ok (.aload_n 0, 1) := by decide +kernel
theorem dX4_taskFact_51 : decode cX4_taskFact 51 = .ok (.getfield 25, 3) := by decide +kernel
theorem dX4_taskFact_54 : decode cX4_taskFact 54 = .ok (.getfield 96, 3) := by decide +kernel
theorem dX4_taskFact_57 : decode cX4_taskFact 57 = .ok (.iload_n 1, 1) := by decide +kernel
theorem dX4_taskFact_58 : decode cX4_taskFact 58 = .ok (.iaload, 1) := by decide +kernel
theorem dX4_taskFact_59 : decode cX4_taskFact 59 = .ok (.ireturn, 1) := by decide +kernel
theorem dX4_taskFact_60 : decode cX4_taskFact 60 = .ok (.aload_n 0, 1) := by decide +kernel
theorem dX4_taskFact_61 : decode cX4_taskFact 61 = .ok (.iload_n 1, 1) := by decide +kernel
theorem dX4_taskFact_62 : decode cX4_taskFact 62 = .ok (.invokevirtual 129, 3) := by decide +kernel
theorem dX4_taskFact_65 : decode cX4_taskFact 65 = .ok (.ireturn, 1) := by decide +kernel
theorem dX4_taskFact_66 : decode cX4_taskFact 66 = .ok (.bipush (-2), 2) := by decide +kernel
theorem dX4_taskFact_68 : decode cX4_taskFact 68 = .ok (.ireturn, 1) := by decide +kernel
theorem dX4_groupFact_0 : decode cX4_groupFact 0 = .ok (.aload_n 0, 1) := by decide +kernel
theorem dX4_groupFact_1 : decode cX4_groupFact 1 = .ok (.iload_n 1, 1) := by decide +kernel
theorem dX4_groupFact_2 : decode cX4_groupFact 2 = .ok (.invokevirtual 77, 3) := by decide +kernel
theorem dX4_groupFact_5 : decode cX4_groupFact 5 = .ok (.ifCond .ne 6, 3) := by decide +kernel
theorem dX4_groupFact_8 : decode cX4_groupFact 8 = .ok (.bipush (-2), 2) := by decide +kernel
theorem dX4_groupFact_10 : decode cX4_groupFact 10 = .ok (.ireturn, 1) := by decide +kernel
theorem dX4_groupFact_11 : decode cX4_groupFact 11 = .ok (.aload_n 0, 1) := by decide +kernel
theorem dX4_groupFact_12 : decode cX4_groupFact 12 = .ok (.getfield 31, 3) := by decide +kernel
theorem dX4_groupFact_15 : decode cX4_groupFact 15 = .ok (.iload_n 1, 1) := by decide +kernel
theorem dX4_groupFact_16 : decode cX4_groupFact 16 = .ok (.aaload, 1) := by decide +kernel
theorem dX4_groupFact_17 : decode cX4_groupFact 17 = .ok (.astore_n 3, 1) := by decide +kernel
theorem dX4_groupFact_18 : decode cX4_groupFact 18 = .ok (.iload_n 2, 1) := by decide +kernel
theorem dX4_groupFact_19 : decode cX4_groupFact 19 = .ok (.tableswitch 125 0 10 #[57, 62, 67, 75, 83, 91, 96, 101, 106, 111, 117], 57) := by decide +kernel
theorem dX4_groupFact_76 : decode cX4_groupFact 76 = .ok (.aload_n 3, 1) := by decide +kernel
theorem dX4_groupFact_77 : decode cX4_groupFact 77 = .ok (.getfield 147, 3) := by decide +kernel
theorem dX4_groupFact_80 : decode cX4_groupFact 80 = .ok (.ireturn, 1) := by decide +kernel
theorem dX4_groupFact_81 : decode cX4_groupFact 81 = .ok (.aload_n 3, 1) := by decide +kernel
theorem dX4_groupFact_82 : decode cX4_groupFact 82 = .ok (.getfield 214, 3) := by decide +kernel
theorem dX4_groupFact_85 : decode cX4_groupFact 85 = .ok (.ireturn, 1) := by decide +kernel
theorem dX4_groupFact_86 : decode cX4_groupFact 86 = .ok (.aload_n 3, 1) := by decide +kernel
theorem dX4_groupFact_87 : decode cX4_groupFact 87 = .ok (.getfield 165, 3) := by decide +kernel
theorem dX4_groupFact_90 : decode cX4_groupFact 90 = .ok (.invokestatic 121, 3) := by decide +kernel
theorem dX4_groupFact_93 : decode cX4_groupFact 93 = .ok (.ireturn, 1) := by decide +kernel
theorem dX4_groupFact_94 : decode cX4_groupFact 94 = .ok (.aload_n 3, 1) := by decide +kernel
theorem dX4_groupFact_95 : decode cX4_groupFact 95 = .ok (.getfield 150, 3) := by decide +kernel
theorem dX4_groupFact_98 : decode cX4_groupFact 98 = .ok (.invokestatic 121, 3) := by decide +kernel
theorem dX4_groupFact_101 : decode cX4_groupFact 101 = .ok (.ireturn, 1) := by decide +kernel
theorem dX4_groupFact_102 : decode cX4_groupFact 102 = .ok (.aload_n 3, 1) := by decide +kernel
theorem dX4_groupFact_103 : decode cX4_groupFact 103 = .ok (.getfield 117, 3) := by decide +kernel
theorem dX4_groupFact_106 : decode cX4_groupFact 106 = .ok (.invokestatic 121, 3) := by decide +kernel
theorem dX4_groupFact_109 : decode cX4_groupFact 109 = .ok (.ireturn, 1) := by decide +kernel
theorem dX4_groupFact_110 : decode cX4_groupFact 110 = .ok (.aload_n 3, 1) := by decide +kernel
theorem dX4_groupFact_111 : decode cX4_groupFact 111 = .ok (.getfield 188, 3) := by decide +kernel
theorem dX4_groupFact_114 : decode cX4_groupFact 114 = .ok (.ireturn, 1) := by decide +kernel
theorem dX4_groupFact_115 : decode cX4_groupFact 115 = .ok (.aload_n 3, 1) := by decide +kernel
theorem dX4_groupFact_116 : decode cX4_groupFact 116 = .ok (.getfield 211, 3) := by decide +kernel
theorem dX4_groupFact_119 : decode cX4_groupFact 119 = .ok (.ireturn, 1) := by decide +kernel
theorem dX4_groupFact_120 : decode cX4_groupFact 120 = .ok (.aload_n 3, 1) := by decide +kernel
theorem dX4_groupFact_121 : decode cX4_groupFact 121 = .ok (.getfield 111, 3) := by decide +kernel
theorem dX4_groupFact_124 : decode cX4_groupFact 124 = .ok (.ireturn, 1) := by decide +kernel
theorem dX4_groupFact_125 : decode cX4_groupFact 125 = .ok (.aload_n 3, 1) := by decide +kernel
theorem dX4_groupFact_126 : decode cX4_groupFact 126 = .ok (.getfield 114, 3) := by decide +kernel
theorem dX4_groupFact_129 : decode cX4_groupFact 129 = .ok (.ireturn, 1) := by decide +kernel
theorem dX4_groupFact_130 : decode cX4_groupFact 130 = .ok (.aload_n 0, 1) := by decide +kernel
theorem dX4_groupFact_131 : decode cX4_groupFact 131 = .ok (.iload_n 1, 1) := by decide +kernel
theorem dX4_groupFact_132 : decode cX4_groupFact 132 = .ok (.invokevirtual 220, 3) := by decide +kernel
theorem dX4_groupFact_135 : decode cX4_groupFact 135 = .ok (.ireturn, 1) := by decide +kernel
theorem dX4_groupFact_136 : decode cX4_groupFact 136 = .ok (.aload_n 3, 1) := by decide +kernel
theorem dX4_groupFact_137 : decode cX4_groupFact 137 = .ok (.getfield 175, 3) := by decide +kernel
theorem dX4_groupFact_140 : decode cX4_groupFact 140 = .ok (.invokestatic 121, 3) := by decide +kernel
theorem dX4_groupFact_143 : decode cX4_groupFact 143 = .ok (.ireturn, 1) := by decide +kernel
theorem dX4_groupFact_144 : decode cX4_groupFact 144 = .ok (.bipush (-2), 2) := by decide +kernel
theorem dX4_groupFact_146 : decode cX4_groupFact 146 = .ok (.ireturn, 1) := by decide +kernel
theorem dX4_placeInLine_0 : decode cX4_placeInLine 0 = .ok (.iconst 0, 1) := by decide +kernel
theorem dX4_placeInLine_1 : decode cX4_placeInLine 1 = .ok (.istore_n 2, 1) := by decide +kernel
theorem dX4_placeInLine_2 : decode cX4_placeInLine 2 = .ok (.iload_n 2, 1) := by decide +kernel
theorem dX4_placeInLine_3 : decode cX4_placeInLine 3 = .ok (.aload_n 0, 1) := by decide +kernel
theorem dX4_placeInLine_4 : decode cX4_placeInLine 4 = .ok (.getfield 56, 3) := by decide +kernel
theorem dX4_placeInLine_7 : decode cX4_placeInLine 7 = .ok (.if_icmp .ge 21, 3) := by decide +kernel
theorem dX4_placeInLine_10 : decode cX4_placeInLine 10 = .ok (.aload_n 0, 1) := by decide +kernel
theorem dX4_placeInLine_11 : decode cX4_placeInLine 11 = .ok (.getfield 35, 3) := by decide +kernel
theorem dX4_placeInLine_14 : decode cX4_placeInLine 14 = .ok (.iload_n 2, 1) := by decide +kernel
theorem dX4_placeInLine_15 : decode cX4_placeInLine 15 = .ok (.iaload, 1) := by decide +kernel
theorem dX4_placeInLine_16 : decode cX4_placeInLine 16 = .ok (.iload_n 1, 1) := by decide +kernel
theorem dX4_placeInLine_17 : decode cX4_placeInLine 17 = .ok (.if_icmp .ne 5, 3) := by decide +kernel
theorem dX4_placeInLine_20 : decode cX4_placeInLine 20 = .ok (.iload_n 2, 1) := by decide +kernel
theorem dX4_placeInLine_21 : decode cX4_placeInLine 21 = .ok (.ireturn, 1) := by decide +kernel
theorem dX4_placeInLine_22 : decode cX4_placeInLine 22 = .ok (.iinc 2 1, 3) := by decide +kernel
theorem dX4_placeInLine_25 : decode cX4_placeInLine 25 = .ok (.goto (-23), 3) := by decide +kernel
theorem dX4_placeInLine_28 : decode cX4_placeInLine 28 = .ok (.iconst (-1), 1) := by decide +kernel
theorem dX4_placeInLine_29 : decode cX4_placeInLine 29 = .ok (.ireturn, 1) := by decide +kernel
theorem dX4_eventFact_0 : decode cX4_eventFact 0 = .ok (.aload_n 0, 1) := by decide +kernel
theorem dX4_eventFact_1 : decode cX4_eventFact 1 = .ok (.iload_n 1, 1) := by decide +kernel
theorem dX4_eventFact_2 : decode cX4_eventFact 2 = .ok (.iload_n 2, 1) := by decide +kernel
theorem dX4_eventFact_3 : decode cX4_eventFact 3 = .ok (.invokevirtual 223, 3) := by decide +kernel
theorem dX4_eventFact_6 : decode cX4_eventFact 6 = .ok (.ifCond .ne 6, 3) := by decide +kernel
theorem dX4_eventFact_9 : decode cX4_eventFact 9 = .ok (.bipush (-2), 2) := by decide +kernel
theorem dX4_eventFact_11 : decode cX4_eventFact 11 = .ok (.ireturn, 1) := by decide +kernel
theorem dX4_eventFact_12 : decode cX4_eventFact 12 = .ok (.iload_n 3, 1) := by decide +kernel
theorem dX4_eventFact_13 : decode cX4_eventFact 13 = .ok (.tableswitch 63 0 2 #[27, 39, 51], 27) := by decide +kernel
theorem dX4_eventFact_40 : decode cX4_eventFact 40 = .ok (.aload_n 0, 1) := by decide +kernel
theorem dX4_eventFact_41 : decode cX4_eventFact 41 = .ok (.getfield 31, 3) := by decide +kernel
theorem dX4_eventFact_44 : decode cX4_eventFact 44 = .ok (.iload_n 1, 1) := by decide +kernel
theorem dX4_eventFact_45 : decode cX4_eventFact 45 = .ok (.aaload, 1) := by decide +kernel
theorem dX4_eventFact_46 : decode cX4_eventFact 46 = .ok (.getfield 201, 3) := by decide +kernel
theorem dX4_eventFact_49 : decode cX4_eventFact 49 = .ok (.iload_n 2, 1) := by decide +kernel
theorem dX4_eventFact_50 : decode cX4_eventFact 50 = .ok (.iaload, 1) := by decide +kernel
theorem dX4_eventFact_51 : decode cX4_eventFact 51 = .ok (.ireturn, 1) := by decide +kernel
theorem dX4_eventFact_52 : decode cX4_eventFact 52 = .ok (.aload_n 0, 1) := by decide +kernel
theorem dX4_eventFact_53 : decode cX4_eventFact 53 = .ok (.getfield 31, 3) := by decide +kernel
theorem dX4_eventFact_56 : decode cX4_eventFact 56 = .ok (.iload_n 1, 1) := by decide +kernel
theorem dX4_eventFact_57 : decode cX4_eventFact 57 = .ok (.aaload, 1) := by decide +kernel
theorem dX4_eventFact_58 : decode cX4_eventFact 58 = .ok (.getfield 225, 3) := by decide +kernel
theorem dX4_eventFact_61 : decode cX4_eventFact 61 = .ok (.iload_n 2, 1) := by decide +kernel
theorem dX4_eventFact_62 : decode cX4_eventFact 62 = .ok (.iaload, 1) := by decide +kernel
theorem dX4_eventFact_63 : decode cX4_eventFact 63 = .ok (.ireturn, 1) := by decide +kernel
theorem dX4_eventFact_64 : decode cX4_eventFact 64 = .ok (.aload_n 0, 1) := by decide +kernel
theorem dX4_eventFact_65 : decode cX4_eventFact 65 = .ok (.getfield 31, 3) := by decide +kernel
theorem dX4_eventFact_68 : decode cX4_eventFact 68 = .ok (.iload_n 1, 1) := by decide +kernel
theorem dX4_eventFact_69 : decode cX4_eventFact 69 = .ok (.aaload, 1) := by decide +kernel
theorem dX4_eventFact_70 : decode cX4_eventFact 70 = .ok (.getfield 191, 3) := by decide +kernel
theorem dX4_eventFact_73 : decode cX4_eventFact 73 = .ok (.iload_n 2, 1) := by decide +kernel
theorem dX4_eventFact_74 : decode cX4_eventFact 74 = .ok (.iaload, 1) := by decide +kernel
theorem dX4_eventFact_75 : decode cX4_eventFact 75 = .ok (.ireturn, 1) := by decide +kernel
theorem dX4_eventFact_76 : decode cX4_eventFact 76 = .ok (.bipush (-2), 2) := by decide +kernel
theorem dX4_eventFact_78 : decode cX4_eventFact 78 = .ok (.ireturn, 1) := by decide +kernel
theorem dX4_countFact_0 : decode cX4_countFact 0 = .ok (.aload_n 0, 1) := by decide +kernel
theorem dX4_countFact_1 : decode cX4_countFact 1 = .ok (.iload_n 1, 1) := by decide +kernel
theorem dX4_countFact_2 : decode cX4_countFact 2 = .ok (.iload_n 2, 1) := by decide +kernel
theorem dX4_countFact_3 : decode cX4_countFact 3 = .ok (.invokevirtual 223, 3) := by decide +kernel
theorem dX4_countFact_6 : decode cX4_countFact 6 = .ok (.ifCond .eq 19, 3) := by decide +kernel
theorem dX4_countFact_9 : decode cX4_countFact 9 = .ok (.iload_n 3, 1) := by decide +kernel
theorem dX4_countFact_10 : decode cX4_countFact 10 = .ok (.iconst (-1), 1) := by decide +kernel
theorem dX4_countFact_11 : decode cX4_countFact 11 = .ok (.if_icmp .eq 17, 3) := by decide +kernel
theorem dX4_countFact_14 : decode cX4_countFact 14 = .ok (.aload_n 0, 1) := by decide +kernel
theorem dX4_countFact_15 : decode cX4_countFact 15 = .ok (.getfield 25, 3) := by decide +kernel
theorem dX4_countFact_18 : decode cX4_countFact 18 = .ok (.iload_n 3, 1) := by decide +kernel
theorem dX4_countFact_19 : decode cX4_countFact 19 = .ok (.invokevirtual 84, 3) := by decide +kernel
theorem dX4_countFact_22 : decode cX4_countFact 22 = .ok (.ifCond .ne 6, 3) := by decide +kernel
theorem dX4_countFact_25 : decode cX4_countFact 25 = .ok (.bipush (-2), 2) := by decide +kernel
theorem dX4_countFact_27 : decode cX4_countFact 27 = .ok (.ireturn, 1) := by decide +kernel
theorem dX4_countFact_28 : decode cX4_countFact 28 = .ok (.aload_n 0, 1) := by decide +kernel
theorem dX4_countFact_29 : decode cX4_countFact 29 = .ok (.getfield 31, 3) := by decide +kernel
theorem dX4_countFact_32 : decode cX4_countFact 32 = .ok (.iload_n 1, 1) := by decide +kernel
theorem dX4_countFact_33 : decode cX4_countFact 33 = .ok (.aaload, 1) := by decide +kernel
theorem dX4_countFact_34 : decode cX4_countFact 34 = .ok (.iload_n 2, 1) := by decide +kernel
theorem dX4_countFact_35 : decode cX4_countFact 35 = .ok (.iload_n 3, 1) := by decide +kernel
theorem dX4_countFact_36 : decode cX4_countFact 36 = .ok (.invokevirtual 228, 3) := by decide +kernel
theorem dX4_countFact_39 : decode cX4_countFact 39 = .ok (.ireturn, 1) := by decide +kernel
theorem dX4_timeFact_0 : decode cX4_timeFact 0 = .ok (.aload_n 0, 1) := by decide +kernel
theorem dX4_timeFact_1 : decode cX4_timeFact 1 = .ok (.iload_n 1, 1) := by decide +kernel
theorem dX4_timeFact_2 : decode cX4_timeFact 2 = .ok (.invokevirtual 77, 3) := by decide +kernel
theorem dX4_timeFact_5 : decode cX4_timeFact 5 = .ok (.ifCond .eq 28, 3) := by decide +kernel
theorem dX4_timeFact_8 : decode cX4_timeFact 8 = .ok (.iload_n 2, 1) := by decide +kernel
theorem dX4_timeFact_9 : decode cX4_timeFact 9 = .ok (.iconst (-1), 1) := by decide +kernel
theorem dX4_timeFact_10 : decode cX4_timeFact 10 = .ok (.if_icmp .eq 14, 3) := by decide +kernel
theorem dX4_timeFact_13 : decode cX4_timeFact 13 = .ok (.aload_n 0, 1) := by decide +kernel
theorem dX4_timeFact_14 : decode cX4_timeFact 14 = .ok (.getfield 25, 3) := by decide +kernel
theorem dX4_timeFact_17 : decode cX4_timeFact 17 = .ok (.iload_n 2, 1) := by decide +kernel
theorem dX4_timeFact_18 : decode cX4_timeFact 18 = .ok (.invokevirtual 84, 3) := by decide +kernel
theorem dX4_timeFact_21 : decode cX4_timeFact 21 = .ok (.ifCond .eq 12, 3) := by decide +kernel
theorem dX4_timeFact_24 : decode cX4_timeFact 24 = .ok (.iload_n 3, 1) := by decide +kernel
theorem dX4_timeFact_25 : decode cX4_timeFact 25 = .ok (.iconst 0, 1) := by decide +kernel
theorem dX4_timeFact_26 : decode cX4_timeFact 26 = .ok (.iconst 1, 1) := by decide +kernel
theorem dX4_timeFact_27 : decode cX4_timeFact 27 = .ok (.invokestatic 73, 3) := by decide +kernel
theorem dX4_timeFact_30 : decode cX4_timeFact 30 = .ok (.ifCond .ne 6, 3) := by decide +kernel
theorem dX4_timeFact_33 : decode cX4_timeFact 33 = .ok (.bipush (-2), 2) := by decide +kernel
theorem dX4_timeFact_35 : decode cX4_timeFact 35 = .ok (.ireturn, 1) := by decide +kernel
theorem dX4_timeFact_36 : decode cX4_timeFact 36 = .ok (.iload_n 3, 1) := by decide +kernel
theorem dX4_timeFact_37 : decode cX4_timeFact 37 = .ok (.ifCond .ne 16, 3) := by decide +kernel
theorem dX4_timeFact_40 : decode cX4_timeFact 40 = .ok (.aload_n 0, 1) := by decide +kernel
theorem dX4_timeFact_41 : decode cX4_timeFact 41 = .ok (.getfield 31, 3) := by decide +kernel
theorem dX4_timeFact_44 : decode cX4_timeFact 44 = .ok (.iload_n 1, 1) := by decide +kernel
theorem dX4_timeFact_45 : decode cX4_timeFact 45 = .ok (.aaload, 1) := by decide +kernel
theorem dX4_timeFact_46 : decode cX4_timeFact 46 = .ok (.iload_n 2, 1) := by decide +kernel
theorem dX4_timeFact_47 : decode cX4_timeFact 47 = .ok (.invokevirtual 231, 3) := by decide +kernel
theorem dX4_timeFact_50 : decode cX4_timeFact 50 = .ok (.goto 13, 3) := by decide +kernel
theorem dX4_timeFact_53 : decode cX4_timeFact 53 = .ok (.aload_n 0, 1) := by decide +kernel
theorem dX4_timeFact_54 : decode cX4_timeFact 54 = .ok (.getfield 31, 3) := by decide +kernel
theorem dX4_timeFact_57 : decode cX4_timeFact 57 = .ok (.iload_n 1, 1) := by decide +kernel
theorem dX4_timeFact_58 : decode cX4_timeFact 58 = .ok (.aaload, 1) := by decide +kernel
theorem dX4_timeFact_59 : decode cX4_timeFact 59 = .ok (.iload_n 2, 1) := by decide +kernel
theorem dX4_timeFact_60 : decode cX4_timeFact 60 = .ok (.invokevirtual 234, 3) := by decide +kernel
theorem dX4_timeFact_63 : decode cX4_timeFact 63 = .ok (.ireturn, 1) := by decide +kernel
theorem dX4_scaledFact_0 : decode cX4_scaledFact 0 = .ok (.aload_n 0, 1) := by decide +kernel
theorem dX4_scaledFact_1 : decode cX4_scaledFact 1 = .ok (.iload_n 1, 1) := by decide +kernel
theorem dX4_scaledFact_2 : decode cX4_scaledFact 2 = .ok (.iload_n 2, 1) := by decide +kernel
theorem dX4_scaledFact_3 : decode cX4_scaledFact 3 = .ok (.invokevirtual 223, 3) := by decide +kernel
theorem dX4_scaledFact_6 : decode cX4_scaledFact 6 = .ok (.ifCond .eq 12, 3) := by decide +kernel
theorem dX4_scaledFact_9 : decode cX4_scaledFact 9 = .ok (.iload_n 3, 1) := by decide +kernel
theorem dX4_scaledFact_10 : decode cX4_scaledFact 10 = .ok (.iconst 0, 1) := by decide +kernel
theorem dX4_scaledFact_11 : decode cX4_scaledFact 11 = .ok (.iconst 1, 1) := by decide +kernel
theorem dX4_scaledFact_12 : decode cX4_scaledFact 12 = .ok (.invokestatic 73, 3) := by decide +kernel
theorem dX4_scaledFact_15 : decode cX4_scaledFact 15 = .ok (.ifCond .ne 6, 3) := by decide +kernel
theorem dX4_scaledFact_18 : decode cX4_scaledFact 18 = .ok (.bipush (-2), 2) := by decide +kernel
theorem dX4_scaledFact_20 : decode cX4_scaledFact 20 = .ok (.ireturn, 1) := by decide +kernel
theorem dX4_scaledFact_21 : decode cX4_scaledFact 21 = .ok (.iload_n 3, 1) := by decide +kernel
theorem dX4_scaledFact_22 : decode cX4_scaledFact 22 = .ok (.ifCond .ne 16, 3) := by decide +kernel
theorem dX4_scaledFact_25 : decode cX4_scaledFact 25 = .ok (.aload_n 0, 1) := by decide +kernel
theorem dX4_scaledFact_26 : decode cX4_scaledFact 26 = .ok (.getfield 31, 3) := by decide +kernel
theorem dX4_scaledFact_29 : decode cX4_scaledFact 29 = .ok (.iload_n 1, 1) := by decide +kernel
theorem dX4_scaledFact_30 : decode cX4_scaledFact 30 = .ok (.aaload, 1) := by decide +kernel
theorem dX4_scaledFact_31 : decode cX4_scaledFact 31 = .ok (.iload_n 2, 1) := by decide +kernel
theorem dX4_scaledFact_32 : decode cX4_scaledFact 32 = .ok (.invokevirtual 237, 3) := by decide +kernel
theorem dX4_scaledFact_35 : decode cX4_scaledFact 35 = .ok (.goto 13, 3) := by decide +kernel
theorem dX4_scaledFact_38 : decode cX4_scaledFact 38 = .ok (.aload_n 0, 1) := by decide +kernel
theorem dX4_scaledFact_39 : decode cX4_scaledFact 39 = .ok (.getfield 31, 3) := by decide +kernel
theorem dX4_scaledFact_42 : decode cX4_scaledFact 42 = .ok (.iload_n 1, 1) := by decide +kernel
theorem dX4_scaledFact_43 : decode cX4_scaledFact 43 = .ok (.aaload, 1) := by decide +kernel
theorem dX4_scaledFact_44 : decode cX4_scaledFact 44 = .ok (.iload_n 2, 1) := by decide +kernel
theorem dX4_scaledFact_45 : decode cX4_scaledFact 45 = .ok (.invokevirtual 240, 3) := by decide +kernel
theorem dX4_scaledFact_48 : decode cX4_scaledFact 48 = .ok (.ireturn, 1) := by decide +kernel
theorem dX4_fitFact_0 : decode cX4_fitFact 0 = .ok (.iload_n 1, 1) := by decide +kernel
theorem dX4_fitFact_1 : decode cX4_fitFact 1 = .ok (.iconst 0, 1) := by decide +kernel
theorem dX4_fitFact_2 : decode cX4_fitFact 2 = .ok (.iconst 1, 1) := by decide +kernel
theorem dX4_fitFact_3 : decode cX4_fitFact 3 = .ok (.aload_n 0, 1) := by decide +kernel
theorem dX4_fitFact_4 : decode cX4_fitFact 4 = .ok (.getfield 53, 3) := by decide +kernel
theorem dX4_fitFact_7 : decode cX4_fitFact 7 = .ok (.ishl, 1) := by decide +kernel
theorem dX4_fitFact_8 : decode cX4_fitFact 8 = .ok (.iconst 1, 1) := by decide +kernel
theorem dX4_fitFact_9 : decode cX4_fitFact 9 = .ok (.isub, 1) := by decide +kernel
theorem dX4_fitFact_10 : decode cX4_fitFact 10 = .ok (.invokestatic 73, 3) := by decide +kernel
theorem dX4_fitFact_13 : decode cX4_fitFact 13 = .ok (.ifCond .ne 6, 3) := by decide +kernel
theorem dX4_fitFact_16 : decode cX4_fitFact 16 = .ok (.bipush (-2), 2) := by decide +kernel
theorem dX4_fitFact_18 : decode cX4_fitFact 18 = .ok (.ireturn, 1) := by decide +kernel
theorem dX4_fitFact_19 : decode cX4_fitFact 19 = .ok (.aload_n 0, 1) := by decide +kernel
theorem dX4_fitFact_20 : decode cX4_fitFact 20 = .ok (.getfield 45, 3) := by decide +kernel
theorem dX4_fitFact_23 : decode cX4_fitFact 23 = .ok (.aload_n 0, 1) := by decide +kernel
theorem dX4_fitFact_24 : decode cX4_fitFact 24 = .ok (.getfield 9, 3) := by decide +kernel
theorem dX4_fitFact_27 : decode cX4_fitFact 27 = .ok (.invokevirtual 157, 3) := by decide +kernel
theorem dX4_fitFact_30 : decode cX4_fitFact 30 = .ok (.iconst 0, 1) := by decide +kernel
theorem dX4_fitFact_31 : decode cX4_fitFact 31 = .ok (.istore_n 2, 1) := by decide +kernel
theorem dX4_fitFact_32 : decode cX4_fitFact 32 = .ok (.iload_n 2, 1) := by decide +kernel
theorem dX4_fitFact_33 : decode cX4_fitFact 33 = .ok (.aload_n 0, 1) := by decide +kernel
theorem dX4_fitFact_34 : decode cX4_fitFact 34 = .ok (.getfield 53, 3) := by decide +kernel
theorem dX4_fitFact_37 : decode cX4_fitFact 37 = .ok (.if_icmp .ge 39, 3) := by decide +kernel
theorem dX4_fitFact_40 : decode cX4_fitFact 40 = .ok (.iload_n 1, 1) := by decide +kernel
theorem dX4_fitFact_41 : decode cX4_fitFact 41 = .ok (.iload_n 2, 1) := by decide +kernel
theorem dX4_fitFact_42 : decode cX4_fitFact 42 = .ok (.invokestatic 168, 3) := by decide +kernel
theorem dX4_fitFact_45 : decode cX4_fitFact 45 = .ok (.ifCond .eq 25, 3) := by decide +kernel
theorem dX4_fitFact_48 : decode cX4_fitFact 48 = .ok (.aload_n 0, 1) := by decide +kernel
theorem dX4_fitFact_49 : decode cX4_fitFact 49 = .ok (.getfield 45, 3) := by decide +kernel
theorem dX4_fitFact_52 : decode cX4_fitFact 52 = .ok (.aload_n 0, 1) := by decide +kernel
theorem dX4_fitFact_53 : decode cX4_fitFact 53 = .ok (.getfield 31, 3) := by decide +kernel
theorem dX4_fitFact_56 : decode cX4_fitFact 56 = .ok (.iload_n 2, 1) := by decide +kernel
theorem dX4_fitFact_57 : decode cX4_fitFact 57 = .ok (.aaload, 1) := by decide +kernel
theorem dX4_fitFact_58 : decode cX4_fitFact 58 = .ok (.aload_n 0, 1) := by decide +kernel
theorem dX4_fitFact_59 : decode cX4_fitFact 59 = .ok (.getfield 18, 3) := by decide +kernel
theorem dX4_fitFact_62 : decode cX4_fitFact 62 = .ok (.invokevirtual 171, 3) := by decide +kernel
theorem dX4_fitFact_65 : decode cX4_fitFact 65 = .ok (.ifCond .ne 5, 3) := by decide +kernel
theorem dX4_fitFact_68 : decode cX4_fitFact 68 = .ok (.iconst 0, 1) := by decide +kernel
theorem dX4_fitFact_69 : decode cX4_fitFact 69 = .ok (.ireturn, 1) := by decide +kernel
theorem dX4_fitFact_70 : decode cX4_fitFact 70 = .ok (.iinc 2 1, 3) := by decide +kernel
theorem dX4_fitFact_73 : decode cX4_fitFact 73 = .ok (.goto (-41), 3) := by decide +kernel
theorem dX4_fitFact_76 : decode cX4_fitFact 76 = .ok (.iconst 1, 1) := by decide +kernel
theorem dX4_fitFact_77 : decode cX4_fitFact 77 = .ok (.ireturn, 1) := by decide +kernel
theorem dX4_queueFact_0 : decode cX4_queueFact 0 = .ok (.iload_n 1, 1) := by decide +kernel
theorem dX4_queueFact_1 : decode cX4_queueFact 1 = .ok (.ifCond .ge 6, 3) := by decide +kernel
theorem dX4_queueFact_4 : decode cX4_queueFact 4 = .ok (.bipush (-2), 2) := by decide +kernel
theorem dX4_queueFact_6 : decode cX4_queueFact 6 = .ok (.ireturn, 1) := by decide +kernel
theorem dX4_queueFact_7 : decode cX4_queueFact 7 = .ok (.iload_n 1, 1) := by decide +kernel
theorem dX4_queueFact_8 : decode cX4_queueFact 8 = .ok (.aload_n 0, 1) := by decide +kernel
theorem dX4_queueFact_9 : decode cX4_queueFact 9 = .ok (.getfield 56, 3) := by decide +kernel
theorem dX4_queueFact_12 : decode cX4_queueFact 12 = .ok (.if_icmp .ge 12, 3) := by decide +kernel
theorem dX4_queueFact_15 : decode cX4_queueFact 15 = .ok (.aload_n 0, 1) := by decide +kernel
theorem dX4_queueFact_16 : decode cX4_queueFact 16 = .ok (.getfield 35, 3) := by decide +kernel
theorem dX4_queueFact_19 : decode cX4_queueFact 19 = .ok (.iload_n 1, 1) := by decide +kernel
theorem dX4_queueFact_20 : decode cX4_queueFact 20 = .ok (.iaload, 1) := by decide +kernel
theorem dX4_queueFact_21 : decode cX4_queueFact 21 = .ok (.goto 4, 3) := by decide +kernel
theorem dX4_queueFact_24 : decode cX4_queueFact 24 = .ok (.iconst (-1), 1) := by decide +kernel
theorem dX4_queueFact_25 : decode cX4_queueFact 25 = .ok (.ireturn, 1) := by decide +kernel
theorem dX4_wholeFact_0 : decode cX4_wholeFact 0 = .ok (.iload_n 1, 1) := by decide +kernel
theorem dX4_wholeFact_1 : decode cX4_wholeFact 1 = .ok (.tableswitch 108 0 8 #[51, 56, 64, 69, 74, 82, 90, 98, 103], 51) := by decide +kernel
theorem dX4_wholeFact_52 : decode cX4_wholeFact 52 = .ok (.aload_n 0, 1) := by decide +kernel
theorem dX4_wholeFact_53 : decode cX4_wholeFact 53 = .ok (.getfield 9, 3) := by decide +kernel
theorem dX4_wholeFact_56 : decode cX4_wholeFact 56 = .ok (.ireturn, 1) := by decide +kernel
theorem dX4_wholeFact_57 : decode cX4_wholeFact 57 = .ok (.aload_n 0, 1) := by decide +kernel
theorem dX4_wholeFact_58 : decode cX4_wholeFact 58 = .ok (.getfield 25, 3) := by decide +kernel
theorem dX4_wholeFact_61 : decode cX4_wholeFact 61 = .ok (.getfield 243, 3) := by decide +kernel
theorem dX4_wholeFact_64 : decode cX4_wholeFact 64 = .ok (.ireturn, 1) := by decide +kernel
theorem dX4_wholeFact_65 : decode cX4_wholeFact 65 = .ok (.aload_n 0, 1) := by decide +kernel
theorem dX4_wholeFact_66 : decode cX4_wholeFact 66 = .ok (.getfield 53, 3) := by decide +kernel
theorem dX4_wholeFact_69 : decode cX4_wholeFact 69 = .ok (.ireturn, 1) := by decide +kernel
theorem dX4_wholeFact_70 : decode cX4_wholeFact 70 = .ok (.aload_n 0, 1) := by decide +kernel
theorem dX4_wholeFact_71 : decode cX4_wholeFact 71 = .ok (.getfield 50, 3) := by decide +kernel
theorem dX4_wholeFact_74 : decode cX4_wholeFact 74 = .ok (.ireturn, 1) := by decide +kernel
theorem dX4_wholeFact_75 : decode cX4_wholeFact 75 = .ok (.aload_n 0, 1) := by decide +kernel
theorem dX4_wholeFact_76 : decode cX4_wholeFact 76 = .ok (.getfield 41, 3) := by decide +kernel
theorem dX4_wholeFact_79 : decode cX4_wholeFact 79 = .ok (.getfield 244, 3) := by decide +kernel
theorem dX4_wholeFact_82 : decode cX4_wholeFact 82 = .ok (.ireturn, 1) := by decide +kernel
theorem dX4_wholeFact_83 : decode cX4_wholeFact 83 = .ok (.aload_n 0, 1) := by decide +kernel
theorem dX4_wholeFact_84 : decode cX4_wholeFact 84 = .ok (.getfield 41, 3) := by decide +kernel
theorem dX4_wholeFact_87 : decode cX4_wholeFact 87 = .ok (.getfield 247, 3) := by decide +kernel
theorem dX4_wholeFact_90 : decode cX4_wholeFact 90 = .ok (.ireturn, 1) := by decide +kernel
theorem dX4_wholeFact_91 : decode cX4_wholeFact 91 = .ok (.aload_n 0, 1) := by decide +kernel
theorem dX4_wholeFact_92 : decode cX4_wholeFact 92 = .ok (.getfield 41, 3) := by decide +kernel
theorem dX4_wholeFact_95 : decode cX4_wholeFact 95 = .ok (.getfield 250, 3) := by decide +kernel
theorem dX4_wholeFact_98 : decode cX4_wholeFact 98 = .ok (.ireturn, 1) := by decide +kernel
theorem dX4_wholeFact_99 : decode cX4_wholeFact 99 = .ok (.aload_n 0, 1) := by decide +kernel
theorem dX4_wholeFact_100 : decode cX4_wholeFact 100 = .ok (.invokevirtual 253, 3) := by decide +kernel
theorem dX4_wholeFact_103 : decode cX4_wholeFact 103 = .ok (.ireturn, 1) := by decide +kernel
theorem dX4_wholeFact_104 : decode cX4_wholeFact 104 = .ok (.aload_n 0, 1) := by decide +kernel
theorem dX4_wholeFact_105 : decode cX4_wholeFact 105 = .ok (.getfield 15, 3) := by decide +kernel
theorem dX4_wholeFact_108 : decode cX4_wholeFact 108 = .ok (.ireturn, 1) := by decide +kernel
theorem dX4_wholeFact_109 : decode cX4_wholeFact 109 = .ok (.bipush (-2), 2) := by decide +kernel
theorem dX4_wholeFact_111 : decode cX4_wholeFact 111 = .ok (.ireturn, 1) := by decide +kernel
theorem dX4_groupsOn_0 : decode cX4_groupsOn 0 = .ok (.iconst 0, 1) := by decide +kernel
theorem dX4_groupsOn_1 : decode cX4_groupsOn 1 = .ok (.istore_n 1, 1) := by decide +kernel
theorem dX4_groupsOn_2 : decode cX4_groupsOn 2 = .ok (.iconst 0, 1) := by decide +kernel
theorem dX4_groupsOn_3 : decode cX4_groupsOn 3 = .ok (.istore_n 2, 1) := by decide +kernel
theorem dX4_groupsOn_4 : decode cX4_groupsOn 4 = .ok (.iload_n 2, 1) := by decide +kernel
theorem dX4_groupsOn_5 : decode cX4_groupsOn 5 = .ok (.aload_n 0, 1) := by decide +kernel
theorem dX4_groupsOn_6 : decode cX4_groupsOn 6 = .ok (.getfield 53, 3) := by decide +kernel
theorem dX4_groupsOn_9 : decode cX4_groupsOn 9 = .ok (.if_icmp .ge 26, 3) := by decide +kernel
theorem dX4_groupsOn_12 : decode cX4_groupsOn 12 = .ok (.iload_n 1, 1) := by decide +kernel
theorem dX4_groupsOn_13 : decode cX4_groupsOn 13 = .ok (.aload_n 0, 1) := by decide +kernel
theorem dX4_groupsOn_14 : decode cX4_groupsOn 14 = .ok (.getfield 31, 3) := by decide +kernel
theorem dX4_groupsOn_17 : decode cX4_groupsOn 17 = .ok (.iload_n 2, 1) := by decide +kernel
theorem dX4_groupsOn_18 : decode cX4_groupsOn 18 = .ok (.aaload, 1) := by decide +kernel
theorem dX4_groupsOn_19 : decode cX4_groupsOn 19 = .ok (.getfield 175, 3) := by decide +kernel
theorem dX4_groupsOn_22 : decode cX4_groupsOn 22 = .ok (.invokestatic 121, 3) := by decide +kernel
theorem dX4_groupsOn_25 : decode cX4_groupsOn 25 = .ok (.iload_n 2, 1) := by decide +kernel
theorem dX4_groupsOn_26 : decode cX4_groupsOn 26 = .ok (.ishl, 1) := by decide +kernel
theorem dX4_groupsOn_27 : decode cX4_groupsOn 27 = .ok (.ior, 1) := by decide +kernel
theorem dX4_groupsOn_28 : decode cX4_groupsOn 28 = .ok (.istore_n 1, 1) := by decide +kernel
theorem dX4_groupsOn_29 : decode cX4_groupsOn 29 = .ok (.iinc 2 1, 3) := by decide +kernel
theorem dX4_groupsOn_32 : decode cX4_groupsOn 32 = .ok (.goto (-28), 3) := by decide +kernel
theorem dX4_groupsOn_35 : decode cX4_groupsOn 35 = .ok (.iload_n 1, 1) := by decide +kernel
theorem dX4_groupsOn_36 : decode cX4_groupsOn 36 = .ok (.ireturn, 1) := by decide +kernel
theorem dX5_init_0 : decode cX5_init 0 = .ok (.aload_n 0, 1) := by decide +kernel
theorem dX5_init_1 : decode cX5_init 1 = .ok (.invokespecial 3, 3) := by decide +kernel
theorem dX5_init_4 : decode cX5_init 4 = .ok (.aload_n 0, 1) := by decide +kernel
theorem dX5_init_5 : decode cX5_init 5 = .ok (.iconst 1, 1) := by decide +kernel
theorem dX5_init_6 : decode cX5_init 6 = .ok (.putfield 9, 3) := by decide +kernel
theorem dX5_init_9 : decode cX5_init 9 = .ok (.aload_n 0, 1) := by decide +kernel
theorem dX5_init_10 : decode cX5_init 10 = .ok (.bipush 6, 2) := by decide +kernel
theorem dX5_init_12 : decode cX5_init 12 = .ok (.newarray .int, 2) := by decide +kernel
theorem dX5_init_14 : decode cX5_init 14 = .ok (.putfield 15, 3) := by decide +kernel
theorem dX5_init_17 : decode cX5_init 17 = .ok (.aload_n 0, 1) := by decide +kernel
theorem dX5_init_18 : decode cX5_init 18 = .ok (.bipush 6, 2) := by decide +kernel
theorem dX5_init_20 : decode cX5_init 20 = .ok (.newarray .int, 2) := by decide +kernel
theorem dX5_init_22 : decode cX5_init 22 = .ok (.putfield 19, 3) := by decide +kernel
theorem dX5_init_25 : decode cX5_init 25 = .ok (.aload_n 0, 1) := by decide +kernel
theorem dX5_init_26 : decode cX5_init 26 = .ok (.bipush 48, 2) := by decide +kernel
theorem dX5_init_28 : decode cX5_init 28 = .ok (.newarray .int, 2) := by decide +kernel
theorem dX5_init_30 : decode cX5_init 30 = .ok (.putfield 22, 3) := by decide +kernel
theorem dX5_init_33 : decode cX5_init 33 = .ok (.aload_n 0, 1) := by decide +kernel
theorem dX5_init_34 : decode cX5_init 34 = .ok (.getfield 15, 3) := by decide +kernel
theorem dX5_init_37 : decode cX5_init 37 = .ok (.iconst 0, 1) := by decide +kernel
theorem dX5_init_38 : decode cX5_init 38 = .ok (.iconst (-1), 1) := by decide +kernel
theorem dX5_init_39 : decode cX5_init 39 = .ok (.iastore, 1) := by decide +kernel
theorem dX5_init_40 : decode cX5_init 40 = .ok (.return_, 1) := by decide +kernel
theorem dX5_become_0 : decode cX5_become 0 = .ok (.aload_n 0, 1) := by decide +kernel
theorem dX5_become_1 : decode cX5_become 1 = .ok (.aload_n 1, 1) := by decide +kernel
theorem dX5_become_2 : decode cX5_become 2 = .ok (.getfield 9, 3) := by decide +kernel
theorem dX5_become_5 : decode cX5_become 5 = .ok (.putfield 9, 3) := by decide +kernel
theorem dX5_become_8 : decode cX5_become 8 = .ok (.aload_n 1, 1) := by decide +kernel
theorem dX5_become_9 : decode cX5_become 9 = .ok (.getfield 15, 3) := by decide +kernel
theorem dX5_become_12 : decode cX5_become 12 = .ok (.aload_n 0, 1) := by decide +kernel
theorem dX5_become_13 : decode cX5_become 13 = .ok (.getfield 15, 3) := by decide +kernel
theorem dX5_become_16 : decode cX5_become 16 = .ok (.invokestatic 25, 3) := by decide +kernel
theorem dX5_become_19 : decode cX5_become 19 = .ok (.aload_n 1, 1) := by decide +kernel
theorem dX5_become_20 : decode cX5_become 20 = .ok (.getfield 19, 3) := by decide +kernel
theorem dX5_become_23 : decode cX5_become 23 = .ok (.aload_n 0, 1) := by decide +kernel
theorem dX5_become_24 : decode cX5_become 24 = .ok (.getfield 19, 3) := by decide +kernel
theorem dX5_become_27 : decode cX5_become 27 = .ok (.invokestatic 25, 3) := by decide +kernel
theorem dX5_become_30 : decode cX5_become 30 = .ok (.aload_n 1, 1) := by decide +kernel
theorem dX5_become_31 : decode cX5_become 31 = .ok (.getfield 22, 3) := by decide +kernel
theorem dX5_become_34 : decode cX5_become 34 = .ok (.aload_n 0, 1) := by decide +kernel
theorem dX5_become_35 : decode cX5_become 35 = .ok (.getfield 22, 3) := by decide +kernel
theorem dX5_become_38 : decode cX5_become 38 = .ok (.invokestatic 25, 3) := by decide +kernel
theorem dX5_become_41 : decode cX5_become 41 = .ok (.return_, 1) := by decide +kernel
theorem dX5_has_0 : decode cX5_has 0 = .ok (.iload_n 1, 1) := by decide +kernel
theorem dX5_has_1 : decode cX5_has 1 = .ok (.iconst 0, 1) := by decide +kernel
theorem dX5_has_2 : decode cX5_has 2 = .ok (.aload_n 0, 1) := by decide +kernel
theorem dX5_has_3 : decode cX5_has 3 = .ok (.getfield 9, 3) := by decide +kernel
theorem dX5_has_6 : decode cX5_has 6 = .ok (.iconst 1, 1) := by decide +kernel
theorem dX5_has_7 : decode cX5_has 7 = .ok (.isub, 1) := by decide +kernel
theorem dX5_has_8 : decode cX5_has 8 = .ok (.invokestatic 29, 3) := by decide +kernel
theorem dX5_has_11 : decode cX5_has 11 = .ok (.ireturn, 1) := by decide +kernel
theorem dX5_hasEnded_0 : decode cX5_hasEnded 0 = .ok (.aload_n 0, 1) := by decide +kernel
theorem dX5_hasEnded_1 : decode cX5_hasEnded 1 = .ok (.getfield 19, 3) := by decide +kernel
theorem dX5_hasEnded_4 : decode cX5_hasEnded 4 = .ok (.iload_n 1, 1) := by decide +kernel
theorem dX5_hasEnded_5 : decode cX5_hasEnded 5 = .ok (.iaload, 1) := by decide +kernel
theorem dX5_hasEnded_6 : decode cX5_hasEnded 6 = .ok (.iconst 1, 1) := by decide +kernel
theorem dX5_hasEnded_7 : decode cX5_hasEnded 7 = .ok (.if_icmp .ne 7, 3) := by decide +kernel
theorem dX5_hasEnded_10 : decode cX5_hasEnded 10 = .ok (.iconst 1, 1) := by decide +kernel
theorem dX5_hasEnded_11 : decode cX5_hasEnded 11 = .ok (.goto 4, 3) := by decide +kernel
theorem dX5_hasEnded_14 : decode cX5_hasEnded 14 = .ok (.iconst 0, 1) := by decide +kernel
theorem dX5_hasEnded_15 : decode cX5_hasEnded 15 = .ok (.ireturn, 1) := by decide +kernel
theorem dX5_rateOf_0 : decode cX5_rateOf 0 = .ok (.aload_n 0, 1) := by decide +kernel
theorem dX5_rateOf_1 : decode cX5_rateOf 1 = .ok (.getfield 22, 3) := by decide +kernel
theorem dX5_rateOf_4 : decode cX5_rateOf 4 = .ok (.iload_n 1, 1) := by decide +kernel
theorem dX5_rateOf_5 : decode cX5_rateOf 5 = .ok (.bipush 8, 2) := by decide +kernel
theorem dX5_rateOf_7 : decode cX5_rateOf 7 = .ok (.imul, 1) := by decide +kernel
theorem dX5_rateOf_8 : decode cX5_rateOf 8 = .ok (.iload_n 2, 1) := by decide +kernel
theorem dX5_rateOf_9 : decode cX5_rateOf 9 = .ok (.iadd, 1) := by decide +kernel
theorem dX5_rateOf_10 : decode cX5_rateOf 10 = .ok (.iaload, 1) := by decide +kernel
theorem dX5_rateOf_11 : decode cX5_rateOf 11 = .ok (.ireturn, 1) := by decide +kernel
theorem dX5_putRate_0 : decode cX5_putRate 0 = .ok (.aload_n 0, 1) := by decide +kernel
theorem dX5_putRate_1 : decode cX5_putRate 1 = .ok (.iload_n 1, 1) := by decide +kernel
theorem dX5_putRate_2 : decode cX5_putRate 2 = .ok (.invokevirtual 33, 3) := by decide +kernel
theorem dX5_putRate_5 : decode cX5_putRate 5 = .ok (.ifCond .eq 23, 3) := by decide +kernel
theorem dX5_putRate_8 : decode cX5_putRate 8 = .ok (.iload_n 2, 1) := by decide +kernel
theorem dX5_putRate_9 : decode cX5_putRate 9 = .ok (.iconst 0, 1) := by decide +kernel
theorem dX5_putRate_10 : decode cX5_putRate 10 = .ok (.bipush 7, 2) := by decide +kernel
theorem dX5_putRate_12 : decode cX5_putRate 12 = .ok (.invokestatic 29, 3) := by decide +kernel
theorem dX5_putRate_15 : decode cX5_putRate 15 = .ok (.ifCond .eq 13, 3) := by decide +kernel
theorem dX5_putRate_18 : decode cX5_putRate 18 = .ok (.iload_n 3, 1) := by decide +kernel
theorem dX5_putRate_19 : decode cX5_putRate 19 = .ok (.iconst 0, 1) := by decide +kernel
theorem dX5_putRate_20 : decode cX5_putRate 20 = .ok (.bipush 99, 2) := by decide +kernel
theorem dX5_putRate_22 : decode cX5_putRate 22 = .ok (.invokestatic 29, 3) := by decide +kernel
theorem dX5_putRate_25 : decode cX5_putRate 25 = .ok (.ifCond .ne 6, 3) := by decide +kernel
theorem dX5_putRate_28 : decode cX5_putRate 28 = .ok (.bipush (-2), 2) := by decide +kernel
theorem dX5_putRate_30 : decode cX5_putRate 30 = .ok (.ireturn, 1) := by decide +kernel
theorem dX5_putRate_31 : decode cX5_putRate 31 = .ok (.aload_n 0, 1) := by decide +kernel
theorem dX5_putRate_32 : decode cX5_putRate 32 = .ok (.iload_n 1, 1) := by decide +kernel
theorem dX5_putRate_33 : decode cX5_putRate 33 = .ok (.iload_n 2, 1) := by decide +kernel
theorem dX5_putRate_34 : decode cX5_putRate 34 = .ok (.invokevirtual 37, 3) := by decide +kernel
theorem dX5_putRate_37 : decode cX5_putRate 37 = .ok (.istore 4, 2) := by decide +kernel
theorem dX5_putRate_39 : decode cX5_putRate 39 = .ok (.aload_n 0, 1) := by decide +kernel
theorem dX5_putRate_40 : decode cX5_putRate 40 = .ok (.getfield 22, 3) := by decide +kernel
theorem dX5_putRate_43 : decode cX5_putRate 43 = .ok (.iload_n 1, 1) := by decide +kernel
theorem dX5_putRate_44 : decode cX5_putRate 44 = .ok (.bipush 8, 2) := by decide +kernel
theorem dX5_putRate_46 : decode cX5_putRate 46 = .ok (.imul, 1) := by decide +kernel
theorem dX5_putRate_47 : decode cX5_putRate 47 = .ok (.iload_n 2, 1) := by decide +kernel
theorem dX5_putRate_48 : decode cX5_putRate 48 = .ok (.iadd, 1) := by decide +kernel
theorem dX5_putRate_49 : decode cX5_putRate 49 = .ok (.iload_n 3, 1) := by decide +kernel
theorem dX5_putRate_50 : decode cX5_putRate 50 = .ok (.iastore, 1) := by decide +kernel
theorem dX5_putRate_51 : decode cX5_putRate 51 = .ok (.iload 4, 2) := by decide +kernel
theorem dX5_putRate_53 : decode cX5_putRate 53 = .ok (.ireturn, 1) := by decide +kernel
theorem dX5_fork_0 : decode cX5_fork 0 = .ok (.aload_n 0, 1) := by decide +kernel
theorem dX5_fork_1 : decode cX5_fork 1 = .ok (.iload_n 1, 1) := by decide +kernel
theorem dX5_fork_2 : decode cX5_fork 2 = .ok (.invokevirtual 33, 3) := by decide +kernel
theorem dX5_fork_5 : decode cX5_fork 5 = .ok (.ifCond .ne 6, 3) := by decide +kernel
theorem dX5_fork_8 : decode cX5_fork 8 = .ok (.bipush (-2), 2) := by decide +kernel
theorem dX5_fork_10 : decode cX5_fork 10 = .ok (.ireturn, 1) := by decide +kernel
theorem dX5_fork_11 : decode cX5_fork 11 = .ok (.aload_n 0, 1) := by decide +kernel
theorem dX5_fork_12 : decode cX5_fork 12 = .ok (.iload_n 1, 1) := by decide +kernel
theorem dX5_fork_13 : decode cX5_fork 13 = .ok (.invokevirtual 41, 3) := by decide +kernel
theorem dX5_fork_16 : decode cX5_fork 16 = .ok (.ifCond .eq 6, 3) := by decide +kernel
theorem dX5_fork_19 : decode cX5_fork 19 = .ok (.bipush (-3), 2) := by decide +kernel
theorem dX5_fork_21 : decode cX5_fork 21 = .ok (.ireturn, 1) := by decide +kernel
theorem dX5_fork_22 : decode cX5_fork 22 = .ok (.aload_n 0, 1) := by decide +kernel
theorem dX5_fork_23 : decode cX5_fork 23 = .ok (.getfield 9, 3) := by decide +kernel
theorem dX5_fork_26 : decode cX5_fork 26 = .ok (.bipush 6, 2) := by decide +kernel
theorem dX5_fork_28 : decode cX5_fork 28 = .ok (.if_icmp .lt 6, 3) := by decide +kernel
theorem dX5_fork_31 : decode cX5_fork 31 = .ok (.bipush (-4), 2) := by decide +kernel
theorem dX5_fork_33 : decode cX5_fork 33 = .ok (.ireturn, 1) := by decide +kernel
theorem dX5_fork_34 : decode cX5_fork 34 = .ok (.aload_n 0, 1) := by decide +kernel
theorem dX5_fork_35 : decode cX5_fork 35 = .ok (.getfield 9, 3) := by decide +kernel
theorem dX5_fork_38 : decode cX5_fork 38 = .ok (.istore_n 2, 1) := by decide +kernel
theorem dX5_fork_39 : decode cX5_fork 39 = .ok (.aload_n 0, 1) := by decide +kernel
theorem dX5_fork_40 : decode cX5_fork 40 = .ok (.dup, 1) := by decide +kernel
theorem dX5_fork_41 : decode cX5_fork 41 = .ok (.getfield 9, 3) := by decide +kernel
theorem dX5_fork_44 : decode cX5_fork 44 = .ok (.iconst 1, 1) := by decide +kernel
theorem dX5_fork_45 : decode cX5_fork 45 = .ok (.iadd, 1) := by decide +kernel
theorem dX5_fork_46 : decode cX5_fork 46 = .ok (.putfield 9, 3) := by decide +kernel
theorem dX5_fork_49 : decode cX5_fork 49 = .ok (.aload_n 0, 1) := by decide +kernel
theorem dX5_fork_50 : decode cX5_fork 50 = .ok (.getfield 15, 3) := by decide +kernel
theorem dX5_fork_53 : decode cX5_fork 53 = .ok (.iload_n 2, 1) := by decide +kernel
theorem dX5_fork_54 : decode cX5_fork 54 = .ok (.iload_n 1, 1) := by decide +kernel
theorem dX5_fork_55 : decode cX5_fork 55 = .ok (.iastore, 1) := by decide +kernel
theorem dX5_fork_56 : decode cX5_fork 56 = .ok (.aload_n 0, 1) := by decide +kernel
theorem dX5_fork_57 : decode cX5_fork 57 = .ok (.getfield 19, 3) := by decide +kernel
theorem dX5_fork_60 : decode cX5_fork 60 = .ok (.iload_n 2, 1) := by decide +kernel
theorem dX5_fork_61 : decode cX5_fork 61 = .ok (.iconst 0, 1) := by decide +kernel
theorem dX5_fork_62 : decode cX5_fork 62 = .ok (.iastore, 1) := by decide +kernel
theorem dX5_fork_63 : decode cX5_fork 63 = .ok (.aload_n 0, 1) := by decide +kernel
theorem dX5_fork_64 : decode cX5_fork 64 = .ok (.getfield 22, 3) := by decide +kernel
theorem dX5_fork_67 : decode cX5_fork 67 = .ok (.iload_n 1, 1) := by decide +kernel
theorem dX5_fork_68 : decode cX5_fork 68 = .ok (.bipush 8, 2) := by decide +kernel
theorem dX5_fork_70 : decode cX5_fork 70 = .ok (.imul, 1) := by decide +kernel
theorem dX5_fork_71 : decode cX5_fork 71 = .ok (.aload_n 0, 1) := by decide +kernel
theorem dX5_fork_72 : decode cX5_fork 72 = .ok (.getfield 22, 3) := by decide +kernel
theorem dX5_fork_75 : decode cX5_fork 75 = .ok (.iload_n 2, 1) := by decide +kernel
theorem dX5_fork_76 : decode cX5_fork 76 = .ok (.bipush 8, 2) := by decide +kernel
theorem dX5_fork_78 : decode cX5_fork 78 = .ok (.imul, 1) := by decide +kernel
theorem dX5_fork_79 : decode cX5_fork 79 = .ok (.bipush 8, 2) := by decide +kernel
theorem dX5_fork_81 : decode cX5_fork 81 = .ok (.invokestatic 44, 3) := by decide +kernel
theorem dX5_fork_84 : decode cX5_fork 84 = .ok (.iload_n 2, 1) := by decide +kernel
theorem dX5_fork_85 : decode cX5_fork 85 = .ok (.ireturn, 1) := by decide +kernel
theorem dX5_hasOpenChild_0 : decode cX5_hasOpenChild 0 = .ok (.iload_n 1, 1) := by decide +kernel
theorem dX5_hasOpenChild_1 : decode cX5_hasOpenChild 1 = .ok (.iconst 1, 1) := by decide +kernel
theorem dX5_hasOpenChild_2 : decode cX5_hasOpenChild 2 = .ok (.iadd, 1) := by decide +kernel
theorem dX5_hasOpenChild_3 : decode cX5_hasOpenChild 3 = .ok (.istore_n 2, 1) := by decide +kernel
theorem dX5_hasOpenChild_4 : decode cX5_hasOpenChild 4 = .ok (.iload_n 2, 1) := by decide +kernel
theorem dX5_hasOpenChild_5 : decode cX5_hasOpenChild 5 = .ok (.aload_n 0, 1) := by decide +kernel
theorem dX5_hasOpenChild_6 : decode cX5_hasOpenChild 6 = .ok (.getfield 9, 3) := by decide +kernel
theorem dX5_hasOpenChild_9 : decode cX5_hasOpenChild 9 = .ok (.if_icmp .ge 29, 3) := by decide +kernel
theorem dX5_hasOpenChild_12 : decode cX5_hasOpenChild 12 = .ok (.aload_n 0, 1) := by decide +kernel
theorem dX5_hasOpenChild_13 : decode cX5_hasOpenChild 13 = .ok (.getfield 15, 3) := by decide +kernel
theorem dX5_hasOpenChild_16 : decode cX5_hasOpenChild 16 = .ok (.iload_n 2, 1) := by decide +kernel
theorem dX5_hasOpenChild_17 : decode cX5_hasOpenChild 17 = .ok (.iaload, 1) := by decide +kernel
theorem dX5_hasOpenChild_18 : decode cX5_hasOpenChild 18 = .ok (.iload_n 1, 1) := by decide +kernel
theorem dX5_hasOpenChild_19 : decode cX5_hasOpenChild 19 = .ok (.if_icmp .ne 13, 3) := by decide +kernel
theorem dX5_hasOpenChild_22 : decode cX5_hasOpenChild 22 = .ok (.aload_n 0, 1) := by decide +kernel
theorem dX5_hasOpenChild_23 : decode cX5_hasOpenChild 23 = .ok (.iload_n 2, 1) := by decide +kernel
theorem dX5_hasOpenChild_24 : decode cX5_hasOpenChild 24 = .ok (.invokevirtual 41, 3) := by decide +kernel
theorem dX5_hasOpenChild_27 : decode cX5_hasOpenChild 27 = .ok (.ifCond .ne 5, 3) := by decide +kernel
theorem dX5_hasOpenChild_30 : decode cX5_hasOpenChild 30 = .ok (.iconst 1, 1) := by decide +kernel
theorem dX5_hasOpenChild_31 : decode cX5_hasOpenChild 31 = .ok (.ireturn, 1) := by decide +kernel
theorem dX5_hasOpenChild_32 : decode cX5_hasOpenChild 32 = .ok (.iinc 2 1, 3) := by decide +kernel
theorem dX5_hasOpenChild_35 : decode cX5_hasOpenChild 35 = .ok (.goto (-31), 3) := by decide +kernel
theorem dX5_hasOpenChild_38 : decode cX5_hasOpenChild 38 = .ok (.iconst 0, 1) := by decide +kernel
theorem dX5_hasOpenChild_39 : decode cX5_hasOpenChild 39 = .ok (.ireturn, 1) := by decide +kernel
theorem dX5_reachesByParents_0 : decode cX5_reachesByParents 0 = .ok (.iload_n 1, 1) := by decide +kernel
theorem dX5_reachesByParents_1 : decode cX5_reachesByParents 1 = .ok (.istore_n 3, 1) := by decide +kernel
theorem dX5_reachesByParents_2 : decode cX5_reachesByParents 2 = .ok (.iconst 0, 1) := by decide +kernel
theorem dX5_reachesByParents_3 : decode cX5_reachesByParents 3 = .ok (.istore 4, 2) := by decide +kernel
theorem dX5_reachesByParents_5 : decode cX5_reachesByParents 5 = .ok (.iload 4, 2) := by decide +kernel
theorem dX5_reachesByParents_7 : decode cX5_reachesByParents 7 = .ok (.bipush 6, 2) := by decide +kernel
theorem dX5_reachesByParents_9 : decode cX5_reachesByParents 9 = .ok (.if_icmp .ge 32, 3) := by decide +kernel
theorem dX5_reachesByParents_12 : decode cX5_reachesByParents 12 = .ok (.iload_n 3, 1) := by decide +kernel
theorem dX5_reachesByParents_13 : decode cX5_reachesByParents 13 = .ok (.iconst 1, 1) := by decide +kernel
theorem dX5_reachesByParents_14 : decode cX5_reachesByParents 14 = .ok (.iconst 5, 1) := by decide +kernel
theorem dX5_reachesByParents_15 : decode cX5_reachesByParents 15 = .ok (.invokestatic 29, 3) := by decide +kernel
theorem dX5_reachesByParents_18 : decode cX5_reachesByParents 18 = .ok (.ifCond .eq 23, 3) := by decide +kernel
theorem dX5_reachesByParents_21 : decode cX5_reachesByParents 21 = .ok (.aload_n 0, 1) := by decide +kernel
theorem dX5_reachesByParents_22 : decode cX5_reachesByParents 22 = .ok (.getfield 15, 3) := by decide +kernel
theorem dX5_reachesByParents_25 : decode cX5_reachesByParents 25 = .ok (.iload_n 3, 1) := by decide +kernel
theorem dX5_reachesByParents_26 : decode cX5_reachesByParents 26 = .ok (.iaload, 1) := by decide +kernel
theorem dX5_reachesByParents_27 : decode cX5_reachesByParents 27 = .ok (.istore_n 3, 1) := by decide +kernel
theorem dX5_reachesByParents_28 : decode cX5_reachesByParents 28 = .ok (.iload_n 3, 1) := by decide +kernel
theorem dX5_reachesByParents_29 : decode cX5_reachesByParents 29 = .ok (.iload_n 2, 1) := by decide +kernel
theorem dX5_reachesByParents_30 : decode cX5_reachesByParents 30 = .ok (.if_icmp .ne 5, 3) := by decide +kernel
theorem dX5_reachesByParents_33 : decode cX5_reachesByParents 33 = .ok (.iconst 1, 1) := by decide +kernel
theorem dX5_reachesByParents_34 : decode cX5_reachesByParents 34 = .ok (.ireturn, 1) := by decide +kernel
theorem dX5_reachesByParents_35 : decode cX5_reachesByParents 35 = .ok (.iinc 4 1, 3) := by decide +kernel
theorem dX5_reachesByParents_38 : decode cX5_reachesByParents 38 = .ok (.goto (-33), 3) := by decide +kernel
theorem dX5_reachesByParents_41 : decode cX5_reachesByParents 41 = .ok (.iconst 0, 1) := by decide +kernel
theorem dX5_reachesByParents_42 : decode cX5_reachesByParents 42 = .ok (.ireturn, 1) := by decide +kernel
theorem dX6_init_0 : decode cX6_init 0 = .ok (.aload_n 0, 1) := by decide +kernel
theorem dX6_init_1 : decode cX6_init 1 = .ok (.invokespecial 3, 3) := by decide +kernel
theorem dX6_init_4 : decode cX6_init 4 = .ok (.aload_n 0, 1) := by decide +kernel
theorem dX6_init_5 : decode cX6_init 5 = .ok (.bipush 120, 2) := by decide +kernel
theorem dX6_init_7 : decode cX6_init 7 = .ok (.newarray .int, 2) := by decide +kernel
theorem dX6_init_9 : decode cX6_init 9 = .ok (.putfield 9, 3) := by decide +kernel
theorem dX6_init_12 : decode cX6_init 12 = .ok (.aload_n 0, 1) := by decide +kernel
theorem dX6_init_13 : decode cX6_init 13 = .ok (.bipush 40, 2) := by decide +kernel
theorem dX6_init_15 : decode cX6_init 15 = .ok (.newarray .int, 2) := by decide +kernel
theorem dX6_init_17 : decode cX6_init 17 = .ok (.putfield 15, 3) := by decide +kernel
theorem dX6_init_20 : decode cX6_init 20 = .ok (.aload_n 0, 1) := by decide +kernel
theorem dX6_init_21 : decode cX6_init 21 = .ok (.bipush 40, 2) := by decide +kernel
theorem dX6_init_23 : decode cX6_init 23 = .ok (.newarray .int, 2) := by decide +kernel
theorem dX6_init_25 : decode cX6_init 25 = .ok (.putfield 18, 3) := by decide +kernel
theorem dX6_init_28 : decode cX6_init 28 = .ok (.aload_n 0, 1) := by decide +kernel
theorem dX6_init_29 : decode cX6_init 29 = .ok (.sipush 320, 3) := by decide +kernel
theorem dX6_init_32 : decode cX6_init 32 = .ok (.newarray .int, 2) := by decide +kernel
theorem dX6_init_34 : decode cX6_init 34 = .ok (.putfield 21, 3) := by decide +kernel
theorem dX6_init_37 : decode cX6_init 37 = .ok (.return_, 1) := by decide +kernel
theorem dX6_addByte_0 : decode cX6_addByte 0 = .ok (.iload_n 1, 1) := by decide +kernel
theorem dX6_addByte_1 : decode cX6_addByte 1 = .ok (.iconst 0, 1) := by decide +kernel
theorem dX6_addByte_2 : decode cX6_addByte 2 = .ok (.bipush 127, 2) := by decide +kernel
theorem dX6_addByte_4 : decode cX6_addByte 4 = .ok (.invokestatic 24, 3) := by decide +kernel
theorem dX6_addByte_7 : decode cX6_addByte 7 = .ok (.ifCond .ne 6, 3) := by decide +kernel
theorem dX6_addByte_10 : decode cX6_addByte 10 = .ok (.bipush (-2), 2) := by decide +kernel
theorem dX6_addByte_12 : decode cX6_addByte 12 = .ok (.ireturn, 1) := by decide +kernel
theorem dX6_addByte_13 : decode cX6_addByte 13 = .ok (.aload_n 0, 1) := by decide +kernel
theorem dX6_addByte_14 : decode cX6_addByte 14 = .ok (.getfield 28, 3) := by decide +kernel
theorem dX6_addByte_17 : decode cX6_addByte 17 = .ok (.bipush 120, 2) := by decide +kernel
theorem dX6_addByte_19 : decode cX6_addByte 19 = .ok (.if_icmp .lt 6, 3) := by decide +kernel
theorem dX6_addByte_22 : decode cX6_addByte 22 = .ok (.bipush (-4), 2) := by decide +kernel
theorem dX6_addByte_24 : decode cX6_addByte 24 = .ok (.ireturn, 1) := by decide +kernel
theorem dX6_addByte_25 : decode cX6_addByte 25 = .ok (.aload_n 0, 1) := by decide +kernel
theorem dX6_addByte_26 : decode cX6_addByte 26 = .ok (.getfield 9, 3) := by decide +kernel
theorem dX6_addByte_29 : decode cX6_addByte 29 = .ok (.aload_n 0, 1) := by decide +kernel
theorem dX6_addByte_30 : decode cX6_addByte 30 = .ok (.getfield 28, 3) := by decide +kernel
theorem dX6_addByte_33 : decode cX6_addByte 33 = .ok (.iload_n 1, 1) := by decide +kernel
theorem dX6_addByte_34 : decode cX6_addByte 34 = .ok (.iastore, 1) := by decide +kernel
theorem dX6_addByte_35 : decode cX6_addByte 35 = .ok (.aload_n 0, 1) := by decide +kernel
theorem dX6_addByte_36 : decode cX6_addByte 36 = .ok (.dup, 1) := by decide +kernel
theorem dX6_addByte_37 : decode cX6_addByte 37 = .ok (.getfield 28, 3) := by decide +kernel
theorem dX6_addByte_40 : decode cX6_addByte 40 = .ok (.iconst 1, 1) := by decide +kernel
theorem dX6_addByte_41 : decode cX6_addByte 41 = .ok (.iadd, 1) := by decide +kernel
theorem dX6_addByte_42 : decode cX6_addByte 42 = .ok (.putfield 28, 3) := by decide +kernel
theorem dX6_addByte_45 : decode cX6_addByte 45 = .ok (.aload_n 0, 1) := by decide +kernel
theorem dX6_addByte_46 : decode cX6_addByte 46 = .ok (.getfield 28, 3) := by decide +kernel
theorem dX6_addByte_49 : decode cX6_addByte 49 = .ok (.ireturn, 1) := by decide +kernel
theorem dX6_letterAt_0 : decode cX6_letterAt 0 = .ok (.iload_n 1, 1) := by decide +kernel
theorem dX6_letterAt_1 : decode cX6_letterAt 1 = .ok (.iconst 0, 1) := by decide +kernel
theorem dX6_letterAt_2 : decode cX6_letterAt 2 = .ok (.aload_n 0, 1) := by decide +kernel
theorem dX6_letterAt_3 : decode cX6_letterAt 3 = .ok (.getfield 32, 3) := by decide +kernel
theorem dX6_letterAt_6 : decode cX6_letterAt 6 = .ok (.iconst 1, 1) := by decide +kernel
theorem dX6_letterAt_7 : decode cX6_letterAt 7 = .ok (.isub, 1) := by decide +kernel
theorem dX6_letterAt_8 : decode cX6_letterAt 8 = .ok (.invokestatic 24, 3) := by decide +kernel
theorem dX6_letterAt_11 : decode cX6_letterAt 11 = .ok (.ifCond .eq 12, 3) := by decide +kernel
theorem dX6_letterAt_14 : decode cX6_letterAt 14 = .ok (.aload_n 0, 1) := by decide +kernel
theorem dX6_letterAt_15 : decode cX6_letterAt 15 = .ok (.getfield 15, 3) := by decide +kernel
theorem dX6_letterAt_18 : decode cX6_letterAt 18 = .ok (.iload_n 1, 1) := by decide +kernel
theorem dX6_letterAt_19 : decode cX6_letterAt 19 = .ok (.iaload, 1) := by decide +kernel
theorem dX6_letterAt_20 : decode cX6_letterAt 20 = .ok (.goto 4, 3) := by decide +kernel
theorem dX6_letterAt_23 : decode cX6_letterAt 23 = .ok (.iconst 0, 1) := by decide +kernel
theorem dX6_letterAt_24 : decode cX6_letterAt 24 = .ok (.ireturn, 1) := by decide +kernel
theorem dX6_numbersOf_0 : decode cX6_numbersOf 0 = .ok (.iload_n 1, 1) := by decide +kernel
theorem dX6_numbersOf_1 : decode cX6_numbersOf 1 = .ok (.iconst 0, 1) := by decide +kernel
theorem dX6_numbersOf_2 : decode cX6_numbersOf 2 = .ok (.aload_n 0, 1) := by decide +kernel
theorem dX6_numbersOf_3 : decode cX6_numbersOf 3 = .ok (.getfield 32, 3) := by decide +kernel
theorem dX6_numbersOf_6 : decode cX6_numbersOf 6 = .ok (.iconst 1, 1) := by decide +kernel
theorem dX6_numbersOf_7 : decode cX6_numbersOf 7 = .ok (.isub, 1) := by decide +kernel
theorem dX6_numbersOf_8 : decode cX6_numbersOf 8 = .ok (.invokestatic 24, 3) := by decide +kernel
theorem dX6_numbersOf_11 : decode cX6_numbersOf 11 = .ok (.ifCond .eq 12, 3) := by decide +kernel
theorem dX6_numbersOf_14 : decode cX6_numbersOf 14 = .ok (.aload_n 0, 1) := by decide +kernel
theorem dX6_numbersOf_15 : decode cX6_numbersOf 15 = .ok (.getfield 18, 3) := by decide +kernel
theorem dX6_numbersOf_18 : decode cX6_numbersOf 18 = .ok (.iload_n 1, 1) := by decide +kernel
theorem dX6_numbersOf_19 : decode cX6_numbersOf 19 = .ok (.iaload, 1) := by decide +kernel
theorem dX6_numbersOf_20 : decode cX6_numbersOf 20 = .ok (.goto 4, 3) := by decide +kernel
theorem dX6_numbersOf_23 : decode cX6_numbersOf 23 = .ok (.iconst 0, 1) := by decide +kernel
theorem dX6_numbersOf_24 : decode cX6_numbersOf 24 = .ok (.ireturn, 1) := by decide +kernel
theorem dX6_numberAt_0 : decode cX6_numberAt 0 = .ok (.iload_n 2, 1) := by decide +kernel
theorem dX6_numberAt_1 : decode cX6_numberAt 1 = .ok (.iconst 0, 1) := by decide +kernel
theorem dX6_numberAt_2 : decode cX6_numberAt 2 = .ok (.aload_n 0, 1) := by decide +kernel
theorem dX6_numberAt_3 : decode cX6_numberAt 3 = .ok (.iload_n 1, 1) := by decide +kernel
theorem dX6_numberAt_4 : decode cX6_numberAt 4 = .ok (.invokevirtual 35, 3) := by decide +kernel
theorem dX6_numberAt_7 : decode cX6_numberAt 7 = .ok (.iconst 1, 1) := by decide +kernel
theorem dX6_numberAt_8 : decode cX6_numberAt 8 = .ok (.isub, 1) := by decide +kernel
theorem dX6_numberAt_9 : decode cX6_numberAt 9 = .ok (.invokestatic 24, 3) := by decide +kernel
theorem dX6_numberAt_12 : decode cX6_numberAt 12 = .ok (.ifCond .eq 17, 3) := by decide +kernel
theorem dX6_numberAt_15 : decode cX6_numberAt 15 = .ok (.aload_n 0, 1) := by decide +kernel
theorem dX6_numberAt_16 : decode cX6_numberAt 16 = .ok (.getfield 21, 3) := by decide +kernel
theorem dX6_numberAt_19 : decode cX6_numberAt 19 = .ok (.iload_n 1, 1) := by decide +kernel
theorem dX6_numberAt_20 : decode cX6_numberAt 20 = .ok (.bipush 8, 2) := by decide +kernel
theorem dX6_numberAt_22 : decode cX6_numberAt 22 = .ok (.imul, 1) := by decide +kernel
theorem dX6_numberAt_23 : decode cX6_numberAt 23 = .ok (.iload_n 2, 1) := by decide +kernel
theorem dX6_numberAt_24 : decode cX6_numberAt 24 = .ok (.iadd, 1) := by decide +kernel
theorem dX6_numberAt_25 : decode cX6_numberAt 25 = .ok (.iaload, 1) := by decide +kernel
theorem dX6_numberAt_26 : decode cX6_numberAt 26 = .ok (.goto 4, 3) := by decide +kernel
theorem dX6_numberAt_29 : decode cX6_numberAt 29 = .ok (.iconst (-1), 1) := by decide +kernel
theorem dX6_numberAt_30 : decode cX6_numberAt 30 = .ok (.ireturn, 1) := by decide +kernel
theorem dX6_readOrders_0 : decode cX6_readOrders 0 = .ok (.aload_n 0, 1) := by decide +kernel
theorem dX6_readOrders_1 : decode cX6_readOrders 1 = .ok (.iconst 0, 1) := by decide +kernel
theorem dX6_readOrders_2 : decode cX6_readOrders 2 = .ok (.putfield 32, 3) := by decide +kernel
theorem dX6_readOrders_5 : decode cX6_readOrders 5 = .ok (.aload_n 0, 1) := by decide +kernel
theorem dX6_readOrders_6 : decode cX6_readOrders 6 = .ok (.iconst 0, 1) := by decide +kernel
theorem dX6_readOrders_7 : decode cX6_readOrders 7 = .ok (.putfield 39, 3) := by decide +kernel
theorem dX6_readOrders_10 : decode cX6_readOrders 10 = .ok (.aload_n 0, 1) := by decide +kernel
theorem dX6_readOrders_11 : decode cX6_readOrders 11 = .ok (.iconst 0, 1) := by decide +kernel
theorem dX6_readOrders_12 : decode cX6_readOrders 12 = .ok (.putfield 42, 3) := by decide +kernel
theorem dX6_readOrders_15 : decode cX6_readOrders 15 = .ok (.iconst 0, 1) := by decide +kernel
theorem dX6_readOrders_16 : decode cX6_readOrders 16 = .ok (.istore_n 1, 1) := by decide +kernel
theorem dX6_readOrders_17 : decode cX6_readOrders 17 = .ok (.iload_n 1, 1) := by decide +kernel
theorem dX6_readOrders_18 : decode cX6_readOrders 18 = .ok (.aload_n 0, 1) := by decide +kernel
theorem dX6_readOrders_19 : decode cX6_readOrders 19 = .ok (.getfield 28, 3) := by decide +kernel
theorem dX6_readOrders_22 : decode cX6_readOrders 22 = .ok (.if_icmp .ge 24, 3) := by decide +kernel
theorem dX6_readOrders_25 : decode cX6_readOrders 25 = .ok (.aload_n 0, 1) := by decide +kernel
theorem dX6_readOrders_26 : decode cX6_readOrders 26 = .ok (.aload_n 0, 1) := by decide +kernel
theorem dX6_readOrders_27 : decode cX6_readOrders 27 = .ok (.getfield 9, 3) := by decide +kernel
theorem dX6_readOrders_30 : decode cX6_readOrders 30 = .ok (.iload_n 1, 1) := by decide +kernel
theorem dX6_readOrders_31 : decode cX6_readOrders 31 = .ok (.iaload, 1) := by decide +kernel
theorem dX6_readOrders_32 : decode cX6_readOrders 32 = .ok (.invokevirtual 45, 3) := by decide +kernel
theorem dX6_readOrders_35 : decode cX6_readOrders 35 = .ok (.ifCond .ne 5, 3) := by decide +kernel
theorem dX6_readOrders_38 : decode cX6_readOrders 38 = .ok (.iload_n 1, 1) := by decide +kernel
theorem dX6_readOrders_39 : decode cX6_readOrders 39 = .ok (.ireturn, 1) := by decide +kernel
theorem dX6_readOrders_40 : decode cX6_readOrders 40 = .ok (.iinc 1 1, 3) := by decide +kernel
theorem dX6_readOrders_43 : decode cX6_readOrders 43 = .ok (.goto (-26), 3) := by decide +kernel
theorem dX6_readOrders_46 : decode cX6_readOrders 46 = .ok (.aload_n 0, 1) := by decide +kernel
theorem dX6_readOrders_47 : decode cX6_readOrders 47 = .ok (.getfield 39, 3) := by decide +kernel
theorem dX6_readOrders_50 : decode cX6_readOrders 50 = .ok (.ifCond .ne 10, 3) := by decide +kernel
theorem dX6_readOrders_53 : decode cX6_readOrders 53 = .ok (.aload_n 0, 1) := by decide +kernel
theorem dX6_readOrders_54 : decode cX6_readOrders 54 = .ok (.getfield 32, 3) := by decide +kernel
theorem dX6_readOrders_57 : decode cX6_readOrders 57 = .ok (.ifCond .ne 10, 3) := by decide +kernel
theorem dX6_readOrders_60 : decode cX6_readOrders 60 = .ok (.aload_n 0, 1) := by decide +kernel
theorem dX6_readOrders_61 : decode cX6_readOrders 61 = .ok (.getfield 28, 3) := by decide +kernel
theorem dX6_readOrders_64 : decode cX6_readOrders 64 = .ok (.goto 4, 3) := by decide +kernel
theorem dX6_readOrders_67 : decode cX6_readOrders 67 = .ok (.iconst (-1), 1) := by decide +kernel
theorem dX6_readOrders_68 : decode cX6_readOrders 68 = .ok (.ireturn, 1) := by decide +kernel
theorem dX6_readByte_0 : decode cX6_readByte 0 = .ok (.iload_n 1, 1) := by decide +kernel
theorem dX6_readByte_1 : decode cX6_readByte 1 = .ok (.bipush 32, 2) := by decide +kernel
theorem dX6_readByte_3 : decode cX6_readByte 3 = .ok (.if_icmp .ne 10, 3) := by decide +kernel
theorem dX6_readByte_6 : decode cX6_readByte 6 = .ok (.aload_n 0, 1) := by decide +kernel
theorem dX6_readByte_7 : decode cX6_readByte 7 = .ok (.iconst 0, 1) := by decide +kernel
theorem dX6_readByte_8 : decode cX6_readByte 8 = .ok (.putfield 42, 3) := by decide +kernel
theorem dX6_readByte_11 : decode cX6_readByte 11 = .ok (.iconst 1, 1) := by decide +kernel
theorem dX6_readByte_12 : decode cX6_readByte 12 = .ok (.ireturn, 1) := by decide +kernel
theorem dX6_readByte_13 : decode cX6_readByte 13 = .ok (.aload_n 0, 1) := by decide +kernel
theorem dX6_readByte_14 : decode cX6_readByte 14 = .ok (.getfield 39, 3) := by decide +kernel
end
section
theorem dX6_readByte_17 : decode cX6_readByte 17 = .ok (.ifCond .ne 9, 3) := by decide +kernel
theorem dX6_readByte_20 : decode cX6_readByte 20 = .ok (.aload_n 0, 1) := by decide +kernel
theorem dX6_readByte_21 : decode cX6_readByte 21 = .ok (.iload_n 1, 1) := by decide +kernel
theorem dX6_readByte_22 : decode cX6_readByte 22 = .ok (.invokevirtual 49, 3) := by decide +kernel
theorem dX6_readByte_25 : decode cX6_readByte 25 = .ok (.ireturn, 1) := by decide +kernel
theorem dX6_readByte_26 : decode cX6_readByte 26 = .ok (.iload_n 1, 1) := by decide +kernel
theorem dX6_readByte_27 : decode cX6_readByte 27 = .ok (.bipush 48, 2) := by decide +kernel
theorem dX6_readByte_29 : decode cX6_readByte 29 = .ok (.bipush 57, 2) := by decide +kernel
theorem dX6_readByte_31 : decode cX6_readByte 31 = .ok (.invokestatic 24, 3) := by decide +kernel
theorem dX6_readByte_34 : decode cX6_readByte 34 = .ok (.ifCond .eq 12, 3) := by decide +kernel
theorem dX6_readByte_37 : decode cX6_readByte 37 = .ok (.aload_n 0, 1) := by decide +kernel
theorem dX6_readByte_38 : decode cX6_readByte 38 = .ok (.iload_n 1, 1) := by decide +kernel
theorem dX6_readByte_39 : decode cX6_readByte 39 = .ok (.bipush 48, 2) := by decide +kernel
theorem dX6_readByte_41 : decode cX6_readByte 41 = .ok (.isub, 1) := by decide +kernel
theorem dX6_readByte_42 : decode cX6_readByte 42 = .ok (.invokevirtual 52, 3) := by decide +kernel
theorem dX6_readByte_45 : decode cX6_readByte 45 = .ok (.ireturn, 1) := by decide +kernel
theorem dX6_readByte_46 : decode cX6_readByte 46 = .ok (.iload_n 1, 1) := by decide +kernel
theorem dX6_readByte_47 : decode cX6_readByte 47 = .ok (.bipush 59, 2) := by decide +kernel
theorem dX6_readByte_49 : decode cX6_readByte 49 = .ok (.if_icmp .ne 14, 3) := by decide +kernel
theorem dX6_readByte_52 : decode cX6_readByte 52 = .ok (.aload_n 0, 1) := by decide +kernel
theorem dX6_readByte_53 : decode cX6_readByte 53 = .ok (.invokevirtual 55, 3) := by decide +kernel
theorem dX6_readByte_56 : decode cX6_readByte 56 = .ok (.ifCond .eq 7, 3) := by decide +kernel
theorem dX6_readByte_59 : decode cX6_readByte 59 = .ok (.iconst 1, 1) := by decide +kernel
theorem dX6_readByte_60 : decode cX6_readByte 60 = .ok (.goto 4, 3) := by decide +kernel
theorem dX6_readByte_63 : decode cX6_readByte 63 = .ok (.iconst 0, 1) := by decide +kernel
theorem dX6_readByte_64 : decode cX6_readByte 64 = .ok (.ireturn, 1) := by decide +kernel
theorem dX6_readLetter_0 : decode cX6_readLetter 0 = .ok (.iload_n 1, 1) := by decide +kernel
theorem dX6_readLetter_1 : decode cX6_readLetter 1 = .ok (.invokestatic 59, 3) := by decide +kernel
theorem dX6_readLetter_4 : decode cX6_readLetter 4 = .ok (.ifCond .eq 12, 3) := by decide +kernel
theorem dX6_readLetter_7 : decode cX6_readLetter 7 = .ok (.aload_n 0, 1) := by decide +kernel
theorem dX6_readLetter_8 : decode cX6_readLetter 8 = .ok (.getfield 32, 3) := by decide +kernel
theorem dX6_readLetter_11 : decode cX6_readLetter 11 = .ok (.bipush 40, 2) := by decide +kernel
theorem dX6_readLetter_13 : decode cX6_readLetter 13 = .ok (.if_icmp .lt 5, 3) := by decide +kernel
theorem dX6_readLetter_16 : decode cX6_readLetter 16 = .ok (.iconst 0, 1) := by decide +kernel
theorem dX6_readLetter_17 : decode cX6_readLetter 17 = .ok (.ireturn, 1) := by decide +kernel
theorem dX6_readLetter_18 : decode cX6_readLetter 18 = .ok (.aload_n 0, 1) := by decide +kernel
theorem dX6_readLetter_19 : decode cX6_readLetter 19 = .ok (.iload_n 1, 1) := by decide +kernel
theorem dX6_readLetter_20 : decode cX6_readLetter 20 = .ok (.putfield 39, 3) := by decide +kernel
theorem dX6_readLetter_23 : decode cX6_readLetter 23 = .ok (.aload_n 0, 1) := by decide +kernel
theorem dX6_readLetter_24 : decode cX6_readLetter 24 = .ok (.getfield 15, 3) := by decide +kernel
theorem dX6_readLetter_27 : decode cX6_readLetter 27 = .ok (.aload_n 0, 1) := by decide +kernel
theorem dX6_readLetter_28 : decode cX6_readLetter 28 = .ok (.getfield 32, 3) := by decide +kernel
theorem dX6_readLetter_31 : decode cX6_readLetter 31 = .ok (.iload_n 1, 1) := by decide +kernel
theorem dX6_readLetter_32 : decode cX6_readLetter 32 = .ok (.iastore, 1) := by decide +kernel
theorem dX6_readLetter_33 : decode cX6_readLetter 33 = .ok (.aload_n 0, 1) := by decide +kernel
theorem dX6_readLetter_34 : decode cX6_readLetter 34 = .ok (.getfield 18, 3) := by decide +kernel
theorem dX6_readLetter_37 : decode cX6_readLetter 37 = .ok (.aload_n 0, 1) := by decide +kernel
theorem dX6_readLetter_38 : decode cX6_readLetter 38 = .ok (.getfield 32, 3) := by decide +kernel
theorem dX6_readLetter_41 : decode cX6_readLetter 41 = .ok (.iconst 0, 1) := by decide +kernel
theorem dX6_readLetter_42 : decode cX6_readLetter 42 = .ok (.iastore, 1) := by decide +kernel
theorem dX6_readLetter_43 : decode cX6_readLetter 43 = .ok (.iconst 1, 1) := by decide +kernel
theorem dX6_readLetter_44 : decode cX6_readLetter 44 = .ok (.ireturn, 1) := by decide +kernel
theorem dX6_readFigure_0 : decode cX6_readFigure 0 = .ok (.aload_n 0, 1) := by decide +kernel
theorem dX6_readFigure_1 : decode cX6_readFigure 1 = .ok (.getfield 42, 3) := by decide +kernel
theorem dX6_readFigure_4 : decode cX6_readFigure 4 = .ok (.ifCond .ne 9, 3) := by decide +kernel
theorem dX6_readFigure_7 : decode cX6_readFigure 7 = .ok (.aload_n 0, 1) := by decide +kernel
theorem dX6_readFigure_8 : decode cX6_readFigure 8 = .ok (.iload_n 1, 1) := by decide +kernel
theorem dX6_readFigure_9 : decode cX6_readFigure 9 = .ok (.invokevirtual 62, 3) := by decide +kernel
theorem dX6_readFigure_12 : decode cX6_readFigure 12 = .ok (.ireturn, 1) := by decide +kernel
theorem dX6_readFigure_13 : decode cX6_readFigure 13 = .ok (.aload_n 0, 1) := by decide +kernel
theorem dX6_readFigure_14 : decode cX6_readFigure 14 = .ok (.getfield 42, 3) := by decide +kernel
theorem dX6_readFigure_17 : decode cX6_readFigure 17 = .ok (.iconst 3, 1) := by decide +kernel
theorem dX6_readFigure_18 : decode cX6_readFigure 18 = .ok (.if_icmp .lt 5, 3) := by decide +kernel
theorem dX6_readFigure_21 : decode cX6_readFigure 21 = .ok (.iconst 0, 1) := by decide +kernel
theorem dX6_readFigure_22 : decode cX6_readFigure 22 = .ok (.ireturn, 1) := by decide +kernel
theorem dX6_readFigure_23 : decode cX6_readFigure 23 = .ok (.aload_n 0, 1) := by decide +kernel
theorem dX6_readFigure_24 : decode cX6_readFigure 24 = .ok (.getfield 32, 3) := by decide +kernel
theorem dX6_readFigure_27 : decode cX6_readFigure 27 = .ok (.bipush 8, 2) := by decide +kernel
theorem dX6_readFigure_29 : decode cX6_readFigure 29 = .ok (.imul, 1) := by decide +kernel
theorem dX6_readFigure_30 : decode cX6_readFigure 30 = .ok (.aload_n 0, 1) := by decide +kernel
theorem dX6_readFigure_31 : decode cX6_readFigure 31 = .ok (.getfield 18, 3) := by decide +kernel
theorem dX6_readFigure_34 : decode cX6_readFigure 34 = .ok (.aload_n 0, 1) := by decide +kernel
theorem dX6_readFigure_35 : decode cX6_readFigure 35 = .ok (.getfield 32, 3) := by decide +kernel
theorem dX6_readFigure_38 : decode cX6_readFigure 38 = .ok (.iaload, 1) := by decide +kernel
theorem dX6_readFigure_39 : decode cX6_readFigure 39 = .ok (.iadd, 1) := by decide +kernel
theorem dX6_readFigure_40 : decode cX6_readFigure 40 = .ok (.iconst 1, 1) := by decide +kernel
theorem dX6_readFigure_41 : decode cX6_readFigure 41 = .ok (.isub, 1) := by decide +kernel
theorem dX6_readFigure_42 : decode cX6_readFigure 42 = .ok (.istore_n 2, 1) := by decide +kernel
theorem dX6_readFigure_43 : decode cX6_readFigure 43 = .ok (.aload_n 0, 1) := by decide +kernel
theorem dX6_readFigure_44 : decode cX6_readFigure 44 = .ok (.getfield 21, 3) := by decide +kernel
theorem dX6_readFigure_47 : decode cX6_readFigure 47 = .ok (.iload_n 2, 1) := by decide +kernel
theorem dX6_readFigure_48 : decode cX6_readFigure 48 = .ok (.bipush 10, 2) := by decide +kernel
theorem dX6_readFigure_50 : decode cX6_readFigure 50 = .ok (.aload_n 0, 1) := by decide +kernel
theorem dX6_readFigure_51 : decode cX6_readFigure 51 = .ok (.getfield 21, 3) := by decide +kernel
theorem dX6_readFigure_54 : decode cX6_readFigure 54 = .ok (.iload_n 2, 1) := by decide +kernel
theorem dX6_readFigure_55 : decode cX6_readFigure 55 = .ok (.iaload, 1) := by decide +kernel
theorem dX6_readFigure_56 : decode cX6_readFigure 56 = .ok (.imul, 1) := by decide +kernel
theorem dX6_readFigure_57 : decode cX6_readFigure 57 = .ok (.iload_n 1, 1) := by decide +kernel
theorem dX6_readFigure_58 : decode cX6_readFigure 58 = .ok (.iadd, 1) := by decide +kernel
theorem dX6_readFigure_59 : decode cX6_readFigure 59 = .ok (.iastore, 1) := by decide +kernel
theorem dX6_readFigure_60 : decode cX6_readFigure 60 = .ok (.aload_n 0, 1) := by decide +kernel
theorem dX6_readFigure_61 : decode cX6_readFigure 61 = .ok (.dup, 1) := by decide +kernel
theorem dX6_readFigure_62 : decode cX6_readFigure 62 = .ok (.getfield 42, 3) := by decide +kernel
theorem dX6_readFigure_65 : decode cX6_readFigure 65 = .ok (.iconst 1, 1) := by decide +kernel
theorem dX6_readFigure_66 : decode cX6_readFigure 66 = .ok (.iadd, 1) := by decide +kernel
theorem dX6_readFigure_67 : decode cX6_readFigure 67 = .ok (.putfield 42, 3) := by decide +kernel
theorem dX6_readFigure_70 : decode cX6_readFigure 70 = .ok (.iconst 1, 1) := by decide +kernel
theorem dX6_readFigure_71 : decode cX6_readFigure 71 = .ok (.ireturn, 1) := by decide +kernel
theorem dX6_readFirstFigure_0 : decode cX6_readFirstFigure 0 = .ok (.aload_n 0, 1) := by decide +kernel
theorem dX6_readFirstFigure_1 : decode cX6_readFirstFigure 1 = .ok (.getfield 18, 3) := by decide +kernel
theorem dX6_readFirstFigure_4 : decode cX6_readFirstFigure 4 = .ok (.aload_n 0, 1) := by decide +kernel
theorem dX6_readFirstFigure_5 : decode cX6_readFirstFigure 5 = .ok (.getfield 32, 3) := by decide +kernel
theorem dX6_readFirstFigure_8 : decode cX6_readFirstFigure 8 = .ok (.iaload, 1) := by decide +kernel
theorem dX6_readFirstFigure_9 : decode cX6_readFirstFigure 9 = .ok (.aload_n 0, 1) := by decide +kernel
theorem dX6_readFirstFigure_10 : decode cX6_readFirstFigure 10 = .ok (.getfield 39, 3) := by decide +kernel
theorem dX6_readFirstFigure_13 : decode cX6_readFirstFigure 13 = .ok (.invokestatic 59, 3) := by decide +kernel
theorem dX6_readFirstFigure_16 : decode cX6_readFirstFigure 16 = .ok (.if_icmp .lt 5, 3) := by decide +kernel
theorem dX6_readFirstFigure_19 : decode cX6_readFirstFigure 19 = .ok (.iconst 0, 1) := by decide +kernel
theorem dX6_readFirstFigure_20 : decode cX6_readFirstFigure 20 = .ok (.ireturn, 1) := by decide +kernel
theorem dX6_readFirstFigure_21 : decode cX6_readFirstFigure 21 = .ok (.aload_n 0, 1) := by decide +kernel
theorem dX6_readFirstFigure_22 : decode cX6_readFirstFigure 22 = .ok (.getfield 21, 3) := by decide +kernel
theorem dX6_readFirstFigure_25 : decode cX6_readFirstFigure 25 = .ok (.aload_n 0, 1) := by decide +kernel
theorem dX6_readFirstFigure_26 : decode cX6_readFirstFigure 26 = .ok (.getfield 32, 3) := by decide +kernel
theorem dX6_readFirstFigure_29 : decode cX6_readFirstFigure 29 = .ok (.bipush 8, 2) := by decide +kernel
theorem dX6_readFirstFigure_31 : decode cX6_readFirstFigure 31 = .ok (.imul, 1) := by decide +kernel
theorem dX6_readFirstFigure_32 : decode cX6_readFirstFigure 32 = .ok (.aload_n 0, 1) := by decide +kernel
theorem dX6_readFirstFigure_33 : decode cX6_readFirstFigure 33 = .ok (.getfield 18, 3) := by decide +kernel
theorem dX6_readFirstFigure_36 : decode cX6_readFirstFigure 36 = .ok (.aload_n 0, 1) := by decide +kernel
theorem dX6_readFirstFigure_37 : decode cX6_readFirstFigure 37 = .ok (.getfield 32, 3) := by decide +kernel
theorem dX6_readFirstFigure_40 : decode cX6_readFirstFigure 40 = .ok (.iaload, 1) := by decide +kernel
theorem dX6_readFirstFigure_41 : decode cX6_readFirstFigure 41 = .ok (.iadd, 1) := by decide +kernel
theorem dX6_readFirstFigure_42 : decode cX6_readFirstFigure 42 = .ok (.iload_n 1, 1) := by decide +kernel
theorem dX6_readFirstFigure_43 : decode cX6_readFirstFigure 43 = .ok (.iastore, 1) := by decide +kernel
theorem dX6_readFirstFigure_44 : decode cX6_readFirstFigure 44 = .ok (.aload_n 0, 1) := by decide +kernel
theorem dX6_readFirstFigure_45 : decode cX6_readFirstFigure 45 = .ok (.getfield 18, 3) := by decide +kernel
theorem dX6_readFirstFigure_48 : decode cX6_readFirstFigure 48 = .ok (.aload_n 0, 1) := by decide +kernel
theorem dX6_readFirstFigure_49 : decode cX6_readFirstFigure 49 = .ok (.getfield 32, 3) := by decide +kernel
theorem dX6_readFirstFigure_52 : decode cX6_readFirstFigure 52 = .ok (.dup2, 1) := by decide +kernel
theorem dX6_readFirstFigure_53 : decode cX6_readFirstFigure 53 = .ok (.iaload, 1) := by decide +kernel
theorem dX6_readFirstFigure_54 : decode cX6_readFirstFigure 54 = .ok (.iconst 1, 1) := by decide +kernel
theorem dX6_readFirstFigure_55 : decode cX6_readFirstFigure 55 = .ok (.iadd, 1) := by decide +kernel
theorem dX6_readFirstFigure_56 : decode cX6_readFirstFigure 56 = .ok (.iastore, 1) := by decide +kernel
theorem dX6_readFirstFigure_57 : decode cX6_readFirstFigure 57 = .ok (.aload_n 0, 1) := by decide +kernel
theorem dX6_readFirstFigure_58 : decode cX6_readFirstFigure 58 = .ok (.iconst 1, 1) := by decide +kernel
theorem dX6_readFirstFigure_59 : decode cX6_readFirstFigure 59 = .ok (.putfield 42, 3) := by decide +kernel
theorem dX6_readFirstFigure_62 : decode cX6_readFirstFigure 62 = .ok (.iconst 1, 1) := by decide +kernel
theorem dX6_readFirstFigure_63 : decode cX6_readFirstFigure 63 = .ok (.ireturn, 1) := by decide +kernel
theorem dX6_readEnd_0 : decode cX6_readEnd 0 = .ok (.aload_n 0, 1) := by decide +kernel
theorem dX6_readEnd_1 : decode cX6_readEnd 1 = .ok (.getfield 18, 3) := by decide +kernel
theorem dX6_readEnd_4 : decode cX6_readEnd 4 = .ok (.aload_n 0, 1) := by decide +kernel
theorem dX6_readEnd_5 : decode cX6_readEnd 5 = .ok (.getfield 32, 3) := by decide +kernel
theorem dX6_readEnd_8 : decode cX6_readEnd 8 = .ok (.iaload, 1) := by decide +kernel
theorem dX6_readEnd_9 : decode cX6_readEnd 9 = .ok (.aload_n 0, 1) := by decide +kernel
theorem dX6_readEnd_10 : decode cX6_readEnd 10 = .ok (.getfield 39, 3) := by decide +kernel
theorem dX6_readEnd_13 : decode cX6_readEnd 13 = .ok (.invokestatic 65, 3) := by decide +kernel
theorem dX6_readEnd_16 : decode cX6_readEnd 16 = .ok (.if_icmp .ge 5, 3) := by decide +kernel
theorem dX6_readEnd_19 : decode cX6_readEnd 19 = .ok (.iconst 0, 1) := by decide +kernel
theorem dX6_readEnd_20 : decode cX6_readEnd 20 = .ok (.ireturn, 1) := by decide +kernel
theorem dX6_readEnd_21 : decode cX6_readEnd 21 = .ok (.aload_n 0, 1) := by decide +kernel
theorem dX6_readEnd_22 : decode cX6_readEnd 22 = .ok (.dup, 1) := by decide +kernel
theorem dX6_readEnd_23 : decode cX6_readEnd 23 = .ok (.getfield 32, 3) := by decide +kernel
theorem dX6_readEnd_26 : decode cX6_readEnd 26 = .ok (.iconst 1, 1) := by decide +kernel
theorem dX6_readEnd_27 : decode cX6_readEnd 27 = .ok (.iadd, 1) := by decide +kernel
theorem dX6_readEnd_28 : decode cX6_readEnd 28 = .ok (.putfield 32, 3) := by decide +kernel
theorem dX6_readEnd_31 : decode cX6_readEnd 31 = .ok (.aload_n 0, 1) := by decide +kernel
theorem dX6_readEnd_32 : decode cX6_readEnd 32 = .ok (.iconst 0, 1) := by decide +kernel
theorem dX6_readEnd_33 : decode cX6_readEnd 33 = .ok (.putfield 39, 3) := by decide +kernel
theorem dX6_readEnd_36 : decode cX6_readEnd 36 = .ok (.aload_n 0, 1) := by decide +kernel
theorem dX6_readEnd_37 : decode cX6_readEnd 37 = .ok (.iconst 0, 1) := by decide +kernel
theorem dX6_readEnd_38 : decode cX6_readEnd 38 = .ok (.putfield 42, 3) := by decide +kernel
theorem dX6_readEnd_41 : decode cX6_readEnd 41 = .ok (.iconst 1, 1) := by decide +kernel
theorem dX6_readEnd_42 : decode cX6_readEnd 42 = .ok (.ireturn, 1) := by decide +kernel
theorem dX6_mostNumbers_0 : decode cX6_mostNumbers 0 = .ok (.iload_n 0, 1) := by decide +kernel
theorem dX6_mostNumbers_1 : decode cX6_mostNumbers 1 = .ok (.lookupswitch 60 #[(99, 55), (102, 51), (103, 57), (109, 53), (114, 53)], 51) := by decide +kernel
theorem dX6_mostNumbers_52 : decode cX6_mostNumbers 52 = .ok (.iconst 1, 1) := by decide +kernel
theorem dX6_mostNumbers_53 : decode cX6_mostNumbers 53 = .ok (.ireturn, 1) := by decide +kernel
theorem dX6_mostNumbers_54 : decode cX6_mostNumbers 54 = .ok (.iconst 2, 1) := by decide +kernel
theorem dX6_mostNumbers_55 : decode cX6_mostNumbers 55 = .ok (.ireturn, 1) := by decide +kernel
theorem dX6_mostNumbers_56 : decode cX6_mostNumbers 56 = .ok (.iconst 3, 1) := by decide +kernel
theorem dX6_mostNumbers_57 : decode cX6_mostNumbers 57 = .ok (.ireturn, 1) := by decide +kernel
theorem dX6_mostNumbers_58 : decode cX6_mostNumbers 58 = .ok (.bipush 8, 2) := by decide +kernel
theorem dX6_mostNumbers_60 : decode cX6_mostNumbers 60 = .ok (.ireturn, 1) := by decide +kernel
theorem dX6_mostNumbers_61 : decode cX6_mostNumbers 61 = .ok (.iconst 0, 1) := by decide +kernel
theorem dX6_mostNumbers_62 : decode cX6_mostNumbers 62 = .ok (.ireturn, 1) := by decide +kernel
theorem dX6_leastNumbers_0 : decode cX6_leastNumbers 0 = .ok (.iload_n 0, 1) := by decide +kernel
theorem dX6_leastNumbers_1 : decode cX6_leastNumbers 1 = .ok (.bipush 103, 2) := by decide +kernel
theorem dX6_leastNumbers_3 : decode cX6_leastNumbers 3 = .ok (.if_icmp .ne 7, 3) := by decide +kernel
theorem dX6_leastNumbers_6 : decode cX6_leastNumbers 6 = .ok (.iconst 5, 1) := by decide +kernel
theorem dX6_leastNumbers_7 : decode cX6_leastNumbers 7 = .ok (.goto 7, 3) := by decide +kernel
theorem dX6_leastNumbers_10 : decode cX6_leastNumbers 10 = .ok (.iload_n 0, 1) := by decide +kernel
theorem dX6_leastNumbers_11 : decode cX6_leastNumbers 11 = .ok (.invokestatic 59, 3) := by decide +kernel
theorem dX6_leastNumbers_14 : decode cX6_leastNumbers 14 = .ok (.ireturn, 1) := by decide +kernel
theorem dX7_init_0 : decode cX7_init 0 = .ok (.aload_n 0, 1) := by decide +kernel
theorem dX7_init_1 : decode cX7_init 1 = .ok (.invokespecial 1, 3) := by decide +kernel
theorem dX7_init_4 : decode cX7_init 4 = .ok (.new 7, 3) := by decide +kernel
theorem dX7_init_7 : decode cX7_init 7 = .ok (.dup, 1) := by decide +kernel
theorem dX7_init_8 : decode cX7_init 8 = .ok (.invokespecial 9, 3) := by decide +kernel
theorem dX7_init_11 : decode cX7_init 11 = .ok (.astore_n 1, 1) := by decide +kernel
theorem dX7_init_12 : decode cX7_init 12 = .ok (.aload_n 0, 1) := by decide +kernel
theorem dX7_init_13 : decode cX7_init 13 = .ok (.new 10, 3) := by decide +kernel
theorem dX7_init_16 : decode cX7_init 16 = .ok (.dup, 1) := by decide +kernel
theorem dX7_init_17 : decode cX7_init 17 = .ok (.aload_n 1, 1) := by decide +kernel
theorem dX7_init_18 : decode cX7_init 18 = .ok (.invokespecial 12, 3) := by decide +kernel
theorem dX7_init_21 : decode cX7_init 21 = .ok (.putfield 15, 3) := by decide +kernel
theorem dX7_init_24 : decode cX7_init 24 = .ok (.aload_n 0, 1) := by decide +kernel
theorem dX7_init_25 : decode cX7_init 25 = .ok (.new 21, 3) := by decide +kernel
theorem dX7_init_28 : decode cX7_init 28 = .ok (.dup, 1) := by decide +kernel
theorem dX7_init_29 : decode cX7_init 29 = .ok (.aload_n 1, 1) := by decide +kernel
theorem dX7_init_30 : decode cX7_init 30 = .ok (.invokespecial 23, 3) := by decide +kernel
theorem dX7_init_33 : decode cX7_init 33 = .ok (.putfield 24, 3) := by decide +kernel
theorem dX7_init_36 : decode cX7_init 36 = .ok (.aload_n 0, 1) := by decide +kernel
theorem dX7_init_37 : decode cX7_init 37 = .ok (.new 28, 3) := by decide +kernel
theorem dX7_init_40 : decode cX7_init 40 = .ok (.dup, 1) := by decide +kernel
theorem dX7_init_41 : decode cX7_init 41 = .ok (.invokespecial 30, 3) := by decide +kernel
theorem dX7_init_44 : decode cX7_init 44 = .ok (.putfield 31, 3) := by decide +kernel
theorem dX7_init_47 : decode cX7_init 47 = .ok (.aload_n 0, 1) := by decide +kernel
theorem dX7_init_48 : decode cX7_init 48 = .ok (.iconst 3, 1) := by decide +kernel
theorem dX7_init_49 : decode cX7_init 49 = .ok (.newarray .int, 2) := by decide +kernel
theorem dX7_init_51 : decode cX7_init 51 = .ok (.putfield 35, 3) := by decide +kernel
theorem dX7_init_54 : decode cX7_init 54 = .ok (.return_, 1) := by decide +kernel
theorem dX7_counters_0 : decode cX7_counters 0 = .ok (.aload_n 0, 1) := by decide +kernel
theorem dX7_counters_1 : decode cX7_counters 1 = .ok (.getfield 24, 3) := by decide +kernel
theorem dX7_counters_4 : decode cX7_counters 4 = .ok (.aload_n 0, 1) := by decide +kernel
theorem dX7_counters_5 : decode cX7_counters 5 = .ok (.getfield 15, 3) := by decide +kernel
theorem dX7_counters_8 : decode cX7_counters 8 = .ok (.invokevirtual 39, 3) := by decide +kernel
theorem dX7_counters_11 : decode cX7_counters 11 = .ok (.aload_n 0, 1) := by decide +kernel
theorem dX7_counters_12 : decode cX7_counters 12 = .ok (.aload_n 0, 1) := by decide +kernel
theorem dX7_counters_13 : decode cX7_counters 13 = .ok (.getfield 15, 3) := by decide +kernel
theorem dX7_counters_16 : decode cX7_counters 16 = .ok (.iload_n 1, 1) := by decide +kernel
theorem dX7_counters_17 : decode cX7_counters 17 = .ok (.invokevirtual 43, 3) := by decide +kernel
theorem dX7_counters_20 : decode cX7_counters 20 = .ok (.invokevirtual 47, 3) := by decide +kernel
theorem dX7_counters_23 : decode cX7_counters 23 = .ok (.ireturn, 1) := by decide +kernel
theorem dX7_masks_0 : decode cX7_masks 0 = .ok (.aload_n 0, 1) := by decide +kernel
theorem dX7_masks_1 : decode cX7_masks 1 = .ok (.getfield 24, 3) := by decide +kernel
theorem dX7_masks_4 : decode cX7_masks 4 = .ok (.aload_n 0, 1) := by decide +kernel
theorem dX7_masks_5 : decode cX7_masks 5 = .ok (.getfield 15, 3) := by decide +kernel
theorem dX7_masks_8 : decode cX7_masks 8 = .ok (.invokevirtual 39, 3) := by decide +kernel
theorem dX7_masks_11 : decode cX7_masks 11 = .ok (.aload_n 0, 1) := by decide +kernel
theorem dX7_masks_12 : decode cX7_masks 12 = .ok (.aload_n 0, 1) := by decide +kernel
theorem dX7_masks_13 : decode cX7_masks 13 = .ok (.getfield 15, 3) := by decide +kernel
theorem dX7_masks_16 : decode cX7_masks 16 = .ok (.iload_n 1, 1) := by decide +kernel
theorem dX7_masks_17 : decode cX7_masks 17 = .ok (.iload_n 2, 1) := by decide +kernel
theorem dX7_masks_18 : decode cX7_masks 18 = .ok (.invokevirtual 50, 3) := by decide +kernel
theorem dX7_masks_21 : decode cX7_masks 21 = .ok (.invokevirtual 47, 3) := by decide +kernel
theorem dX7_masks_24 : decode cX7_masks 24 = .ok (.ireturn, 1) := by decide +kernel
theorem dX7_rates_0 : decode cX7_rates 0 = .ok (.aload_n 0, 1) := by decide +kernel
theorem dX7_rates_1 : decode cX7_rates 1 = .ok (.getfield 24, 3) := by decide +kernel
theorem dX7_rates_4 : decode cX7_rates 4 = .ok (.aload_n 0, 1) := by decide +kernel
theorem dX7_rates_5 : decode cX7_rates 5 = .ok (.getfield 15, 3) := by decide +kernel
theorem dX7_rates_8 : decode cX7_rates 8 = .ok (.invokevirtual 39, 3) := by decide +kernel
theorem dX7_rates_11 : decode cX7_rates 11 = .ok (.aload_n 0, 1) := by decide +kernel
theorem dX7_rates_12 : decode cX7_rates 12 = .ok (.aload_n 0, 1) := by decide +kernel
theorem dX7_rates_13 : decode cX7_rates 13 = .ok (.getfield 15, 3) := by decide +kernel
theorem dX7_rates_16 : decode cX7_rates 16 = .ok (.getfield 54, 3) := by decide +kernel
theorem dX7_rates_19 : decode cX7_rates 19 = .ok (.iload_n 1, 1) := by decide +kernel
theorem dX7_rates_20 : decode cX7_rates 20 = .ok (.iload_n 2, 1) := by decide +kernel
theorem dX7_rates_21 : decode cX7_rates 21 = .ok (.iload_n 3, 1) := by decide +kernel
theorem dX7_rates_22 : decode cX7_rates 22 = .ok (.invokevirtual 58, 3) := by decide +kernel
theorem dX7_rates_25 : decode cX7_rates 25 = .ok (.invokevirtual 47, 3) := by decide +kernel
theorem dX7_rates_28 : decode cX7_rates 28 = .ok (.ireturn, 1) := by decide +kernel
theorem dX7_forks_0 : decode cX7_forks 0 = .ok (.aload_n 0, 1) := by decide +kernel
theorem dX7_forks_1 : decode cX7_forks 1 = .ok (.getfield 24, 3) := by decide +kernel
theorem dX7_forks_4 : decode cX7_forks 4 = .ok (.aload_n 0, 1) := by decide +kernel
theorem dX7_forks_5 : decode cX7_forks 5 = .ok (.getfield 15, 3) := by decide +kernel
theorem dX7_forks_8 : decode cX7_forks 8 = .ok (.invokevirtual 39, 3) := by decide +kernel
theorem dX7_forks_11 : decode cX7_forks 11 = .ok (.aload_n 0, 1) := by decide +kernel
theorem dX7_forks_12 : decode cX7_forks 12 = .ok (.aload_n 0, 1) := by decide +kernel
theorem dX7_forks_13 : decode cX7_forks 13 = .ok (.getfield 15, 3) := by decide +kernel
theorem dX7_forks_16 : decode cX7_forks 16 = .ok (.getfield 54, 3) := by decide +kernel
theorem dX7_forks_19 : decode cX7_forks 19 = .ok (.iload_n 1, 1) := by decide +kernel
theorem dX7_forks_20 : decode cX7_forks 20 = .ok (.invokevirtual 64, 3) := by decide +kernel
theorem dX7_forks_23 : decode cX7_forks 23 = .ok (.invokevirtual 47, 3) := by decide +kernel
theorem dX7_forks_26 : decode cX7_forks 26 = .ok (.ireturn, 1) := by decide +kernel
theorem dX7_exits_0 : decode cX7_exits 0 = .ok (.aload_n 0, 1) := by decide +kernel
theorem dX7_exits_1 : decode cX7_exits 1 = .ok (.getfield 24, 3) := by decide +kernel
theorem dX7_exits_4 : decode cX7_exits 4 = .ok (.aload_n 0, 1) := by decide +kernel
theorem dX7_exits_5 : decode cX7_exits 5 = .ok (.getfield 15, 3) := by decide +kernel
theorem dX7_exits_8 : decode cX7_exits 8 = .ok (.invokevirtual 39, 3) := by decide +kernel
theorem dX7_exits_11 : decode cX7_exits 11 = .ok (.aload_n 0, 1) := by decide +kernel
theorem dX7_exits_12 : decode cX7_exits 12 = .ok (.aload_n 0, 1) := by decide +kernel
theorem dX7_exits_13 : decode cX7_exits 13 = .ok (.getfield 15, 3) := by decide +kernel
theorem dX7_exits_16 : decode cX7_exits 16 = .ok (.iload_n 1, 1) := by decide +kernel
theorem dX7_exits_17 : decode cX7_exits 17 = .ok (.invokevirtual 67, 3) := by decide +kernel
theorem dX7_exits_20 : decode cX7_exits 20 = .ok (.invokevirtual 47, 3) := by decide +kernel
theorem dX7_exits_23 : decode cX7_exits 23 = .ok (.ireturn, 1) := by decide +kernel
theorem dX7_group_0 : decode cX7_group 0 = .ok (.aload_n 0, 1) := by decide +kernel
theorem dX7_group_1 : decode cX7_group 1 = .ok (.getfield 24, 3) := by decide +kernel
theorem dX7_group_4 : decode cX7_group 4 = .ok (.aload_n 0, 1) := by decide +kernel
theorem dX7_group_5 : decode cX7_group 5 = .ok (.getfield 15, 3) := by decide +kernel
theorem dX7_group_8 : decode cX7_group 8 = .ok (.invokevirtual 39, 3) := by decide +kernel
theorem dX7_group_11 : decode cX7_group 11 = .ok (.aload_n 0, 1) := by decide +kernel
theorem dX7_group_12 : decode cX7_group 12 = .ok (.aload_n 0, 1) := by decide +kernel
theorem dX7_group_13 : decode cX7_group 13 = .ok (.getfield 15, 3) := by decide +kernel
theorem dX7_group_16 : decode cX7_group 16 = .ok (.iload_n 1, 1) := by decide +kernel
theorem dX7_group_17 : decode cX7_group 17 = .ok (.iload_n 2, 1) := by decide +kernel
theorem dX7_group_18 : decode cX7_group 18 = .ok (.iload_n 3, 1) := by decide +kernel
theorem dX7_group_19 : decode cX7_group 19 = .ok (.iload 4, 2) := by decide +kernel
theorem dX7_group_21 : decode cX7_group 21 = .ok (.iload 5, 2) := by decide +kernel
theorem dX7_group_23 : decode cX7_group 23 = .ok (.invokevirtual 70, 3) := by decide +kernel
theorem dX7_group_26 : decode cX7_group 26 = .ok (.invokevirtual 47, 3) := by decide +kernel
theorem dX7_group_29 : decode cX7_group 29 = .ok (.ireturn, 1) := by decide +kernel
theorem dX7_event_0 : decode cX7_event 0 = .ok (.aload_n 0, 1) := by decide +kernel
theorem dX7_event_1 : decode cX7_event 1 = .ok (.getfield 24, 3) := by decide +kernel
theorem dX7_event_4 : decode cX7_event 4 = .ok (.aload_n 0, 1) := by decide +kernel
theorem dX7_event_5 : decode cX7_event 5 = .ok (.getfield 15, 3) := by decide +kernel
theorem dX7_event_8 : decode cX7_event 8 = .ok (.invokevirtual 39, 3) := by decide +kernel
theorem dX7_event_11 : decode cX7_event 11 = .ok (.aload_n 0, 1) := by decide +kernel
theorem dX7_event_12 : decode cX7_event 12 = .ok (.aload_n 0, 1) := by decide +kernel
theorem dX7_event_13 : decode cX7_event 13 = .ok (.getfield 15, 3) := by decide +kernel
theorem dX7_event_16 : decode cX7_event 16 = .ok (.iload_n 1, 1) := by decide +kernel
theorem dX7_event_17 : decode cX7_event 17 = .ok (.iload_n 2, 1) := by decide +kernel
theorem dX7_event_18 : decode cX7_event 18 = .ok (.invokevirtual 74, 3) := by decide +kernel
theorem dX7_event_21 : decode cX7_event 21 = .ok (.invokevirtual 47, 3) := by decide +kernel
theorem dX7_event_24 : decode cX7_event 24 = .ok (.ireturn, 1) := by decide +kernel
theorem dX7_periods_0 : decode cX7_periods 0 = .ok (.aload_n 0, 1) := by decide +kernel
theorem dX7_periods_1 : decode cX7_periods 1 = .ok (.getfield 24, 3) := by decide +kernel
theorem dX7_periods_4 : decode cX7_periods 4 = .ok (.aload_n 0, 1) := by decide +kernel
theorem dX7_periods_5 : decode cX7_periods 5 = .ok (.getfield 15, 3) := by decide +kernel
theorem dX7_periods_8 : decode cX7_periods 8 = .ok (.invokevirtual 39, 3) := by decide +kernel
theorem dX7_periods_11 : decode cX7_periods 11 = .ok (.aload_n 0, 1) := by decide +kernel
theorem dX7_periods_12 : decode cX7_periods 12 = .ok (.aload_n 0, 1) := by decide +kernel
theorem dX7_periods_13 : decode cX7_periods 13 = .ok (.getfield 15, 3) := by decide +kernel
theorem dX7_periods_16 : decode cX7_periods 16 = .ok (.iload_n 1, 1) := by decide +kernel
theorem dX7_periods_17 : decode cX7_periods 17 = .ok (.iload_n 2, 1) := by decide +kernel
theorem dX7_periods_18 : decode cX7_periods 18 = .ok (.invokevirtual 77, 3) := by decide +kernel
theorem dX7_periods_21 : decode cX7_periods 21 = .ok (.invokevirtual 47, 3) := by decide +kernel
theorem dX7_periods_24 : decode cX7_periods 24 = .ok (.ireturn, 1) := by decide +kernel
theorem dX7_skids_0 : decode cX7_skids 0 = .ok (.aload_n 0, 1) := by decide +kernel
theorem dX7_skids_1 : decode cX7_skids 1 = .ok (.getfield 24, 3) := by decide +kernel
theorem dX7_skids_4 : decode cX7_skids 4 = .ok (.aload_n 0, 1) := by decide +kernel
theorem dX7_skids_5 : decode cX7_skids 5 = .ok (.getfield 15, 3) := by decide +kernel
theorem dX7_skids_8 : decode cX7_skids 8 = .ok (.invokevirtual 39, 3) := by decide +kernel
theorem dX7_skids_11 : decode cX7_skids 11 = .ok (.aload_n 0, 1) := by decide +kernel
theorem dX7_skids_12 : decode cX7_skids 12 = .ok (.aload_n 0, 1) := by decide +kernel
theorem dX7_skids_13 : decode cX7_skids 13 = .ok (.getfield 15, 3) := by decide +kernel
theorem dX7_skids_16 : decode cX7_skids 16 = .ok (.iload_n 1, 1) := by decide +kernel
theorem dX7_skids_17 : decode cX7_skids 17 = .ok (.invokevirtual 80, 3) := by decide +kernel
theorem dX7_skids_20 : decode cX7_skids 20 = .ok (.invokevirtual 47, 3) := by decide +kernel
theorem dX7_skids_23 : decode cX7_skids 23 = .ok (.ireturn, 1) := by decide +kernel
theorem dX7_lives_0 : decode cX7_lives 0 = .ok (.aload_n 0, 1) := by decide +kernel
theorem dX7_lives_1 : decode cX7_lives 1 = .ok (.getfield 24, 3) := by decide +kernel
theorem dX7_lives_4 : decode cX7_lives 4 = .ok (.aload_n 0, 1) := by decide +kernel
theorem dX7_lives_5 : decode cX7_lives 5 = .ok (.getfield 15, 3) := by decide +kernel
theorem dX7_lives_8 : decode cX7_lives 8 = .ok (.invokevirtual 39, 3) := by decide +kernel
theorem dX7_lives_11 : decode cX7_lives 11 = .ok (.aload_n 0, 1) := by decide +kernel
theorem dX7_lives_12 : decode cX7_lives 12 = .ok (.aload_n 0, 1) := by decide +kernel
theorem dX7_lives_13 : decode cX7_lives 13 = .ok (.getfield 15, 3) := by decide +kernel
theorem dX7_lives_16 : decode cX7_lives 16 = .ok (.iload_n 1, 1) := by decide +kernel
theorem dX7_lives_17 : decode cX7_lives 17 = .ok (.iload_n 2, 1) := by decide +kernel
theorem dX7_lives_18 : decode cX7_lives 18 = .ok (.invokevirtual 83, 3) := by decide +kernel
theorem dX7_lives_21 : decode cX7_lives 21 = .ok (.invokevirtual 47, 3) := by decide +kernel
theorem dX7_lives_24 : decode cX7_lives 24 = .ok (.ireturn, 1) := by decide +kernel
theorem dX7_runs_0 : decode cX7_runs 0 = .ok (.aload_n 0, 1) := by decide +kernel
theorem dX7_runs_1 : decode cX7_runs 1 = .ok (.getfield 24, 3) := by decide +kernel
theorem dX7_runs_4 : decode cX7_runs 4 = .ok (.aload_n 0, 1) := by decide +kernel
theorem dX7_runs_5 : decode cX7_runs 5 = .ok (.getfield 15, 3) := by decide +kernel
theorem dX7_runs_8 : decode cX7_runs 8 = .ok (.invokevirtual 39, 3) := by decide +kernel
theorem dX7_runs_11 : decode cX7_runs 11 = .ok (.aload_n 0, 1) := by decide +kernel
theorem dX7_runs_12 : decode cX7_runs 12 = .ok (.aload_n 0, 1) := by decide +kernel
theorem dX7_runs_13 : decode cX7_runs 13 = .ok (.getfield 15, 3) := by decide +kernel
theorem dX7_runs_16 : decode cX7_runs 16 = .ok (.iload_n 1, 1) := by decide +kernel
theorem dX7_runs_17 : decode cX7_runs 17 = .ok (.iload_n 2, 1) := by decide +kernel
theorem dX7_runs_18 : decode cX7_runs 18 = .ok (.invokevirtual 86, 3) := by decide +kernel
theorem dX7_runs_21 : decode cX7_runs 21 = .ok (.invokevirtual 47, 3) := by decide +kernel
theorem dX7_runs_24 : decode cX7_runs 24 = .ok (.ireturn, 1) := by decide +kernel
theorem dX7_task_0 : decode cX7_task 0 = .ok (.aload_n 0, 1) := by decide +kernel
theorem dX7_task_1 : decode cX7_task 1 = .ok (.aload_n 0, 1) := by decide +kernel
theorem dX7_task_2 : decode cX7_task 2 = .ok (.getfield 15, 3) := by decide +kernel
theorem dX7_task_5 : decode cX7_task 5 = .ok (.iload_n 1, 1) := by decide +kernel
theorem dX7_task_6 : decode cX7_task 6 = .ok (.iload_n 2, 1) := by decide +kernel
theorem dX7_task_7 : decode cX7_task 7 = .ok (.invokevirtual 89, 3) := by decide +kernel
theorem dX7_task_10 : decode cX7_task 10 = .ok (.invokevirtual 92, 3) := by decide +kernel
theorem dX7_task_13 : decode cX7_task 13 = .ok (.ireturn, 1) := by decide +kernel
theorem dX7_of_0 : decode cX7_of 0 = .ok (.aload_n 0, 1) := by decide +kernel
theorem dX7_of_1 : decode cX7_of 1 = .ok (.aload_n 0, 1) := by decide +kernel
theorem dX7_of_2 : decode cX7_of 2 = .ok (.getfield 15, 3) := by decide +kernel
theorem dX7_of_5 : decode cX7_of 5 = .ok (.iload_n 1, 1) := by decide +kernel
theorem dX7_of_6 : decode cX7_of 6 = .ok (.iload_n 2, 1) := by decide +kernel
theorem dX7_of_7 : decode cX7_of 7 = .ok (.invokevirtual 95, 3) := by decide +kernel
theorem dX7_of_10 : decode cX7_of 10 = .ok (.invokevirtual 92, 3) := by decide +kernel
theorem dX7_of_13 : decode cX7_of 13 = .ok (.ireturn, 1) := by decide +kernel
theorem dX7_about_0 : decode cX7_about 0 = .ok (.aload_n 0, 1) := by decide +kernel
theorem dX7_about_1 : decode cX7_about 1 = .ok (.aload_n 0, 1) := by decide +kernel
theorem dX7_about_2 : decode cX7_about 2 = .ok (.getfield 15, 3) := by decide +kernel
theorem dX7_about_5 : decode cX7_about 5 = .ok (.iload_n 1, 1) := by decide +kernel
theorem dX7_about_6 : decode cX7_about 6 = .ok (.iload_n 2, 1) := by decide +kernel
theorem dX7_about_7 : decode cX7_about 7 = .ok (.iload_n 3, 1) := by decide +kernel
theorem dX7_about_8 : decode cX7_about 8 = .ok (.invokevirtual 98, 3) := by decide +kernel
theorem dX7_about_11 : decode cX7_about 11 = .ok (.invokevirtual 92, 3) := by decide +kernel
theorem dX7_about_14 : decode cX7_about 14 = .ok (.ireturn, 1) := by decide +kernel
theorem dX7_count_0 : decode cX7_count 0 = .ok (.aload_n 0, 1) := by decide +kernel
theorem dX7_count_1 : decode cX7_count 1 = .ok (.aload_n 0, 1) := by decide +kernel
theorem dX7_count_2 : decode cX7_count 2 = .ok (.getfield 15, 3) := by decide +kernel
theorem dX7_count_5 : decode cX7_count 5 = .ok (.iload_n 1, 1) := by decide +kernel
theorem dX7_count_6 : decode cX7_count 6 = .ok (.iload_n 2, 1) := by decide +kernel
theorem dX7_count_7 : decode cX7_count 7 = .ok (.iload_n 3, 1) := by decide +kernel
theorem dX7_count_8 : decode cX7_count 8 = .ok (.invokevirtual 101, 3) := by decide +kernel
theorem dX7_count_11 : decode cX7_count 11 = .ok (.invokevirtual 92, 3) := by decide +kernel
theorem dX7_count_14 : decode cX7_count 14 = .ok (.ireturn, 1) := by decide +kernel
theorem dX7_times_0 : decode cX7_times 0 = .ok (.aload_n 0, 1) := by decide +kernel
theorem dX7_times_1 : decode cX7_times 1 = .ok (.aload_n 0, 1) := by decide +kernel
theorem dX7_times_2 : decode cX7_times 2 = .ok (.getfield 15, 3) := by decide +kernel
theorem dX7_times_5 : decode cX7_times 5 = .ok (.iload_n 1, 1) := by decide +kernel
theorem dX7_times_6 : decode cX7_times 6 = .ok (.iload_n 2, 1) := by decide +kernel
theorem dX7_times_7 : decode cX7_times 7 = .ok (.iload_n 3, 1) := by decide +kernel
theorem dX7_times_8 : decode cX7_times 8 = .ok (.invokevirtual 104, 3) := by decide +kernel
theorem dX7_times_11 : decode cX7_times 11 = .ok (.invokevirtual 92, 3) := by decide +kernel
theorem dX7_times_14 : decode cX7_times 14 = .ok (.ireturn, 1) := by decide +kernel
theorem dX7_scaled_0 : decode cX7_scaled 0 = .ok (.aload_n 0, 1) := by decide +kernel
theorem dX7_scaled_1 : decode cX7_scaled 1 = .ok (.aload_n 0, 1) := by decide +kernel
theorem dX7_scaled_2 : decode cX7_scaled 2 = .ok (.getfield 15, 3) := by decide +kernel
theorem dX7_scaled_5 : decode cX7_scaled 5 = .ok (.iload_n 1, 1) := by decide +kernel
theorem dX7_scaled_6 : decode cX7_scaled 6 = .ok (.iload_n 2, 1) := by decide +kernel
theorem dX7_scaled_7 : decode cX7_scaled 7 = .ok (.iload_n 3, 1) := by decide +kernel
theorem dX7_scaled_8 : decode cX7_scaled 8 = .ok (.invokevirtual 107, 3) := by decide +kernel
theorem dX7_scaled_11 : decode cX7_scaled 11 = .ok (.invokevirtual 92, 3) := by decide +kernel
theorem dX7_scaled_14 : decode cX7_scaled 14 = .ok (.ireturn, 1) := by decide +kernel
theorem dX7_fit_0 : decode cX7_fit 0 = .ok (.aload_n 0, 1) := by decide +kernel
theorem dX7_fit_1 : decode cX7_fit 1 = .ok (.aload_n 0, 1) := by decide +kernel
theorem dX7_fit_2 : decode cX7_fit 2 = .ok (.getfield 15, 3) := by decide +kernel
theorem dX7_fit_5 : decode cX7_fit 5 = .ok (.iload_n 1, 1) := by decide +kernel
theorem dX7_fit_6 : decode cX7_fit 6 = .ok (.invokevirtual 110, 3) := by decide +kernel
theorem dX7_fit_9 : decode cX7_fit 9 = .ok (.invokevirtual 92, 3) := by decide +kernel
theorem dX7_fit_12 : decode cX7_fit 12 = .ok (.ireturn, 1) := by decide +kernel
theorem dX7_queue_0 : decode cX7_queue 0 = .ok (.aload_n 0, 1) := by decide +kernel
theorem dX7_queue_1 : decode cX7_queue 1 = .ok (.aload_n 0, 1) := by decide +kernel
theorem dX7_queue_2 : decode cX7_queue 2 = .ok (.getfield 15, 3) := by decide +kernel
theorem dX7_queue_5 : decode cX7_queue 5 = .ok (.iload_n 1, 1) := by decide +kernel
theorem dX7_queue_6 : decode cX7_queue 6 = .ok (.invokevirtual 113, 3) := by decide +kernel
theorem dX7_queue_9 : decode cX7_queue 9 = .ok (.invokevirtual 92, 3) := by decide +kernel
theorem dX7_queue_12 : decode cX7_queue 12 = .ok (.ireturn, 1) := by decide +kernel
theorem dX7_sample_0 : decode cX7_sample 0 = .ok (.aload_n 0, 1) := by decide +kernel
theorem dX7_sample_1 : decode cX7_sample 1 = .ok (.aload_n 0, 1) := by decide +kernel
theorem dX7_sample_2 : decode cX7_sample 2 = .ok (.getfield 15, 3) := by decide +kernel
theorem dX7_sample_5 : decode cX7_sample 5 = .ok (.getfield 116, 3) := by decide +kernel
theorem dX7_sample_8 : decode cX7_sample 8 = .ok (.iload_n 1, 1) := by decide +kernel
theorem dX7_sample_9 : decode cX7_sample 9 = .ok (.iload_n 2, 1) := by decide +kernel
theorem dX7_sample_10 : decode cX7_sample 10 = .ok (.invokevirtual 120, 3) := by decide +kernel
theorem dX7_sample_13 : decode cX7_sample 13 = .ok (.invokevirtual 92, 3) := by decide +kernel
theorem dX7_sample_16 : decode cX7_sample 16 = .ok (.ireturn, 1) := by decide +kernel
theorem dX7_told_0 : decode cX7_told 0 = .ok (.aload_n 0, 1) := by decide +kernel
theorem dX7_told_1 : decode cX7_told 1 = .ok (.aload_n 0, 1) := by decide +kernel
theorem dX7_told_2 : decode cX7_told 2 = .ok (.getfield 15, 3) := by decide +kernel
theorem dX7_told_5 : decode cX7_told 5 = .ok (.iload_n 1, 1) := by decide +kernel
theorem dX7_told_6 : decode cX7_told 6 = .ok (.invokevirtual 125, 3) := by decide +kernel
theorem dX7_told_9 : decode cX7_told 9 = .ok (.invokevirtual 92, 3) := by decide +kernel
theorem dX7_told_12 : decode cX7_told 12 = .ok (.ireturn, 1) := by decide +kernel
theorem dX7_type_0 : decode cX7_type 0 = .ok (.aload_n 0, 1) := by decide +kernel
theorem dX7_type_1 : decode cX7_type 1 = .ok (.aload_n 0, 1) := by decide +kernel
theorem dX7_type_2 : decode cX7_type 2 = .ok (.getfield 31, 3) := by decide +kernel
theorem dX7_type_5 : decode cX7_type 5 = .ok (.iload_n 1, 1) := by decide +kernel
theorem dX7_type_6 : decode cX7_type 6 = .ok (.invokevirtual 128, 3) := by decide +kernel
theorem dX7_type_9 : decode cX7_type 9 = .ok (.invokevirtual 92, 3) := by decide +kernel
theorem dX7_type_12 : decode cX7_type 12 = .ok (.ireturn, 1) := by decide +kernel
theorem dX7_clear_0 : decode cX7_clear 0 = .ok (.aload_n 0, 1) := by decide +kernel
theorem dX7_clear_1 : decode cX7_clear 1 = .ok (.getfield 31, 3) := by decide +kernel
theorem dX7_clear_4 : decode cX7_clear 4 = .ok (.getfield 131, 3) := by decide +kernel
theorem dX7_clear_7 : decode cX7_clear 7 = .ok (.istore_n 1, 1) := by decide +kernel
theorem dX7_clear_8 : decode cX7_clear 8 = .ok (.aload_n 0, 1) := by decide +kernel
theorem dX7_clear_9 : decode cX7_clear 9 = .ok (.getfield 31, 3) := by decide +kernel
theorem dX7_clear_12 : decode cX7_clear 12 = .ok (.iconst 0, 1) := by decide +kernel
theorem dX7_clear_13 : decode cX7_clear 13 = .ok (.putfield 131, 3) := by decide +kernel
theorem dX7_clear_16 : decode cX7_clear 16 = .ok (.iload_n 1, 1) := by decide +kernel
theorem dX7_clear_17 : decode cX7_clear 17 = .ok (.ireturn, 1) := by decide +kernel
theorem dX7_does_0 : decode cX7_does 0 = .ok (.aload_n 0, 1) := by decide +kernel
theorem dX7_does_1 : decode cX7_does 1 = .ok (.getfield 31, 3) := by decide +kernel
theorem dX7_does_4 : decode cX7_does 4 = .ok (.invokevirtual 135, 3) := by decide +kernel
theorem dX7_does_7 : decode cX7_does 7 = .ok (.istore_n 1, 1) := by decide +kernel
theorem dX7_does_8 : decode cX7_does 8 = .ok (.iload_n 1, 1) := by decide +kernel
theorem dX7_does_9 : decode cX7_does 9 = .ok (.iconst (-1), 1) := by decide +kernel
theorem dX7_does_10 : decode cX7_does 10 = .ok (.if_icmp .eq 8, 3) := by decide +kernel
theorem dX7_does_13 : decode cX7_does 13 = .ok (.bipush (-10), 2) := by decide +kernel
theorem dX7_does_15 : decode cX7_does 15 = .ok (.iload_n 1, 1) := by decide +kernel
theorem dX7_does_16 : decode cX7_does 16 = .ok (.isub, 1) := by decide +kernel
theorem dX7_does_17 : decode cX7_does 17 = .ok (.ireturn, 1) := by decide +kernel
theorem dX7_does_18 : decode cX7_does 18 = .ok (.aload_n 0, 1) := by decide +kernel
theorem dX7_does_19 : decode cX7_does 19 = .ok (.getfield 24, 3) := by decide +kernel
theorem dX7_does_22 : decode cX7_does 22 = .ok (.aload_n 0, 1) := by decide +kernel
theorem dX7_does_23 : decode cX7_does 23 = .ok (.getfield 15, 3) := by decide +kernel
theorem dX7_does_26 : decode cX7_does 26 = .ok (.invokevirtual 39, 3) := by decide +kernel
theorem dX7_does_29 : decode cX7_does 29 = .ok (.iconst 0, 1) := by decide +kernel
theorem dX7_does_30 : decode cX7_does 30 = .ok (.istore_n 2, 1) := by decide +kernel
theorem dX7_does_31 : decode cX7_does 31 = .ok (.iload_n 2, 1) := by decide +kernel
theorem dX7_does_32 : decode cX7_does 32 = .ok (.aload_n 0, 1) := by decide +kernel
theorem dX7_does_33 : decode cX7_does 33 = .ok (.getfield 31, 3) := by decide +kernel
theorem dX7_does_36 : decode cX7_does 36 = .ok (.getfield 139, 3) := by decide +kernel
theorem dX7_does_39 : decode cX7_does 39 = .ok (.if_icmp .ge 37, 3) := by decide +kernel
theorem dX7_does_42 : decode cX7_does 42 = .ok (.aload_n 0, 1) := by decide +kernel
theorem dX7_does_43 : decode cX7_does 43 = .ok (.iload_n 2, 1) := by decide +kernel
theorem dX7_does_44 : decode cX7_does 44 = .ok (.invokevirtual 142, 3) := by decide +kernel
theorem dX7_does_47 : decode cX7_does 47 = .ok (.invokestatic 145, 3) := by decide +kernel
theorem dX7_does_50 : decode cX7_does 50 = .ok (.ifCond .eq 20, 3) := by decide +kernel
theorem dX7_does_53 : decode cX7_does 53 = .ok (.aload_n 0, 1) := by decide +kernel
theorem dX7_does_54 : decode cX7_does 54 = .ok (.getfield 24, 3) := by decide +kernel
theorem dX7_does_57 : decode cX7_does 57 = .ok (.aload_n 0, 1) := by decide +kernel
theorem dX7_does_58 : decode cX7_does 58 = .ok (.getfield 15, 3) := by decide +kernel
theorem dX7_does_61 : decode cX7_does 61 = .ok (.invokevirtual 149, 3) := by decide +kernel
theorem dX7_does_64 : decode cX7_does 64 = .ok (.sipush (-1000), 3) := by decide +kernel
theorem dX7_does_67 : decode cX7_does 67 = .ok (.iload_n 2, 1) := by decide +kernel
theorem dX7_does_68 : decode cX7_does 68 = .ok (.isub, 1) := by decide +kernel
theorem dX7_does_69 : decode cX7_does 69 = .ok (.ireturn, 1) := by decide +kernel
theorem dX7_does_70 : decode cX7_does 70 = .ok (.iinc 2 1, 3) := by decide +kernel
theorem dX7_does_73 : decode cX7_does 73 = .ok (.goto (-42), 3) := by decide +kernel
theorem dX7_does_76 : decode cX7_does 76 = .ok (.aload_n 0, 1) := by decide +kernel
theorem dX7_does_77 : decode cX7_does 77 = .ok (.getfield 24, 3) := by decide +kernel
theorem dX7_does_80 : decode cX7_does 80 = .ok (.invokevirtual 152, 3) := by decide +kernel
theorem dX7_does_83 : decode cX7_does 83 = .ok (.aload_n 0, 1) := by decide +kernel
theorem dX7_does_84 : decode cX7_does 84 = .ok (.getfield 31, 3) := by decide +kernel
theorem dX7_does_87 : decode cX7_does 87 = .ok (.getfield 139, 3) := by decide +kernel
theorem dX7_does_90 : decode cX7_does 90 = .ok (.ireturn, 1) := by decide +kernel
theorem dX7_back_0 : decode cX7_back 0 = .ok (.aload_n 0, 1) := by decide +kernel
theorem dX7_back_1 : decode cX7_back 1 = .ok (.aload_n 0, 1) := by decide +kernel
theorem dX7_back_2 : decode cX7_back 2 = .ok (.getfield 24, 3) := by decide +kernel
theorem dX7_back_5 : decode cX7_back 5 = .ok (.aload_n 0, 1) := by decide +kernel
theorem dX7_back_6 : decode cX7_back 6 = .ok (.getfield 15, 3) := by decide +kernel
theorem dX7_back_9 : decode cX7_back 9 = .ok (.invokevirtual 155, 3) := by decide +kernel
theorem dX7_back_12 : decode cX7_back 12 = .ok (.invokevirtual 92, 3) := by decide +kernel
theorem dX7_back_15 : decode cX7_back 15 = .ok (.ireturn, 1) := by decide +kernel
theorem dX7_refused_0 : decode cX7_refused 0 = .ok (.aload_n 0, 1) := by decide +kernel
theorem dX7_refused_1 : decode cX7_refused 1 = .ok (.aload_n 0, 1) := by decide +kernel
theorem dX7_refused_2 : decode cX7_refused 2 = .ok (.iload_n 1, 1) := by decide +kernel
theorem dX7_refused_3 : decode cX7_refused 3 = .ok (.invokevirtual 159, 3) := by decide +kernel
theorem dX7_refused_6 : decode cX7_refused 6 = .ok (.invokevirtual 92, 3) := by decide +kernel
theorem dX7_refused_9 : decode cX7_refused 9 = .ok (.ireturn, 1) := by decide +kernel
theorem dX7_digest_0 : decode cX7_digest 0 = .ok (.ldc2_w 162, 3) := by decide +kernel
theorem dX7_digest_3 : decode cX7_digest 3 = .ok (.lstore_n 1, 1) := by decide +kernel
theorem dX7_digest_4 : decode cX7_digest 4 = .ok (.iconst 0, 1) := by decide +kernel
theorem dX7_digest_5 : decode cX7_digest 5 = .ok (.istore_n 3, 1) := by decide +kernel
theorem dX7_digest_6 : decode cX7_digest 6 = .ok (.iload_n 3, 1) := by decide +kernel
theorem dX7_digest_7 : decode cX7_digest 7 = .ok (.iconst 4, 1) := by decide +kernel
theorem dX7_digest_8 : decode cX7_digest 8 = .ok (.if_icmp .gt 19, 3) := by decide +kernel
theorem dX7_digest_11 : decode cX7_digest 11 = .ok (.lload_n 1, 1) := by decide +kernel
theorem dX7_digest_12 : decode cX7_digest 12 = .ok (.aload_n 0, 1) := by decide +kernel
theorem dX7_digest_13 : decode cX7_digest 13 = .ok (.iload_n 3, 1) := by decide +kernel
theorem dX7_digest_14 : decode cX7_digest 14 = .ok (.invokevirtual 159, 3) := by decide +kernel
theorem dX7_digest_17 : decode cX7_digest 17 = .ok (.invokestatic 164, 3) := by decide +kernel
theorem dX7_digest_20 : decode cX7_digest 20 = .ok (.lstore_n 1, 1) := by decide +kernel
theorem dX7_digest_21 : decode cX7_digest 21 = .ok (.iinc 3 1, 3) := by decide +kernel
theorem dX7_digest_24 : decode cX7_digest 24 = .ok (.goto (-18), 3) := by decide +kernel
theorem dX7_digest_27 : decode cX7_digest 27 = .ok (.iconst 0, 1) := by decide +kernel
theorem dX7_digest_28 : decode cX7_digest 28 = .ok (.istore_n 3, 1) := by decide +kernel
theorem dX7_digest_29 : decode cX7_digest 29 = .ok (.iload_n 3, 1) := by decide +kernel
theorem dX7_digest_30 : decode cX7_digest 30 = .ok (.bipush 8, 2) := by decide +kernel
theorem dX7_digest_32 : decode cX7_digest 32 = .ok (.if_icmp .gt 22, 3) := by decide +kernel
theorem dX7_digest_35 : decode cX7_digest 35 = .ok (.lload_n 1, 1) := by decide +kernel
theorem dX7_digest_36 : decode cX7_digest 36 = .ok (.aload_n 0, 1) := by decide +kernel
theorem dX7_digest_37 : decode cX7_digest 37 = .ok (.getfield 15, 3) := by decide +kernel
theorem dX7_digest_40 : decode cX7_digest 40 = .ok (.iload_n 3, 1) := by decide +kernel
theorem dX7_digest_41 : decode cX7_digest 41 = .ok (.invokevirtual 125, 3) := by decide +kernel
theorem dX7_digest_44 : decode cX7_digest 44 = .ok (.invokestatic 164, 3) := by decide +kernel
theorem dX7_digest_47 : decode cX7_digest 47 = .ok (.lstore_n 1, 1) := by decide +kernel
theorem dX7_digest_48 : decode cX7_digest 48 = .ok (.iinc 3 1, 3) := by decide +kernel
theorem dX7_digest_51 : decode cX7_digest 51 = .ok (.goto (-22), 3) := by decide +kernel
theorem dX7_digest_54 : decode cX7_digest 54 = .ok (.iconst 0, 1) := by decide +kernel
theorem dX7_digest_55 : decode cX7_digest 55 = .ok (.istore_n 3, 1) := by decide +kernel
theorem dX7_digest_56 : decode cX7_digest 56 = .ok (.iload_n 3, 1) := by decide +kernel
theorem dX7_digest_57 : decode cX7_digest 57 = .ok (.bipush 8, 2) := by decide +kernel
theorem dX7_digest_59 : decode cX7_digest 59 = .ok (.if_icmp .ge 23, 3) := by decide +kernel
theorem dX7_digest_62 : decode cX7_digest 62 = .ok (.lload_n 1, 1) := by decide +kernel
theorem dX7_digest_63 : decode cX7_digest 63 = .ok (.aload_n 0, 1) := by decide +kernel
theorem dX7_digest_64 : decode cX7_digest 64 = .ok (.getfield 15, 3) := by decide +kernel
theorem dX7_digest_67 : decode cX7_digest 67 = .ok (.getfield 168, 3) := by decide +kernel
theorem dX7_digest_70 : decode cX7_digest 70 = .ok (.iload_n 3, 1) := by decide +kernel
theorem dX7_digest_71 : decode cX7_digest 71 = .ok (.iaload, 1) := by decide +kernel
theorem dX7_digest_72 : decode cX7_digest 72 = .ok (.invokestatic 164, 3) := by decide +kernel
theorem dX7_digest_75 : decode cX7_digest 75 = .ok (.lstore_n 1, 1) := by decide +kernel
theorem dX7_digest_76 : decode cX7_digest 76 = .ok (.iinc 3 1, 3) := by decide +kernel
theorem dX7_digest_79 : decode cX7_digest 79 = .ok (.goto (-23), 3) := by decide +kernel
theorem dX7_digest_82 : decode cX7_digest 82 = .ok (.iconst 0, 1) := by decide +kernel
theorem dX7_digest_83 : decode cX7_digest 83 = .ok (.istore_n 3, 1) := by decide +kernel
theorem dX7_digest_84 : decode cX7_digest 84 = .ok (.iload_n 3, 1) := by decide +kernel
theorem dX7_digest_85 : decode cX7_digest 85 = .ok (.aload_n 0, 1) := by decide +kernel
theorem dX7_digest_86 : decode cX7_digest 86 = .ok (.getfield 15, 3) := by decide +kernel
theorem dX7_digest_89 : decode cX7_digest 89 = .ok (.getfield 54, 3) := by decide +kernel
theorem dX7_digest_92 : decode cX7_digest 92 = .ok (.getfield 171, 3) := by decide +kernel
theorem dX7_digest_95 : decode cX7_digest 95 = .ok (.if_icmp .ge 16, 3) := by decide +kernel
theorem dX7_digest_98 : decode cX7_digest 98 = .ok (.aload_n 0, 1) := by decide +kernel
theorem dX7_digest_99 : decode cX7_digest 99 = .ok (.lload_n 1, 1) := by decide +kernel
theorem dX7_digest_100 : decode cX7_digest 100 = .ok (.iload_n 3, 1) := by decide +kernel
theorem dX7_digest_101 : decode cX7_digest 101 = .ok (.invokevirtual 174, 3) := by decide +kernel
theorem dX7_digest_104 : decode cX7_digest 104 = .ok (.lstore_n 1, 1) := by decide +kernel
theorem dX7_digest_105 : decode cX7_digest 105 = .ok (.iinc 3 1, 3) := by decide +kernel
theorem dX7_digest_108 : decode cX7_digest 108 = .ok (.goto (-24), 3) := by decide +kernel
theorem dX7_digest_111 : decode cX7_digest 111 = .ok (.iconst 0, 1) := by decide +kernel
theorem dX7_digest_112 : decode cX7_digest 112 = .ok (.istore_n 3, 1) := by decide +kernel
theorem dX7_digest_113 : decode cX7_digest 113 = .ok (.iload_n 3, 1) := by decide +kernel
theorem dX7_digest_114 : decode cX7_digest 114 = .ok (.aload_n 0, 1) := by decide +kernel
theorem dX7_digest_115 : decode cX7_digest 115 = .ok (.getfield 15, 3) := by decide +kernel
theorem dX7_digest_118 : decode cX7_digest 118 = .ok (.getfield 177, 3) := by decide +kernel
theorem dX7_digest_121 : decode cX7_digest 121 = .ok (.if_icmp .ge 16, 3) := by decide +kernel
theorem dX7_digest_124 : decode cX7_digest 124 = .ok (.aload_n 0, 1) := by decide +kernel
theorem dX7_digest_125 : decode cX7_digest 125 = .ok (.lload_n 1, 1) := by decide +kernel
theorem dX7_digest_126 : decode cX7_digest 126 = .ok (.iload_n 3, 1) := by decide +kernel
theorem dX7_digest_127 : decode cX7_digest 127 = .ok (.invokevirtual 178, 3) := by decide +kernel
theorem dX7_digest_130 : decode cX7_digest 130 = .ok (.lstore_n 1, 1) := by decide +kernel
theorem dX7_digest_131 : decode cX7_digest 131 = .ok (.iinc 3 1, 3) := by decide +kernel
theorem dX7_digest_134 : decode cX7_digest 134 = .ok (.goto (-21), 3) := by decide +kernel
theorem dX7_digest_137 : decode cX7_digest 137 = .ok (.iconst 0, 1) := by decide +kernel
theorem dX7_digest_138 : decode cX7_digest 138 = .ok (.istore_n 3, 1) := by decide +kernel
theorem dX7_digest_139 : decode cX7_digest 139 = .ok (.iload_n 3, 1) := by decide +kernel
theorem dX7_digest_140 : decode cX7_digest 140 = .ok (.aload_n 0, 1) := by decide +kernel
theorem dX7_digest_141 : decode cX7_digest 141 = .ok (.getfield 15, 3) := by decide +kernel
theorem dX7_digest_144 : decode cX7_digest 144 = .ok (.getfield 116, 3) := by decide +kernel
theorem dX7_digest_147 : decode cX7_digest 147 = .ok (.getfield 181, 3) := by decide +kernel
theorem dX7_digest_150 : decode cX7_digest 150 = .ok (.if_icmp .ge 42, 3) := by decide +kernel
theorem dX7_digest_153 : decode cX7_digest 153 = .ok (.iconst 0, 1) := by decide +kernel
theorem dX7_digest_154 : decode cX7_digest 154 = .ok (.istore 4, 2) := by decide +kernel
theorem dX7_digest_156 : decode cX7_digest 156 = .ok (.iload 4, 2) := by decide +kernel
theorem dX7_digest_158 : decode cX7_digest 158 = .ok (.iconst 2, 1) := by decide +kernel
theorem dX7_digest_159 : decode cX7_digest 159 = .ok (.if_icmp .gt 27, 3) := by decide +kernel
theorem dX7_digest_162 : decode cX7_digest 162 = .ok (.lload_n 1, 1) := by decide +kernel
theorem dX7_digest_163 : decode cX7_digest 163 = .ok (.aload_n 0, 1) := by decide +kernel
theorem dX7_digest_164 : decode cX7_digest 164 = .ok (.getfield 15, 3) := by decide +kernel
theorem dX7_digest_167 : decode cX7_digest 167 = .ok (.getfield 116, 3) := by decide +kernel
theorem dX7_digest_170 : decode cX7_digest 170 = .ok (.iload_n 3, 1) := by decide +kernel
theorem dX7_digest_171 : decode cX7_digest 171 = .ok (.iload 4, 2) := by decide +kernel
theorem dX7_digest_173 : decode cX7_digest 173 = .ok (.invokevirtual 120, 3) := by decide +kernel
theorem dX7_digest_176 : decode cX7_digest 176 = .ok (.invokestatic 164, 3) := by decide +kernel
theorem dX7_digest_179 : decode cX7_digest 179 = .ok (.lstore_n 1, 1) := by decide +kernel
theorem dX7_digest_180 : decode cX7_digest 180 = .ok (.iinc 4 1, 3) := by decide +kernel
theorem dX7_digest_183 : decode cX7_digest 183 = .ok (.goto (-27), 3) := by decide +kernel
theorem dX7_digest_186 : decode cX7_digest 186 = .ok (.iinc 3 1, 3) := by decide +kernel
theorem dX7_digest_189 : decode cX7_digest 189 = .ok (.goto (-50), 3) := by decide +kernel
theorem dX7_digest_192 : decode cX7_digest 192 = .ok (.lload_n 1, 1) := by decide +kernel
theorem dX7_digest_193 : decode cX7_digest 193 = .ok (.lreturn, 1) := by decide +kernel
theorem dX7_mixed_0 : decode cX7_mixed 0 = .ok (.ldc2_w 184, 3) := by decide +kernel
theorem dX7_mixed_3 : decode cX7_mixed 3 = .ok (.lload_n 0, 1) := by decide +kernel
theorem dX7_mixed_4 : decode cX7_mixed 4 = .ok (.lmul, 1) := by decide +kernel
theorem dX7_mixed_5 : decode cX7_mixed 5 = .ok (.iload_n 2, 1) := by decide +kernel
theorem dX7_mixed_6 : decode cX7_mixed 6 = .ok (.i2l, 1) := by decide +kernel
theorem dX7_mixed_7 : decode cX7_mixed 7 = .ok (.ladd, 1) := by decide +kernel
theorem dX7_mixed_8 : decode cX7_mixed 8 = .ok (.lreturn, 1) := by decide +kernel
theorem dX7_mixedTask_0 : decode cX7_mixedTask 0 = .ok (.lload_n 1, 1) := by decide +kernel
theorem dX7_mixedTask_1 : decode cX7_mixedTask 1 = .ok (.lstore 4, 2) := by decide +kernel
theorem dX7_mixedTask_3 : decode cX7_mixedTask 3 = .ok (.iconst 0, 1) := by decide +kernel
theorem dX7_mixedTask_4 : decode cX7_mixedTask 4 = .ok (.istore 6, 2) := by decide +kernel
theorem dX7_mixedTask_6 : decode cX7_mixedTask 6 = .ok (.iload 6, 2) := by decide +kernel
theorem dX7_mixedTask_8 : decode cX7_mixedTask 8 = .ok (.iconst 2, 1) := by decide +kernel
theorem dX7_mixedTask_9 : decode cX7_mixedTask 9 = .ok (.if_icmp .gt 26, 3) := by decide +kernel
theorem dX7_mixedTask_12 : decode cX7_mixedTask 12 = .ok (.lload 4, 2) := by decide +kernel
theorem dX7_mixedTask_14 : decode cX7_mixedTask 14 = .ok (.aload_n 0, 1) := by decide +kernel
theorem dX7_mixedTask_15 : decode cX7_mixedTask 15 = .ok (.getfield 15, 3) := by decide +kernel
theorem dX7_mixedTask_18 : decode cX7_mixedTask 18 = .ok (.iload_n 3, 1) := by decide +kernel
theorem dX7_mixedTask_19 : decode cX7_mixedTask 19 = .ok (.iload 6, 2) := by decide +kernel
theorem dX7_mixedTask_21 : decode cX7_mixedTask 21 = .ok (.invokevirtual 89, 3) := by decide +kernel
theorem dX7_mixedTask_24 : decode cX7_mixedTask 24 = .ok (.invokestatic 164, 3) := by decide +kernel
theorem dX7_mixedTask_27 : decode cX7_mixedTask 27 = .ok (.lstore 4, 2) := by decide +kernel
theorem dX7_mixedTask_29 : decode cX7_mixedTask 29 = .ok (.iinc 6 1, 3) := by decide +kernel
theorem dX7_mixedTask_32 : decode cX7_mixedTask 32 = .ok (.goto (-26), 3) := by decide +kernel
theorem dX7_mixedTask_35 : decode cX7_mixedTask 35 = .ok (.iconst 0, 1) := by decide +kernel
theorem dX7_mixedTask_36 : decode cX7_mixedTask 36 = .ok (.istore 6, 2) := by decide +kernel
theorem dX7_mixedTask_38 : decode cX7_mixedTask 38 = .ok (.iload 6, 2) := by decide +kernel
theorem dX7_mixedTask_40 : decode cX7_mixedTask 40 = .ok (.bipush 8, 2) := by decide +kernel
theorem dX7_mixedTask_42 : decode cX7_mixedTask 42 = .ok (.if_icmp .ge 29, 3) := by decide +kernel
theorem dX7_mixedTask_45 : decode cX7_mixedTask 45 = .ok (.lload 4, 2) := by decide +kernel
theorem dX7_mixedTask_47 : decode cX7_mixedTask 47 = .ok (.aload_n 0, 1) := by decide +kernel
theorem dX7_mixedTask_48 : decode cX7_mixedTask 48 = .ok (.getfield 15, 3) := by decide +kernel
theorem dX7_mixedTask_51 : decode cX7_mixedTask 51 = .ok (.getfield 54, 3) := by decide +kernel
theorem dX7_mixedTask_54 : decode cX7_mixedTask 54 = .ok (.iload_n 3, 1) := by decide +kernel
theorem dX7_mixedTask_55 : decode cX7_mixedTask 55 = .ok (.iload 6, 2) := by decide +kernel
theorem dX7_mixedTask_57 : decode cX7_mixedTask 57 = .ok (.invokevirtual 186, 3) := by decide +kernel
theorem dX7_mixedTask_60 : decode cX7_mixedTask 60 = .ok (.invokestatic 164, 3) := by decide +kernel
theorem dX7_mixedTask_63 : decode cX7_mixedTask 63 = .ok (.lstore 4, 2) := by decide +kernel
theorem dX7_mixedTask_65 : decode cX7_mixedTask 65 = .ok (.iinc 6 1, 3) := by decide +kernel
theorem dX7_mixedTask_68 : decode cX7_mixedTask 68 = .ok (.goto (-30), 3) := by decide +kernel
theorem dX7_mixedTask_71 : decode cX7_mixedTask 71 = .ok (.lload 4, 2) := by decide +kernel
theorem dX7_mixedTask_73 : decode cX7_mixedTask 73 = .ok (.lreturn, 1) := by decide +kernel
theorem dX7_mixedGroup_0 : decode cX7_mixedGroup 0 = .ok (.lload_n 1, 1) := by decide +kernel
theorem dX7_mixedGroup_1 : decode cX7_mixedGroup 1 = .ok (.lstore 4, 2) := by decide +kernel
theorem dX7_mixedGroup_3 : decode cX7_mixedGroup 3 = .ok (.iconst 0, 1) := by decide +kernel
theorem dX7_mixedGroup_4 : decode cX7_mixedGroup 4 = .ok (.istore 6, 2) := by decide +kernel
theorem dX7_mixedGroup_6 : decode cX7_mixedGroup 6 = .ok (.iload 6, 2) := by decide +kernel
theorem dX7_mixedGroup_8 : decode cX7_mixedGroup 8 = .ok (.bipush 10, 2) := by decide +kernel
theorem dX7_mixedGroup_10 : decode cX7_mixedGroup 10 = .ok (.if_icmp .gt 26, 3) := by decide +kernel
theorem dX7_mixedGroup_13 : decode cX7_mixedGroup 13 = .ok (.lload 4, 2) := by decide +kernel
theorem dX7_mixedGroup_15 : decode cX7_mixedGroup 15 = .ok (.aload_n 0, 1) := by decide +kernel
theorem dX7_mixedGroup_16 : decode cX7_mixedGroup 16 = .ok (.getfield 15, 3) := by decide +kernel
theorem dX7_mixedGroup_19 : decode cX7_mixedGroup 19 = .ok (.iload_n 3, 1) := by decide +kernel
theorem dX7_mixedGroup_20 : decode cX7_mixedGroup 20 = .ok (.iload 6, 2) := by decide +kernel
theorem dX7_mixedGroup_22 : decode cX7_mixedGroup 22 = .ok (.invokevirtual 95, 3) := by decide +kernel
theorem dX7_mixedGroup_25 : decode cX7_mixedGroup 25 = .ok (.invokestatic 164, 3) := by decide +kernel
theorem dX7_mixedGroup_28 : decode cX7_mixedGroup 28 = .ok (.lstore 4, 2) := by decide +kernel
theorem dX7_mixedGroup_30 : decode cX7_mixedGroup 30 = .ok (.iinc 6 1, 3) := by decide +kernel
theorem dX7_mixedGroup_33 : decode cX7_mixedGroup 33 = .ok (.goto (-27), 3) := by decide +kernel
theorem dX7_mixedGroup_36 : decode cX7_mixedGroup 36 = .ok (.iconst 0, 1) := by decide +kernel
theorem dX7_mixedGroup_37 : decode cX7_mixedGroup 37 = .ok (.istore 6, 2) := by decide +kernel
theorem dX7_mixedGroup_39 : decode cX7_mixedGroup 39 = .ok (.iload 6, 2) := by decide +kernel
theorem dX7_mixedGroup_41 : decode cX7_mixedGroup 41 = .ok (.aload_n 0, 1) := by decide +kernel
theorem dX7_mixedGroup_42 : decode cX7_mixedGroup 42 = .ok (.getfield 15, 3) := by decide +kernel
theorem dX7_mixedGroup_45 : decode cX7_mixedGroup 45 = .ok (.getfield 189, 3) := by decide +kernel
theorem dX7_mixedGroup_48 : decode cX7_mixedGroup 48 = .ok (.iload_n 3, 1) := by decide +kernel
theorem dX7_mixedGroup_49 : decode cX7_mixedGroup 49 = .ok (.aaload, 1) := by decide +kernel
theorem dX7_mixedGroup_50 : decode cX7_mixedGroup 50 = .ok (.getfield 193, 3) := by decide +kernel
theorem dX7_mixedGroup_53 : decode cX7_mixedGroup 53 = .ok (.if_icmp .ge 20, 3) := by decide +kernel
theorem dX7_mixedGroup_56 : decode cX7_mixedGroup 56 = .ok (.aload_n 0, 1) := by decide +kernel
theorem dX7_mixedGroup_57 : decode cX7_mixedGroup 57 = .ok (.lload 4, 2) := by decide +kernel
theorem dX7_mixedGroup_59 : decode cX7_mixedGroup 59 = .ok (.iload_n 3, 1) := by decide +kernel
theorem dX7_mixedGroup_60 : decode cX7_mixedGroup 60 = .ok (.iload 6, 2) := by decide +kernel
theorem dX7_mixedGroup_62 : decode cX7_mixedGroup 62 = .ok (.invokevirtual 198, 3) := by decide +kernel
theorem dX7_mixedGroup_65 : decode cX7_mixedGroup 65 = .ok (.lstore 4, 2) := by decide +kernel
theorem dX7_mixedGroup_67 : decode cX7_mixedGroup 67 = .ok (.iinc 6 1, 3) := by decide +kernel
theorem dX7_mixedGroup_70 : decode cX7_mixedGroup 70 = .ok (.goto (-31), 3) := by decide +kernel
theorem dX7_mixedGroup_73 : decode cX7_mixedGroup 73 = .ok (.iconst 0, 1) := by decide +kernel
theorem dX7_mixedGroup_74 : decode cX7_mixedGroup 74 = .ok (.istore 6, 2) := by decide +kernel
theorem dX7_mixedGroup_76 : decode cX7_mixedGroup 76 = .ok (.iload 6, 2) := by decide +kernel
theorem dX7_mixedGroup_78 : decode cX7_mixedGroup 78 = .ok (.aload_n 0, 1) := by decide +kernel
theorem dX7_mixedGroup_79 : decode cX7_mixedGroup 79 = .ok (.getfield 15, 3) := by decide +kernel
theorem dX7_mixedGroup_82 : decode cX7_mixedGroup 82 = .ok (.getfield 54, 3) := by decide +kernel
theorem dX7_mixedGroup_85 : decode cX7_mixedGroup 85 = .ok (.getfield 171, 3) := by decide +kernel
theorem dX7_mixedGroup_88 : decode cX7_mixedGroup 88 = .ok (.if_icmp .ge 45, 3) := by decide +kernel
theorem dX7_mixedGroup_91 : decode cX7_mixedGroup 91 = .ok (.lload 4, 2) := by decide +kernel
theorem dX7_mixedGroup_93 : decode cX7_mixedGroup 93 = .ok (.aload_n 0, 1) := by decide +kernel
theorem dX7_mixedGroup_94 : decode cX7_mixedGroup 94 = .ok (.getfield 15, 3) := by decide +kernel
theorem dX7_mixedGroup_97 : decode cX7_mixedGroup 97 = .ok (.iload_n 3, 1) := by decide +kernel
theorem dX7_mixedGroup_98 : decode cX7_mixedGroup 98 = .ok (.iload 6, 2) := by decide +kernel
theorem dX7_mixedGroup_100 : decode cX7_mixedGroup 100 = .ok (.iconst 0, 1) := by decide +kernel
theorem dX7_mixedGroup_101 : decode cX7_mixedGroup 101 = .ok (.invokevirtual 104, 3) := by decide +kernel
theorem dX7_mixedGroup_104 : decode cX7_mixedGroup 104 = .ok (.invokestatic 164, 3) := by decide +kernel
theorem dX7_mixedGroup_107 : decode cX7_mixedGroup 107 = .ok (.lstore 4, 2) := by decide +kernel
theorem dX7_mixedGroup_109 : decode cX7_mixedGroup 109 = .ok (.lload 4, 2) := by decide +kernel
theorem dX7_mixedGroup_111 : decode cX7_mixedGroup 111 = .ok (.aload_n 0, 1) := by decide +kernel
theorem dX7_mixedGroup_112 : decode cX7_mixedGroup 112 = .ok (.getfield 15, 3) := by decide +kernel
theorem dX7_mixedGroup_115 : decode cX7_mixedGroup 115 = .ok (.iload_n 3, 1) := by decide +kernel
theorem dX7_mixedGroup_116 : decode cX7_mixedGroup 116 = .ok (.iload 6, 2) := by decide +kernel
theorem dX7_mixedGroup_118 : decode cX7_mixedGroup 118 = .ok (.iconst 1, 1) := by decide +kernel
theorem dX7_mixedGroup_119 : decode cX7_mixedGroup 119 = .ok (.invokevirtual 104, 3) := by decide +kernel
theorem dX7_mixedGroup_122 : decode cX7_mixedGroup 122 = .ok (.invokestatic 164, 3) := by decide +kernel
theorem dX7_mixedGroup_125 : decode cX7_mixedGroup 125 = .ok (.lstore 4, 2) := by decide +kernel
theorem dX7_mixedGroup_127 : decode cX7_mixedGroup 127 = .ok (.iinc 6 1, 3) := by decide +kernel
theorem dX7_mixedGroup_130 : decode cX7_mixedGroup 130 = .ok (.goto (-54), 3) := by decide +kernel
theorem dX7_mixedGroup_133 : decode cX7_mixedGroup 133 = .ok (.lload 4, 2) := by decide +kernel
theorem dX7_mixedGroup_135 : decode cX7_mixedGroup 135 = .ok (.lreturn, 1) := by decide +kernel
theorem dX7_mixedEvent_0 : decode cX7_mixedEvent 0 = .ok (.lload_n 1, 1) := by decide +kernel
theorem dX7_mixedEvent_1 : decode cX7_mixedEvent 1 = .ok (.lstore 5, 2) := by decide +kernel
theorem dX7_mixedEvent_3 : decode cX7_mixedEvent 3 = .ok (.iconst 0, 1) := by decide +kernel
theorem dX7_mixedEvent_4 : decode cX7_mixedEvent 4 = .ok (.istore 7, 2) := by decide +kernel
theorem dX7_mixedEvent_6 : decode cX7_mixedEvent 6 = .ok (.iload 7, 2) := by decide +kernel
theorem dX7_mixedEvent_8 : decode cX7_mixedEvent 8 = .ok (.iconst 2, 1) := by decide +kernel
theorem dX7_mixedEvent_9 : decode cX7_mixedEvent 9 = .ok (.if_icmp .gt 28, 3) := by decide +kernel
theorem dX7_mixedEvent_12 : decode cX7_mixedEvent 12 = .ok (.lload 5, 2) := by decide +kernel
theorem dX7_mixedEvent_14 : decode cX7_mixedEvent 14 = .ok (.aload_n 0, 1) := by decide +kernel
theorem dX7_mixedEvent_15 : decode cX7_mixedEvent 15 = .ok (.getfield 15, 3) := by decide +kernel
theorem dX7_mixedEvent_18 : decode cX7_mixedEvent 18 = .ok (.iload_n 3, 1) := by decide +kernel
theorem dX7_mixedEvent_19 : decode cX7_mixedEvent 19 = .ok (.iload 4, 2) := by decide +kernel
theorem dX7_mixedEvent_21 : decode cX7_mixedEvent 21 = .ok (.iload 7, 2) := by decide +kernel
theorem dX7_mixedEvent_23 : decode cX7_mixedEvent 23 = .ok (.invokevirtual 98, 3) := by decide +kernel
theorem dX7_mixedEvent_26 : decode cX7_mixedEvent 26 = .ok (.invokestatic 164, 3) := by decide +kernel
theorem dX7_mixedEvent_29 : decode cX7_mixedEvent 29 = .ok (.lstore 5, 2) := by decide +kernel
theorem dX7_mixedEvent_31 : decode cX7_mixedEvent 31 = .ok (.iinc 7 1, 3) := by decide +kernel
theorem dX7_mixedEvent_34 : decode cX7_mixedEvent 34 = .ok (.goto (-28), 3) := by decide +kernel
theorem dX7_mixedEvent_37 : decode cX7_mixedEvent 37 = .ok (.iconst 0, 1) := by decide +kernel
theorem dX7_mixedEvent_38 : decode cX7_mixedEvent 38 = .ok (.istore 7, 2) := by decide +kernel
theorem dX7_mixedEvent_40 : decode cX7_mixedEvent 40 = .ok (.iload 7, 2) := by decide +kernel
theorem dX7_mixedEvent_42 : decode cX7_mixedEvent 42 = .ok (.aload_n 0, 1) := by decide +kernel
theorem dX7_mixedEvent_43 : decode cX7_mixedEvent 43 = .ok (.getfield 15, 3) := by decide +kernel
theorem dX7_mixedEvent_46 : decode cX7_mixedEvent 46 = .ok (.getfield 54, 3) := by decide +kernel
theorem dX7_mixedEvent_49 : decode cX7_mixedEvent 49 = .ok (.getfield 171, 3) := by decide +kernel
theorem dX7_mixedEvent_52 : decode cX7_mixedEvent 52 = .ok (.if_icmp .ge 28, 3) := by decide +kernel
theorem dX7_mixedEvent_55 : decode cX7_mixedEvent 55 = .ok (.lload 5, 2) := by decide +kernel
theorem dX7_mixedEvent_57 : decode cX7_mixedEvent 57 = .ok (.aload_n 0, 1) := by decide +kernel
theorem dX7_mixedEvent_58 : decode cX7_mixedEvent 58 = .ok (.getfield 15, 3) := by decide +kernel
theorem dX7_mixedEvent_61 : decode cX7_mixedEvent 61 = .ok (.iload_n 3, 1) := by decide +kernel
theorem dX7_mixedEvent_62 : decode cX7_mixedEvent 62 = .ok (.iload 4, 2) := by decide +kernel
theorem dX7_mixedEvent_64 : decode cX7_mixedEvent 64 = .ok (.iload 7, 2) := by decide +kernel
theorem dX7_mixedEvent_66 : decode cX7_mixedEvent 66 = .ok (.invokevirtual 101, 3) := by decide +kernel
theorem dX7_mixedEvent_69 : decode cX7_mixedEvent 69 = .ok (.invokestatic 164, 3) := by decide +kernel
theorem dX7_mixedEvent_72 : decode cX7_mixedEvent 72 = .ok (.lstore 5, 2) := by decide +kernel
theorem dX7_mixedEvent_74 : decode cX7_mixedEvent 74 = .ok (.iinc 7 1, 3) := by decide +kernel
theorem dX7_mixedEvent_77 : decode cX7_mixedEvent 77 = .ok (.goto (-37), 3) := by decide +kernel
theorem dX7_mixedEvent_80 : decode cX7_mixedEvent 80 = .ok (.lload 5, 2) := by decide +kernel
theorem dX7_mixedEvent_82 : decode cX7_mixedEvent 82 = .ok (.aload_n 0, 1) := by decide +kernel
theorem dX7_mixedEvent_83 : decode cX7_mixedEvent 83 = .ok (.getfield 15, 3) := by decide +kernel
theorem dX7_mixedEvent_86 : decode cX7_mixedEvent 86 = .ok (.iload_n 3, 1) := by decide +kernel
theorem dX7_mixedEvent_87 : decode cX7_mixedEvent 87 = .ok (.iload 4, 2) := by decide +kernel
theorem dX7_mixedEvent_89 : decode cX7_mixedEvent 89 = .ok (.iconst 0, 1) := by decide +kernel
theorem dX7_mixedEvent_90 : decode cX7_mixedEvent 90 = .ok (.invokevirtual 107, 3) := by decide +kernel
theorem dX7_mixedEvent_93 : decode cX7_mixedEvent 93 = .ok (.invokestatic 164, 3) := by decide +kernel
theorem dX7_mixedEvent_96 : decode cX7_mixedEvent 96 = .ok (.lstore 5, 2) := by decide +kernel
theorem dX7_mixedEvent_98 : decode cX7_mixedEvent 98 = .ok (.lload 5, 2) := by decide +kernel
theorem dX7_mixedEvent_100 : decode cX7_mixedEvent 100 = .ok (.aload_n 0, 1) := by decide +kernel
theorem dX7_mixedEvent_101 : decode cX7_mixedEvent 101 = .ok (.getfield 15, 3) := by decide +kernel
theorem dX7_mixedEvent_104 : decode cX7_mixedEvent 104 = .ok (.iload_n 3, 1) := by decide +kernel
theorem dX7_mixedEvent_105 : decode cX7_mixedEvent 105 = .ok (.iload 4, 2) := by decide +kernel
theorem dX7_mixedEvent_107 : decode cX7_mixedEvent 107 = .ok (.iconst 1, 1) := by decide +kernel
theorem dX7_mixedEvent_108 : decode cX7_mixedEvent 108 = .ok (.invokevirtual 107, 3) := by decide +kernel
theorem dX7_mixedEvent_111 : decode cX7_mixedEvent 111 = .ok (.invokestatic 164, 3) := by decide +kernel
theorem dX7_mixedEvent_114 : decode cX7_mixedEvent 114 = .ok (.lreturn, 1) := by decide +kernel
theorem dX7_refusedFact_0 : decode cX7_refusedFact 0 = .ok (.iload_n 1, 1) := by decide +kernel
theorem dX7_refusedFact_1 : decode cX7_refusedFact 1 = .ok (.tableswitch 58 0 4 #[35, 35, 35, 42, 50], 35) := by decide +kernel
theorem dX7_refusedFact_36 : decode cX7_refusedFact 36 = .ok (.aload_n 0, 1) := by decide +kernel
theorem dX7_refusedFact_37 : decode cX7_refusedFact 37 = .ok (.getfield 35, 3) := by decide +kernel
theorem dX7_refusedFact_40 : decode cX7_refusedFact 40 = .ok (.iload_n 1, 1) := by decide +kernel
theorem dX7_refusedFact_41 : decode cX7_refusedFact 41 = .ok (.iaload, 1) := by decide +kernel
theorem dX7_refusedFact_42 : decode cX7_refusedFact 42 = .ok (.ireturn, 1) := by decide +kernel
theorem dX7_refusedFact_43 : decode cX7_refusedFact 43 = .ok (.aload_n 0, 1) := by decide +kernel
theorem dX7_refusedFact_44 : decode cX7_refusedFact 44 = .ok (.getfield 31, 3) := by decide +kernel
theorem dX7_refusedFact_47 : decode cX7_refusedFact 47 = .ok (.getfield 131, 3) := by decide +kernel
theorem dX7_refusedFact_50 : decode cX7_refusedFact 50 = .ok (.ireturn, 1) := by decide +kernel
theorem dX7_refusedFact_51 : decode cX7_refusedFact 51 = .ok (.aload_n 0, 1) := by decide +kernel
theorem dX7_refusedFact_52 : decode cX7_refusedFact 52 = .ok (.getfield 24, 3) := by decide +kernel
theorem dX7_refusedFact_55 : decode cX7_refusedFact 55 = .ok (.getfield 202, 3) := by decide +kernel
theorem dX7_refusedFact_58 : decode cX7_refusedFact 58 = .ok (.ireturn, 1) := by decide +kernel
theorem dX7_refusedFact_59 : decode cX7_refusedFact 59 = .ok (.bipush (-2), 2) := by decide +kernel
theorem dX7_refusedFact_61 : decode cX7_refusedFact 61 = .ok (.ireturn, 1) := by decide +kernel
theorem dX7_carryOut_0 : decode cX7_carryOut 0 = .ok (.aload_n 0, 1) := by decide +kernel
theorem dX7_carryOut_1 : decode cX7_carryOut 1 = .ok (.getfield 31, 3) := by decide +kernel
theorem dX7_carryOut_4 : decode cX7_carryOut 4 = .ok (.iload_n 1, 1) := by decide +kernel
theorem dX7_carryOut_5 : decode cX7_carryOut 5 = .ok (.iconst 0, 1) := by decide +kernel
theorem dX7_carryOut_6 : decode cX7_carryOut 6 = .ok (.invokevirtual 203, 3) := by decide +kernel
theorem dX7_carryOut_9 : decode cX7_carryOut 9 = .ok (.istore_n 2, 1) := by decide +kernel
theorem dX7_carryOut_10 : decode cX7_carryOut 10 = .ok (.aload_n 0, 1) := by decide +kernel
theorem dX7_carryOut_11 : decode cX7_carryOut 11 = .ok (.getfield 31, 3) := by decide +kernel
theorem dX7_carryOut_14 : decode cX7_carryOut 14 = .ok (.iload_n 1, 1) := by decide +kernel
theorem dX7_carryOut_15 : decode cX7_carryOut 15 = .ok (.iconst 1, 1) := by decide +kernel
theorem dX7_carryOut_16 : decode cX7_carryOut 16 = .ok (.invokevirtual 203, 3) := by decide +kernel
theorem dX7_carryOut_19 : decode cX7_carryOut 19 = .ok (.istore_n 3, 1) := by decide +kernel
theorem dX7_carryOut_20 : decode cX7_carryOut 20 = .ok (.aload_n 0, 1) := by decide +kernel
theorem dX7_carryOut_21 : decode cX7_carryOut 21 = .ok (.getfield 31, 3) := by decide +kernel
theorem dX7_carryOut_24 : decode cX7_carryOut 24 = .ok (.iload_n 1, 1) := by decide +kernel
theorem dX7_carryOut_25 : decode cX7_carryOut 25 = .ok (.iconst 2, 1) := by decide +kernel
theorem dX7_carryOut_26 : decode cX7_carryOut 26 = .ok (.invokevirtual 203, 3) := by decide +kernel
theorem dX7_carryOut_29 : decode cX7_carryOut 29 = .ok (.istore 4, 2) := by decide +kernel
theorem dX7_carryOut_31 : decode cX7_carryOut 31 = .ok (.aload_n 0, 1) := by decide +kernel
theorem dX7_carryOut_32 : decode cX7_carryOut 32 = .ok (.getfield 31, 3) := by decide +kernel
theorem dX7_carryOut_35 : decode cX7_carryOut 35 = .ok (.iload_n 1, 1) := by decide +kernel
theorem dX7_carryOut_36 : decode cX7_carryOut 36 = .ok (.invokevirtual 206, 3) := by decide +kernel
theorem dX7_carryOut_39 : decode cX7_carryOut 39 = .ok (.lookupswitch 102 #[(99, 59), (102, 74), (103, 86), (109, 49), (114, 92)], 49) := by decide +kernel
theorem dX7_carryOut_88 : decode cX7_carryOut 88 = .ok (.aload_n 0, 1) := by decide +kernel
theorem dX7_carryOut_89 : decode cX7_carryOut 89 = .ok (.getfield 15, 3) := by decide +kernel
theorem dX7_carryOut_92 : decode cX7_carryOut 92 = .ok (.iload_n 2, 1) := by decide +kernel
theorem dX7_carryOut_93 : decode cX7_carryOut 93 = .ok (.iload_n 3, 1) := by decide +kernel
theorem dX7_carryOut_94 : decode cX7_carryOut 94 = .ok (.invokevirtual 50, 3) := by decide +kernel
theorem dX7_carryOut_97 : decode cX7_carryOut 97 = .ok (.ireturn, 1) := by decide +kernel
theorem dX7_carryOut_98 : decode cX7_carryOut 98 = .ok (.aload_n 0, 1) := by decide +kernel
theorem dX7_carryOut_99 : decode cX7_carryOut 99 = .ok (.getfield 15, 3) := by decide +kernel
theorem dX7_carryOut_102 : decode cX7_carryOut 102 = .ok (.getfield 54, 3) := by decide +kernel
theorem dX7_carryOut_105 : decode cX7_carryOut 105 = .ok (.iload_n 2, 1) := by decide +kernel
theorem dX7_carryOut_106 : decode cX7_carryOut 106 = .ok (.iload_n 3, 1) := by decide +kernel
theorem dX7_carryOut_107 : decode cX7_carryOut 107 = .ok (.iload 4, 2) := by decide +kernel
theorem dX7_carryOut_109 : decode cX7_carryOut 109 = .ok (.invokevirtual 58, 3) := by decide +kernel
theorem dX7_carryOut_112 : decode cX7_carryOut 112 = .ok (.ireturn, 1) := by decide +kernel
theorem dX7_carryOut_113 : decode cX7_carryOut 113 = .ok (.aload_n 0, 1) := by decide +kernel
theorem dX7_carryOut_114 : decode cX7_carryOut 114 = .ok (.getfield 15, 3) := by decide +kernel
theorem dX7_carryOut_117 : decode cX7_carryOut 117 = .ok (.getfield 54, 3) := by decide +kernel
theorem dX7_carryOut_120 : decode cX7_carryOut 120 = .ok (.iload_n 2, 1) := by decide +kernel
theorem dX7_carryOut_121 : decode cX7_carryOut 121 = .ok (.invokevirtual 64, 3) := by decide +kernel
theorem dX7_carryOut_124 : decode cX7_carryOut 124 = .ok (.ireturn, 1) := by decide +kernel
theorem dX7_carryOut_125 : decode cX7_carryOut 125 = .ok (.aload_n 0, 1) := by decide +kernel
theorem dX7_carryOut_126 : decode cX7_carryOut 126 = .ok (.iload_n 1, 1) := by decide +kernel
theorem dX7_carryOut_127 : decode cX7_carryOut 127 = .ok (.invokevirtual 209, 3) := by decide +kernel
theorem dX7_carryOut_130 : decode cX7_carryOut 130 = .ok (.ireturn, 1) := by decide +kernel
theorem dX7_carryOut_131 : decode cX7_carryOut 131 = .ok (.aload_n 0, 1) := by decide +kernel
theorem dX7_carryOut_132 : decode cX7_carryOut 132 = .ok (.getfield 15, 3) := by decide +kernel
theorem dX7_carryOut_135 : decode cX7_carryOut 135 = .ok (.iload_n 2, 1) := by decide +kernel
theorem dX7_carryOut_136 : decode cX7_carryOut 136 = .ok (.iload_n 3, 1) := by decide +kernel
theorem dX7_carryOut_137 : decode cX7_carryOut 137 = .ok (.invokevirtual 86, 3) := by decide +kernel
theorem dX7_carryOut_140 : decode cX7_carryOut 140 = .ok (.ireturn, 1) := by decide +kernel
theorem dX7_carryOut_141 : decode cX7_carryOut 141 = .ok (.bipush (-2), 2) := by decide +kernel
theorem dX7_carryOut_143 : decode cX7_carryOut 143 = .ok (.ireturn, 1) := by decide +kernel
theorem dX7_carryOutGroup_0 : decode cX7_carryOutGroup 0 = .ok (.aload_n 0, 1) := by decide +kernel
theorem dX7_carryOutGroup_1 : decode cX7_carryOutGroup 1 = .ok (.getfield 15, 3) := by decide +kernel
theorem dX7_carryOutGroup_4 : decode cX7_carryOutGroup 4 = .ok (.aload_n 0, 1) := by decide +kernel
theorem dX7_carryOutGroup_5 : decode cX7_carryOutGroup 5 = .ok (.getfield 31, 3) := by decide +kernel
theorem dX7_carryOutGroup_8 : decode cX7_carryOutGroup 8 = .ok (.iload_n 1, 1) := by decide +kernel
theorem dX7_carryOutGroup_9 : decode cX7_carryOutGroup 9 = .ok (.iconst 0, 1) := by decide +kernel
theorem dX7_carryOutGroup_10 : decode cX7_carryOutGroup 10 = .ok (.invokevirtual 203, 3) := by decide +kernel
theorem dX7_carryOutGroup_13 : decode cX7_carryOutGroup 13 = .ok (.aload_n 0, 1) := by decide +kernel
theorem dX7_carryOutGroup_14 : decode cX7_carryOutGroup 14 = .ok (.getfield 31, 3) := by decide +kernel
theorem dX7_carryOutGroup_17 : decode cX7_carryOutGroup 17 = .ok (.iload_n 1, 1) := by decide +kernel
theorem dX7_carryOutGroup_18 : decode cX7_carryOutGroup 18 = .ok (.iconst 1, 1) := by decide +kernel
theorem dX7_carryOutGroup_19 : decode cX7_carryOutGroup 19 = .ok (.invokevirtual 203, 3) := by decide +kernel
theorem dX7_carryOutGroup_22 : decode cX7_carryOutGroup 22 = .ok (.aload_n 0, 1) := by decide +kernel
theorem dX7_carryOutGroup_23 : decode cX7_carryOutGroup 23 = .ok (.getfield 31, 3) := by decide +kernel
theorem dX7_carryOutGroup_26 : decode cX7_carryOutGroup 26 = .ok (.iload_n 1, 1) := by decide +kernel
theorem dX7_carryOutGroup_27 : decode cX7_carryOutGroup 27 = .ok (.iconst 2, 1) := by decide +kernel
theorem dX7_carryOutGroup_28 : decode cX7_carryOutGroup 28 = .ok (.invokevirtual 203, 3) := by decide +kernel
theorem dX7_carryOutGroup_31 : decode cX7_carryOutGroup 31 = .ok (.aload_n 0, 1) := by decide +kernel
theorem dX7_carryOutGroup_32 : decode cX7_carryOutGroup 32 = .ok (.getfield 31, 3) := by decide +kernel
theorem dX7_carryOutGroup_35 : decode cX7_carryOutGroup 35 = .ok (.iload_n 1, 1) := by decide +kernel
theorem dX7_carryOutGroup_36 : decode cX7_carryOutGroup 36 = .ok (.iconst 3, 1) := by decide +kernel
theorem dX7_carryOutGroup_37 : decode cX7_carryOutGroup 37 = .ok (.invokevirtual 203, 3) := by decide +kernel
theorem dX7_carryOutGroup_40 : decode cX7_carryOutGroup 40 = .ok (.aload_n 0, 1) := by decide +kernel
theorem dX7_carryOutGroup_41 : decode cX7_carryOutGroup 41 = .ok (.getfield 31, 3) := by decide +kernel
theorem dX7_carryOutGroup_44 : decode cX7_carryOutGroup 44 = .ok (.iload_n 1, 1) := by decide +kernel
theorem dX7_carryOutGroup_45 : decode cX7_carryOutGroup 45 = .ok (.iconst 4, 1) := by decide +kernel
theorem dX7_carryOutGroup_46 : decode cX7_carryOutGroup 46 = .ok (.invokevirtual 203, 3) := by decide +kernel
theorem dX7_carryOutGroup_49 : decode cX7_carryOutGroup 49 = .ok (.invokevirtual 70, 3) := by decide +kernel
theorem dX7_carryOutGroup_52 : decode cX7_carryOutGroup 52 = .ok (.istore_n 2, 1) := by decide +kernel
theorem dX7_carryOutGroup_53 : decode cX7_carryOutGroup 53 = .ok (.aload_n 0, 1) := by decide +kernel
theorem dX7_carryOutGroup_54 : decode cX7_carryOutGroup 54 = .ok (.getfield 15, 3) := by decide +kernel
theorem dX7_carryOutGroup_57 : decode cX7_carryOutGroup 57 = .ok (.getfield 177, 3) := by decide +kernel
theorem dX7_carryOutGroup_60 : decode cX7_carryOutGroup 60 = .ok (.iconst 1, 1) := by decide +kernel
theorem dX7_carryOutGroup_61 : decode cX7_carryOutGroup 61 = .ok (.isub, 1) := by decide +kernel
theorem dX7_carryOutGroup_62 : decode cX7_carryOutGroup 62 = .ok (.istore_n 3, 1) := by decide +kernel
theorem dX7_carryOutGroup_63 : decode cX7_carryOutGroup 63 = .ok (.iconst 5, 1) := by decide +kernel
theorem dX7_carryOutGroup_64 : decode cX7_carryOutGroup 64 = .ok (.istore 4, 2) := by decide +kernel
theorem dX7_carryOutGroup_66 : decode cX7_carryOutGroup 66 = .ok (.iload 4, 2) := by decide +kernel
theorem dX7_carryOutGroup_68 : decode cX7_carryOutGroup 68 = .ok (.aload_n 0, 1) := by decide +kernel
theorem dX7_carryOutGroup_69 : decode cX7_carryOutGroup 69 = .ok (.getfield 31, 3) := by decide +kernel
theorem dX7_carryOutGroup_72 : decode cX7_carryOutGroup 72 = .ok (.iload_n 1, 1) := by decide +kernel
theorem dX7_carryOutGroup_73 : decode cX7_carryOutGroup 73 = .ok (.invokevirtual 212, 3) := by decide +kernel
theorem dX7_carryOutGroup_76 : decode cX7_carryOutGroup 76 = .ok (.if_icmp .ge 35, 3) := by decide +kernel
theorem dX7_carryOutGroup_79 : decode cX7_carryOutGroup 79 = .ok (.iload_n 2, 1) := by decide +kernel
theorem dX7_carryOutGroup_80 : decode cX7_carryOutGroup 80 = .ok (.invokestatic 145, 3) := by decide +kernel
theorem dX7_carryOutGroup_83 : decode cX7_carryOutGroup 83 = .ok (.ifCond .ne 28, 3) := by decide +kernel
theorem dX7_carryOutGroup_86 : decode cX7_carryOutGroup 86 = .ok (.aload_n 0, 1) := by decide +kernel
theorem dX7_carryOutGroup_87 : decode cX7_carryOutGroup 87 = .ok (.getfield 15, 3) := by decide +kernel
theorem dX7_carryOutGroup_90 : decode cX7_carryOutGroup 90 = .ok (.iload_n 3, 1) := by decide +kernel
theorem dX7_carryOutGroup_91 : decode cX7_carryOutGroup 91 = .ok (.aload_n 0, 1) := by decide +kernel
theorem dX7_carryOutGroup_92 : decode cX7_carryOutGroup 92 = .ok (.getfield 31, 3) := by decide +kernel
theorem dX7_carryOutGroup_95 : decode cX7_carryOutGroup 95 = .ok (.iload_n 1, 1) := by decide +kernel
theorem dX7_carryOutGroup_96 : decode cX7_carryOutGroup 96 = .ok (.iload 4, 2) := by decide +kernel
theorem dX7_carryOutGroup_98 : decode cX7_carryOutGroup 98 = .ok (.invokevirtual 203, 3) := by decide +kernel
theorem dX7_carryOutGroup_101 : decode cX7_carryOutGroup 101 = .ok (.invokevirtual 74, 3) := by decide +kernel
theorem dX7_carryOutGroup_104 : decode cX7_carryOutGroup 104 = .ok (.istore_n 2, 1) := by decide +kernel
theorem dX7_carryOutGroup_105 : decode cX7_carryOutGroup 105 = .ok (.iinc 4 1, 3) := by decide +kernel
theorem dX7_carryOutGroup_108 : decode cX7_carryOutGroup 108 = .ok (.goto (-42), 3) := by decide +kernel
theorem dX7_carryOutGroup_111 : decode cX7_carryOutGroup 111 = .ok (.iload_n 2, 1) := by decide +kernel
theorem dX7_carryOutGroup_112 : decode cX7_carryOutGroup 112 = .ok (.ireturn, 1) := by decide +kernel
theorem dX7_settle_0 : decode cX7_settle 0 = .ok (.iload_n 1, 1) := by decide +kernel
theorem dX7_settle_1 : decode cX7_settle 1 = .ok (.invokestatic 145, 3) := by decide +kernel
theorem dX7_settle_4 : decode cX7_settle 4 = .ok (.ifCond .ne 10, 3) := by decide +kernel
theorem dX7_settle_7 : decode cX7_settle 7 = .ok (.aload_n 0, 1) := by decide +kernel
theorem dX7_settle_8 : decode cX7_settle 8 = .ok (.getfield 24, 3) := by decide +kernel
theorem dX7_settle_11 : decode cX7_settle 11 = .ok (.invokevirtual 152, 3) := by decide +kernel
theorem dX7_settle_14 : decode cX7_settle 14 = .ok (.aload_n 0, 1) := by decide +kernel
theorem dX7_settle_15 : decode cX7_settle 15 = .ok (.iload_n 1, 1) := by decide +kernel
theorem dX7_settle_16 : decode cX7_settle 16 = .ok (.invokevirtual 92, 3) := by decide +kernel
theorem dX7_settle_19 : decode cX7_settle 19 = .ok (.ireturn, 1) := by decide +kernel
theorem dX7_answer_0 : decode cX7_answer 0 = .ok (.iload_n 1, 1) := by decide +kernel
theorem dX7_answer_1 : decode cX7_answer 1 = .ok (.invokestatic 145, 3) := by decide +kernel
theorem dX7_answer_4 : decode cX7_answer 4 = .ok (.ifCond .eq 16, 3) := by decide +kernel
theorem dX7_answer_7 : decode cX7_answer 7 = .ok (.aload_n 0, 1) := by decide +kernel
theorem dX7_answer_8 : decode cX7_answer 8 = .ok (.getfield 35, 3) := by decide +kernel
theorem dX7_answer_11 : decode cX7_answer 11 = .ok (.bipush (-2), 2) := by decide +kernel
theorem dX7_answer_13 : decode cX7_answer 13 = .ok (.iload_n 1, 1) := by decide +kernel
theorem dX7_answer_14 : decode cX7_answer 14 = .ok (.isub, 1) := by decide +kernel
theorem dX7_answer_15 : decode cX7_answer 15 = .ok (.dup2, 1) := by decide +kernel
theorem dX7_answer_16 : decode cX7_answer 16 = .ok (.iaload, 1) := by decide +kernel
theorem dX7_answer_17 : decode cX7_answer 17 = .ok (.iconst 1, 1) := by decide +kernel
theorem dX7_answer_18 : decode cX7_answer 18 = .ok (.iadd, 1) := by decide +kernel
theorem dX7_answer_19 : decode cX7_answer 19 = .ok (.iastore, 1) := by decide +kernel
theorem dX7_answer_20 : decode cX7_answer 20 = .ok (.iload_n 1, 1) := by decide +kernel
theorem dX7_answer_21 : decode cX7_answer 21 = .ok (.ireturn, 1) := by decide +kernel
theorem dX7_isRefusal_0 : decode cX7_isRefusal 0 = .ok (.iload_n 0, 1) := by decide +kernel
theorem dX7_isRefusal_1 : decode cX7_isRefusal 1 = .ok (.bipush (-2), 2) := by decide +kernel
theorem dX7_isRefusal_3 : decode cX7_isRefusal 3 = .ok (.if_icmp .gt 13, 3) := by decide +kernel
theorem dX7_isRefusal_6 : decode cX7_isRefusal 6 = .ok (.iload_n 0, 1) := by decide +kernel
theorem dX7_isRefusal_7 : decode cX7_isRefusal 7 = .ok (.bipush (-4), 2) := by decide +kernel
theorem dX7_isRefusal_9 : decode cX7_isRefusal 9 = .ok (.if_icmp .lt 7, 3) := by decide +kernel
theorem dX7_isRefusal_12 : decode cX7_isRefusal 12 = .ok (.iconst 1, 1) := by decide +kernel
theorem dX7_isRefusal_13 : decode cX7_isRefusal 13 = .ok (.goto 4, 3) := by decide +kernel
theorem dX7_isRefusal_16 : decode cX7_isRefusal 16 = .ok (.iconst 0, 1) := by decide +kernel
theorem dX7_isRefusal_17 : decode cX7_isRefusal 17 = .ok (.ireturn, 1) := by decide +kernel
theorem dX7_isWithin_0 : decode cX7_isWithin 0 = .ok (.iload_n 0, 1) := by decide +kernel
theorem dX7_isWithin_1 : decode cX7_isWithin 1 = .ok (.iload_n 1, 1) := by decide +kernel
theorem dX7_isWithin_2 : decode cX7_isWithin 2 = .ok (.if_icmp .lt 12, 3) := by decide +kernel
theorem dX7_isWithin_5 : decode cX7_isWithin 5 = .ok (.iload_n 0, 1) := by decide +kernel
theorem dX7_isWithin_6 : decode cX7_isWithin 6 = .ok (.iload_n 2, 1) := by decide +kernel
theorem dX7_isWithin_7 : decode cX7_isWithin 7 = .ok (.if_icmp .gt 7, 3) := by decide +kernel
theorem dX7_isWithin_10 : decode cX7_isWithin 10 = .ok (.iconst 1, 1) := by decide +kernel
theorem dX7_isWithin_11 : decode cX7_isWithin 11 = .ok (.goto 4, 3) := by decide +kernel
theorem dX7_isWithin_14 : decode cX7_isWithin 14 = .ok (.iconst 0, 1) := by decide +kernel
theorem dX7_isWithin_15 : decode cX7_isWithin 15 = .ok (.ireturn, 1) := by decide +kernel
theorem dX7_bit_0 : decode cX7_bit 0 = .ok (.iload_n 0, 1) := by decide +kernel
theorem dX7_bit_1 : decode cX7_bit 1 = .ok (.ifCond .eq 7, 3) := by decide +kernel
theorem dX7_bit_4 : decode cX7_bit 4 = .ok (.iconst 1, 1) := by decide +kernel
theorem dX7_bit_5 : decode cX7_bit 5 = .ok (.goto 4, 3) := by decide +kernel
theorem dX7_bit_8 : decode cX7_bit 8 = .ok (.iconst 0, 1) := by decide +kernel
theorem dX7_bit_9 : decode cX7_bit 9 = .ok (.ireturn, 1) := by decide +kernel
theorem dX7_copyRow_0 : decode cX7_copyRow 0 = .ok (.aload_n 0, 1) := by decide +kernel
theorem dX7_copyRow_1 : decode cX7_copyRow 1 = .ok (.iconst 0, 1) := by decide +kernel
theorem dX7_copyRow_2 : decode cX7_copyRow 2 = .ok (.aload_n 1, 1) := by decide +kernel
theorem dX7_copyRow_3 : decode cX7_copyRow 3 = .ok (.iconst 0, 1) := by decide +kernel
theorem dX7_copyRow_4 : decode cX7_copyRow 4 = .ok (.aload_n 0, 1) := by decide +kernel
theorem dX7_copyRow_5 : decode cX7_copyRow 5 = .ok (.arraylength, 1) := by decide +kernel
theorem dX7_copyRow_6 : decode cX7_copyRow 6 = .ok (.aload_n 1, 1) := by decide +kernel
theorem dX7_copyRow_7 : decode cX7_copyRow 7 = .ok (.arraylength, 1) := by decide +kernel
theorem dX7_copyRow_8 : decode cX7_copyRow 8 = .ok (.invokestatic 215, 3) := by decide +kernel
theorem dX7_copyRow_11 : decode cX7_copyRow 11 = .ok (.invokestatic 220, 3) := by decide +kernel
theorem dX7_copyRow_14 : decode cX7_copyRow 14 = .ok (.return_, 1) := by decide +kernel
theorem dX8_init_0 : decode cX8_init 0 = .ok (.aload_n 0, 1) := by decide +kernel
theorem dX8_init_1 : decode cX8_init 1 = .ok (.invokespecial 1, 3) := by decide +kernel
theorem dX8_init_4 : decode cX8_init 4 = .ok (.aload_n 0, 1) := by decide +kernel
theorem dX8_init_5 : decode cX8_init 5 = .ok (.sipush 659, 3) := by decide +kernel
theorem dX8_init_8 : decode cX8_init 8 = .ok (.newarray .int, 2) := by decide +kernel
theorem dX8_init_10 : decode cX8_init 10 = .ok (.putfield 7, 3) := by decide +kernel
theorem dX8_init_13 : decode cX8_init 13 = .ok (.aload_n 0, 1) := by decide +kernel
theorem dX8_init_14 : decode cX8_init 14 = .ok (.sipush 659, 3) := by decide +kernel
theorem dX8_init_17 : decode cX8_init 17 = .ok (.newarray .int, 2) := by decide +kernel
theorem dX8_init_19 : decode cX8_init 19 = .ok (.putfield 13, 3) := by decide +kernel
theorem dX8_init_22 : decode cX8_init 22 = .ok (.aload_n 0, 1) := by decide +kernel
theorem dX8_init_23 : decode cX8_init 23 = .ok (.sipush 3295, 3) := by decide +kernel
theorem dX8_init_26 : decode cX8_init 26 = .ok (.newarray .int, 2) := by decide +kernel
theorem dX8_init_28 : decode cX8_init 28 = .ok (.putfield 16, 3) := by decide +kernel
theorem dX8_init_31 : decode cX8_init 31 = .ok (.aload_n 0, 1) := by decide +kernel
theorem dX8_init_32 : decode cX8_init 32 = .ok (.iconst 3, 1) := by decide +kernel
theorem dX8_init_33 : decode cX8_init 33 = .ok (.newarray .int, 2) := by decide +kernel
theorem dX8_init_35 : decode cX8_init 35 = .ok (.putfield 19, 3) := by decide +kernel
theorem dX8_init_38 : decode cX8_init 38 = .ok (.aload_n 0, 1) := by decide +kernel
theorem dX8_init_39 : decode cX8_init 39 = .ok (.bipush 120, 2) := by decide +kernel
theorem dX8_init_41 : decode cX8_init 41 = .ok (.newarray .int, 2) := by decide +kernel
theorem dX8_init_43 : decode cX8_init 43 = .ok (.putfield 22, 3) := by decide +kernel
theorem dX8_init_46 : decode cX8_init 46 = .ok (.aload_n 0, 1) := by decide +kernel
theorem dX8_init_47 : decode cX8_init 47 = .ok (.iconst 4, 1) := by decide +kernel
theorem dX8_init_48 : decode cX8_init 48 = .ok (.newarray .int, 2) := by decide +kernel
theorem dX8_init_50 : decode cX8_init 50 = .ok (.putfield 25, 3) := by decide +kernel
theorem dX8_init_53 : decode cX8_init 53 = .ok (.aload_n 0, 1) := by decide +kernel
theorem dX8_init_54 : decode cX8_init 54 = .ok (.iconst 4, 1) := by decide +kernel
theorem dX8_init_55 : decode cX8_init 55 = .ok (.newarray .int, 2) := by decide +kernel
theorem dX8_init_57 : decode cX8_init 57 = .ok (.putfield 28, 3) := by decide +kernel
theorem dX8_init_60 : decode cX8_init 60 = .ok (.aload_n 0, 1) := by decide +kernel
theorem dX8_init_61 : decode cX8_init 61 = .ok (.iconst 4, 1) := by decide +kernel
theorem dX8_init_62 : decode cX8_init 62 = .ok (.newarray .int, 2) := by decide +kernel
theorem dX8_init_64 : decode cX8_init 64 = .ok (.putfield 31, 3) := by decide +kernel
theorem dX8_init_67 : decode cX8_init 67 = .ok (.aload_n 0, 1) := by decide +kernel
theorem dX8_init_68 : decode cX8_init 68 = .ok (.bipush 60, 2) := by decide +kernel
theorem dX8_init_70 : decode cX8_init 70 = .ok (.newarray .int, 2) := by decide +kernel
theorem dX8_init_72 : decode cX8_init 72 = .ok (.putfield 34, 3) := by decide +kernel
theorem dX8_init_75 : decode cX8_init 75 = .ok (.aload_n 0, 1) := by decide +kernel
theorem dX8_init_76 : decode cX8_init 76 = .ok (.bipush 61, 2) := by decide +kernel
theorem dX8_init_78 : decode cX8_init 78 = .ok (.newarray .int, 2) := by decide +kernel
theorem dX8_init_80 : decode cX8_init 80 = .ok (.putfield 37, 3) := by decide +kernel
theorem dX8_init_83 : decode cX8_init 83 = .ok (.aload_n 0, 1) := by decide +kernel
theorem dX8_init_84 : decode cX8_init 84 = .ok (.sipush 128, 3) := by decide +kernel
theorem dX8_init_87 : decode cX8_init 87 = .ok (.newarray .int, 2) := by decide +kernel
theorem dX8_init_89 : decode cX8_init 89 = .ok (.putfield 40, 3) := by decide +kernel
theorem dX8_init_92 : decode cX8_init 92 = .ok (.aload_n 0, 1) := by decide +kernel
theorem dX8_init_93 : decode cX8_init 93 = .ok (.getfield 7, 3) := by decide +kernel
theorem dX8_init_96 : decode cX8_init 96 = .ok (.iconst 0, 1) := by decide +kernel
theorem dX8_init_97 : decode cX8_init 97 = .ok (.iconst 2, 1) := by decide +kernel
theorem dX8_init_98 : decode cX8_init 98 = .ok (.iastore, 1) := by decide +kernel
theorem dX8_init_99 : decode cX8_init 99 = .ok (.iconst 0, 1) := by decide +kernel
theorem dX8_init_100 : decode cX8_init 100 = .ok (.istore_n 1, 1) := by decide +kernel
theorem dX8_init_101 : decode cX8_init 101 = .ok (.iload_n 1, 1) := by decide +kernel
theorem dX8_init_102 : decode cX8_init 102 = .ok (.bipush 8, 2) := by decide +kernel
theorem dX8_init_104 : decode cX8_init 104 = .ok (.if_icmp .ge 19, 3) := by decide +kernel
theorem dX8_init_107 : decode cX8_init 107 = .ok (.aload_n 0, 1) := by decide +kernel
theorem dX8_init_108 : decode cX8_init 108 = .ok (.getfield 7, 3) := by decide +kernel
theorem dX8_init_111 : decode cX8_init 111 = .ok (.iconst 1, 1) := by decide +kernel
theorem dX8_init_112 : decode cX8_init 112 = .ok (.iload_n 1, 1) := by decide +kernel
theorem dX8_init_113 : decode cX8_init 113 = .ok (.iadd, 1) := by decide +kernel
theorem dX8_init_114 : decode cX8_init 114 = .ok (.bipush 15, 2) := by decide +kernel
theorem dX8_init_116 : decode cX8_init 116 = .ok (.iastore, 1) := by decide +kernel
theorem dX8_init_117 : decode cX8_init 117 = .ok (.iinc 1 1, 3) := by decide +kernel
theorem dX8_init_120 : decode cX8_init 120 = .ok (.goto (-19), 3) := by decide +kernel
theorem dX8_init_123 : decode cX8_init 123 = .ok (.aload_n 0, 1) := by decide +kernel
theorem dX8_init_124 : decode cX8_init 124 = .ok (.getfield 7, 3) := by decide +kernel
theorem dX8_init_127 : decode cX8_init 127 = .ok (.bipush 9, 2) := by decide +kernel
theorem dX8_init_129 : decode cX8_init 129 = .ok (.iconst 1, 1) := by decide +kernel
theorem dX8_init_130 : decode cX8_init 130 = .ok (.iastore, 1) := by decide +kernel
theorem dX8_init_131 : decode cX8_init 131 = .ok (.aload_n 0, 1) := by decide +kernel
theorem dX8_init_132 : decode cX8_init 132 = .ok (.getfield 7, 3) := by decide +kernel
theorem dX8_init_135 : decode cX8_init 135 = .ok (.bipush 10, 2) := by decide +kernel
theorem dX8_init_137 : decode cX8_init 137 = .ok (.iconst (-1), 1) := by decide +kernel
theorem dX8_init_138 : decode cX8_init 138 = .ok (.iastore, 1) := by decide +kernel
theorem dX8_init_139 : decode cX8_init 139 = .ok (.aload_n 0, 1) := by decide +kernel
theorem dX8_init_140 : decode cX8_init 140 = .ok (.getfield 7, 3) := by decide +kernel
theorem dX8_init_143 : decode cX8_init 143 = .ok (.sipush 427, 3) := by decide +kernel
theorem dX8_init_146 : decode cX8_init 146 = .ok (.iconst 1, 1) := by decide +kernel
theorem dX8_init_147 : decode cX8_init 147 = .ok (.iastore, 1) := by decide +kernel
theorem dX8_init_148 : decode cX8_init 148 = .ok (.return_, 1) := by decide +kernel
theorem dX8_in_0 : decode cX8_in 0 = .ok (.iload_n 0, 1) := by decide +kernel
theorem dX8_in_1 : decode cX8_in 1 = .ok (.iload_n 1, 1) := by decide +kernel
theorem dX8_in_2 : decode cX8_in 2 = .ok (.if_icmp .lt 12, 3) := by decide +kernel
theorem dX8_in_5 : decode cX8_in 5 = .ok (.iload_n 0, 1) := by decide +kernel
theorem dX8_in_6 : decode cX8_in 6 = .ok (.iload_n 2, 1) := by decide +kernel
theorem dX8_in_7 : decode cX8_in 7 = .ok (.if_icmp .gt 7, 3) := by decide +kernel
theorem dX8_in_10 : decode cX8_in 10 = .ok (.iconst 1, 1) := by decide +kernel
theorem dX8_in_11 : decode cX8_in 11 = .ok (.goto 4, 3) := by decide +kernel
theorem dX8_in_14 : decode cX8_in 14 = .ok (.iconst 0, 1) := by decide +kernel
theorem dX8_in_15 : decode cX8_in 15 = .ok (.ireturn, 1) := by decide +kernel
theorem dX8_has_0 : decode cX8_has 0 = .ok (.iload_n 0, 1) := by decide +kernel
theorem dX8_has_1 : decode cX8_has 1 = .ok (.iload_n 1, 1) := by decide +kernel
theorem dX8_has_2 : decode cX8_has 2 = .ok (.ishr, 1) := by decide +kernel
theorem dX8_has_3 : decode cX8_has 3 = .ok (.iconst 1, 1) := by decide +kernel
theorem dX8_has_4 : decode cX8_has 4 = .ok (.iand, 1) := by decide +kernel
theorem dX8_has_5 : decode cX8_has 5 = .ok (.iconst 1, 1) := by decide +kernel
theorem dX8_has_6 : decode cX8_has 6 = .ok (.if_icmp .ne 7, 3) := by decide +kernel
theorem dX8_has_9 : decode cX8_has 9 = .ok (.iconst 1, 1) := by decide +kernel
theorem dX8_has_10 : decode cX8_has 10 = .ok (.goto 4, 3) := by decide +kernel
theorem dX8_has_13 : decode cX8_has 13 = .ok (.iconst 0, 1) := by decide +kernel
theorem dX8_has_14 : decode cX8_has 14 = .ok (.ireturn, 1) := by decide +kernel
theorem dX8_bad_0 : decode cX8_bad 0 = .ok (.aload_n 0, 1) := by decide +kernel
theorem dX8_bad_1 : decode cX8_bad 1 = .ok (.getfield 19, 3) := by decide +kernel
theorem dX8_bad_4 : decode cX8_bad 4 = .ok (.iconst 0, 1) := by decide +kernel
theorem dX8_bad_5 : decode cX8_bad 5 = .ok (.dup2, 1) := by decide +kernel
theorem dX8_bad_6 : decode cX8_bad 6 = .ok (.iaload, 1) := by decide +kernel
theorem dX8_bad_7 : decode cX8_bad 7 = .ok (.iconst 1, 1) := by decide +kernel
theorem dX8_bad_8 : decode cX8_bad 8 = .ok (.iadd, 1) := by decide +kernel
theorem dX8_bad_9 : decode cX8_bad 9 = .ok (.iastore, 1) := by decide +kernel
theorem dX8_bad_10 : decode cX8_bad 10 = .ok (.bipush (-2), 2) := by decide +kernel
theorem dX8_bad_12 : decode cX8_bad 12 = .ok (.ireturn, 1) := by decide +kernel
theorem dX8_no_0 : decode cX8_no 0 = .ok (.aload_n 0, 1) := by decide +kernel
theorem dX8_no_1 : decode cX8_no 1 = .ok (.getfield 19, 3) := by decide +kernel
theorem dX8_no_4 : decode cX8_no 4 = .ok (.iconst 1, 1) := by decide +kernel
theorem dX8_no_5 : decode cX8_no 5 = .ok (.dup2, 1) := by decide +kernel
theorem dX8_no_6 : decode cX8_no 6 = .ok (.iaload, 1) := by decide +kernel
theorem dX8_no_7 : decode cX8_no 7 = .ok (.iconst 1, 1) := by decide +kernel
theorem dX8_no_8 : decode cX8_no 8 = .ok (.iadd, 1) := by decide +kernel
theorem dX8_no_9 : decode cX8_no 9 = .ok (.iastore, 1) := by decide +kernel
theorem dX8_no_10 : decode cX8_no 10 = .ok (.bipush (-3), 2) := by decide +kernel
theorem dX8_no_12 : decode cX8_no 12 = .ok (.ireturn, 1) := by decide +kernel
theorem dX8_full_0 : decode cX8_full 0 = .ok (.aload_n 0, 1) := by decide +kernel
theorem dX8_full_1 : decode cX8_full 1 = .ok (.getfield 19, 3) := by decide +kernel
theorem dX8_full_4 : decode cX8_full 4 = .ok (.iconst 2, 1) := by decide +kernel
theorem dX8_full_5 : decode cX8_full 5 = .ok (.dup2, 1) := by decide +kernel
theorem dX8_full_6 : decode cX8_full 6 = .ok (.iaload, 1) := by decide +kernel
theorem dX8_full_7 : decode cX8_full 7 = .ok (.iconst 1, 1) := by decide +kernel
theorem dX8_full_8 : decode cX8_full 8 = .ok (.iadd, 1) := by decide +kernel
theorem dX8_full_9 : decode cX8_full 9 = .ok (.iastore, 1) := by decide +kernel
theorem dX8_full_10 : decode cX8_full 10 = .ok (.bipush (-4), 2) := by decide +kernel
theorem dX8_full_12 : decode cX8_full 12 = .ok (.ireturn, 1) := by decide +kernel
theorem dX8_remembers_0 : decode cX8_remembers 0 = .ok (.aload_n 0, 1) := by decide +kernel
theorem dX8_remembers_1 : decode cX8_remembers 1 = .ok (.getfield 43, 3) := by decide +kernel
theorem dX8_remembers_4 : decode cX8_remembers 4 = .ok (.iconst 5, 1) := by decide +kernel
theorem dX8_remembers_5 : decode cX8_remembers 5 = .ok (.if_icmp .ne 44, 3) := by decide +kernel
theorem dX8_remembers_8 : decode cX8_remembers 8 = .ok (.iconst 0, 1) := by decide +kernel
theorem dX8_remembers_9 : decode cX8_remembers 9 = .ok (.istore_n 1, 1) := by decide +kernel
theorem dX8_remembers_10 : decode cX8_remembers 10 = .ok (.iload_n 1, 1) := by decide +kernel
theorem dX8_remembers_11 : decode cX8_remembers 11 = .ok (.sipush 2636, 3) := by decide +kernel
theorem dX8_remembers_14 : decode cX8_remembers 14 = .ok (.if_icmp .ge 25, 3) := by decide +kernel
theorem dX8_remembers_17 : decode cX8_remembers 17 = .ok (.aload_n 0, 1) := by decide +kernel
theorem dX8_remembers_18 : decode cX8_remembers 18 = .ok (.getfield 16, 3) := by decide +kernel
theorem dX8_remembers_21 : decode cX8_remembers 21 = .ok (.iload_n 1, 1) := by decide +kernel
theorem dX8_remembers_22 : decode cX8_remembers 22 = .ok (.aload_n 0, 1) := by decide +kernel
theorem dX8_remembers_23 : decode cX8_remembers 23 = .ok (.getfield 16, 3) := by decide +kernel
theorem dX8_remembers_26 : decode cX8_remembers 26 = .ok (.iload_n 1, 1) := by decide +kernel
theorem dX8_remembers_27 : decode cX8_remembers 27 = .ok (.sipush 659, 3) := by decide +kernel
theorem dX8_remembers_30 : decode cX8_remembers 30 = .ok (.iadd, 1) := by decide +kernel
theorem dX8_remembers_31 : decode cX8_remembers 31 = .ok (.iaload, 1) := by decide +kernel
theorem dX8_remembers_32 : decode cX8_remembers 32 = .ok (.iastore, 1) := by decide +kernel
theorem dX8_remembers_33 : decode cX8_remembers 33 = .ok (.iinc 1 1, 3) := by decide +kernel
theorem dX8_remembers_36 : decode cX8_remembers 36 = .ok (.goto (-26), 3) := by decide +kernel
theorem dX8_remembers_39 : decode cX8_remembers 39 = .ok (.aload_n 0, 1) := by decide +kernel
theorem dX8_remembers_40 : decode cX8_remembers 40 = .ok (.dup, 1) := by decide +kernel
theorem dX8_remembers_41 : decode cX8_remembers 41 = .ok (.getfield 43, 3) := by decide +kernel
theorem dX8_remembers_44 : decode cX8_remembers 44 = .ok (.iconst 1, 1) := by decide +kernel
theorem dX8_remembers_45 : decode cX8_remembers 45 = .ok (.isub, 1) := by decide +kernel
theorem dX8_remembers_46 : decode cX8_remembers 46 = .ok (.putfield 43, 3) := by decide +kernel
theorem dX8_remembers_49 : decode cX8_remembers 49 = .ok (.iconst 0, 1) := by decide +kernel
theorem dX8_remembers_50 : decode cX8_remembers 50 = .ok (.istore_n 1, 1) := by decide +kernel
theorem dX8_remembers_51 : decode cX8_remembers 51 = .ok (.iload_n 1, 1) := by decide +kernel
theorem dX8_remembers_52 : decode cX8_remembers 52 = .ok (.sipush 659, 3) := by decide +kernel
theorem dX8_remembers_55 : decode cX8_remembers 55 = .ok (.if_icmp .ge 30, 3) := by decide +kernel
theorem dX8_remembers_58 : decode cX8_remembers 58 = .ok (.aload_n 0, 1) := by decide +kernel
theorem dX8_remembers_59 : decode cX8_remembers 59 = .ok (.getfield 16, 3) := by decide +kernel
theorem dX8_remembers_62 : decode cX8_remembers 62 = .ok (.sipush 659, 3) := by decide +kernel
theorem dX8_remembers_65 : decode cX8_remembers 65 = .ok (.aload_n 0, 1) := by decide +kernel
theorem dX8_remembers_66 : decode cX8_remembers 66 = .ok (.getfield 43, 3) := by decide +kernel
theorem dX8_remembers_69 : decode cX8_remembers 69 = .ok (.imul, 1) := by decide +kernel
theorem dX8_remembers_70 : decode cX8_remembers 70 = .ok (.iload_n 1, 1) := by decide +kernel
theorem dX8_remembers_71 : decode cX8_remembers 71 = .ok (.iadd, 1) := by decide +kernel
theorem dX8_remembers_72 : decode cX8_remembers 72 = .ok (.aload_n 0, 1) := by decide +kernel
theorem dX8_remembers_73 : decode cX8_remembers 73 = .ok (.getfield 7, 3) := by decide +kernel
theorem dX8_remembers_76 : decode cX8_remembers 76 = .ok (.iload_n 1, 1) := by decide +kernel
theorem dX8_remembers_77 : decode cX8_remembers 77 = .ok (.iaload, 1) := by decide +kernel
theorem dX8_remembers_78 : decode cX8_remembers 78 = .ok (.iastore, 1) := by decide +kernel
theorem dX8_remembers_79 : decode cX8_remembers 79 = .ok (.iinc 1 1, 3) := by decide +kernel
theorem dX8_remembers_82 : decode cX8_remembers 82 = .ok (.goto (-31), 3) := by decide +kernel
theorem dX8_remembers_85 : decode cX8_remembers 85 = .ok (.aload_n 0, 1) := by decide +kernel
theorem dX8_remembers_86 : decode cX8_remembers 86 = .ok (.dup, 1) := by decide +kernel
theorem dX8_remembers_87 : decode cX8_remembers 87 = .ok (.getfield 43, 3) := by decide +kernel
theorem dX8_remembers_90 : decode cX8_remembers 90 = .ok (.iconst 1, 1) := by decide +kernel
theorem dX8_remembers_91 : decode cX8_remembers 91 = .ok (.iadd, 1) := by decide +kernel
theorem dX8_remembers_92 : decode cX8_remembers 92 = .ok (.putfield 43, 3) := by decide +kernel
theorem dX8_remembers_95 : decode cX8_remembers 95 = .ok (.return_, 1) := by decide +kernel
theorem dX8_back_0 : decode cX8_back 0 = .ok (.aload_n 0, 1) := by decide +kernel
theorem dX8_back_1 : decode cX8_back 1 = .ok (.getfield 43, 3) := by decide +kernel
theorem dX8_back_4 : decode cX8_back 4 = .ok (.ifCond .ne 8, 3) := by decide +kernel
theorem dX8_back_7 : decode cX8_back 7 = .ok (.aload_n 0, 1) := by decide +kernel
theorem dX8_back_8 : decode cX8_back 8 = .ok (.invokevirtual 47, 3) := by decide +kernel
theorem dX8_back_11 : decode cX8_back 11 = .ok (.ireturn, 1) := by decide +kernel
theorem dX8_back_12 : decode cX8_back 12 = .ok (.aload_n 0, 1) := by decide +kernel
theorem dX8_back_13 : decode cX8_back 13 = .ok (.dup, 1) := by decide +kernel
theorem dX8_back_14 : decode cX8_back 14 = .ok (.getfield 43, 3) := by decide +kernel
theorem dX8_back_17 : decode cX8_back 17 = .ok (.iconst 1, 1) := by decide +kernel
theorem dX8_back_18 : decode cX8_back 18 = .ok (.isub, 1) := by decide +kernel
theorem dX8_back_19 : decode cX8_back 19 = .ok (.putfield 43, 3) := by decide +kernel
theorem dX8_back_22 : decode cX8_back 22 = .ok (.iconst 0, 1) := by decide +kernel
theorem dX8_back_23 : decode cX8_back 23 = .ok (.istore_n 1, 1) := by decide +kernel
theorem dX8_back_24 : decode cX8_back 24 = .ok (.iload_n 1, 1) := by decide +kernel
theorem dX8_back_25 : decode cX8_back 25 = .ok (.sipush 659, 3) := by decide +kernel
theorem dX8_back_28 : decode cX8_back 28 = .ok (.if_icmp .ge 30, 3) := by decide +kernel
theorem dX8_back_31 : decode cX8_back 31 = .ok (.aload_n 0, 1) := by decide +kernel
theorem dX8_back_32 : decode cX8_back 32 = .ok (.getfield 7, 3) := by decide +kernel
theorem dX8_back_35 : decode cX8_back 35 = .ok (.iload_n 1, 1) := by decide +kernel
theorem dX8_back_36 : decode cX8_back 36 = .ok (.aload_n 0, 1) := by decide +kernel
theorem dX8_back_37 : decode cX8_back 37 = .ok (.getfield 16, 3) := by decide +kernel
theorem dX8_back_40 : decode cX8_back 40 = .ok (.sipush 659, 3) := by decide +kernel
theorem dX8_back_43 : decode cX8_back 43 = .ok (.aload_n 0, 1) := by decide +kernel
theorem dX8_back_44 : decode cX8_back 44 = .ok (.getfield 43, 3) := by decide +kernel
theorem dX8_back_47 : decode cX8_back 47 = .ok (.imul, 1) := by decide +kernel
theorem dX8_back_48 : decode cX8_back 48 = .ok (.iload_n 1, 1) := by decide +kernel
theorem dX8_back_49 : decode cX8_back 49 = .ok (.iadd, 1) := by decide +kernel
theorem dX8_back_50 : decode cX8_back 50 = .ok (.iaload, 1) := by decide +kernel
theorem dX8_back_51 : decode cX8_back 51 = .ok (.iastore, 1) := by decide +kernel
theorem dX8_back_52 : decode cX8_back 52 = .ok (.iinc 1 1, 3) := by decide +kernel
theorem dX8_back_55 : decode cX8_back 55 = .ok (.goto (-31), 3) := by decide +kernel
theorem dX8_back_58 : decode cX8_back 58 = .ok (.aload_n 0, 1) := by decide +kernel
theorem dX8_back_59 : decode cX8_back 59 = .ok (.getfield 43, 3) := by decide +kernel
theorem dX8_back_62 : decode cX8_back 62 = .ok (.ireturn, 1) := by decide +kernel
theorem dX8_isTask_0 : decode cX8_isTask 0 = .ok (.iload_n 1, 1) := by decide +kernel
theorem dX8_isTask_1 : decode cX8_isTask 1 = .ok (.iconst 0, 1) := by decide +kernel
theorem dX8_isTask_2 : decode cX8_isTask 2 = .ok (.aload_n 0, 1) := by decide +kernel
theorem dX8_isTask_3 : decode cX8_isTask 3 = .ok (.getfield 7, 3) := by decide +kernel
theorem dX8_isTask_6 : decode cX8_isTask 6 = .ok (.bipush 9, 2) := by decide +kernel
theorem dX8_isTask_8 : decode cX8_isTask 8 = .ok (.iaload, 1) := by decide +kernel
theorem dX8_isTask_9 : decode cX8_isTask 9 = .ok (.iconst 1, 1) := by decide +kernel
theorem dX8_isTask_10 : decode cX8_isTask 10 = .ok (.isub, 1) := by decide +kernel
theorem dX8_isTask_11 : decode cX8_isTask 11 = .ok (.invokestatic 51, 3) := by decide +kernel
theorem dX8_isTask_14 : decode cX8_isTask 14 = .ok (.ireturn, 1) := by decide +kernel
theorem dX8_taskAt_0 : decode cX8_taskAt 0 = .ok (.bipush 10, 2) := by decide +kernel
theorem dX8_taskAt_2 : decode cX8_taskAt 2 = .ok (.bipush 10, 2) := by decide +kernel
theorem dX8_taskAt_4 : decode cX8_taskAt 4 = .ok (.iload_n 0, 1) := by decide +kernel
theorem dX8_taskAt_5 : decode cX8_taskAt 5 = .ok (.imul, 1) := by decide +kernel
theorem dX8_taskAt_6 : decode cX8_taskAt 6 = .ok (.iadd, 1) := by decide +kernel
theorem dX8_taskAt_7 : decode cX8_taskAt 7 = .ok (.ireturn, 1) := by decide +kernel
theorem dX8_isGroup_0 : decode cX8_isGroup 0 = .ok (.iload_n 1, 1) := by decide +kernel
theorem dX8_isGroup_1 : decode cX8_isGroup 1 = .ok (.iconst 0, 1) := by decide +kernel
theorem dX8_isGroup_2 : decode cX8_isGroup 2 = .ok (.aload_n 0, 1) := by decide +kernel
theorem dX8_isGroup_3 : decode cX8_isGroup 3 = .ok (.getfield 7, 3) := by decide +kernel
theorem dX8_isGroup_6 : decode cX8_isGroup 6 = .ok (.bipush 70, 2) := by decide +kernel
theorem dX8_isGroup_8 : decode cX8_isGroup 8 = .ok (.iaload, 1) := by decide +kernel
theorem dX8_isGroup_9 : decode cX8_isGroup 9 = .ok (.iconst 1, 1) := by decide +kernel
theorem dX8_isGroup_10 : decode cX8_isGroup 10 = .ok (.isub, 1) := by decide +kernel
theorem dX8_isGroup_11 : decode cX8_isGroup 11 = .ok (.invokestatic 51, 3) := by decide +kernel
theorem dX8_isGroup_14 : decode cX8_isGroup 14 = .ok (.ireturn, 1) := by decide +kernel
theorem dX8_groupAt_0 : decode cX8_groupAt 0 = .ok (.bipush 71, 2) := by decide +kernel
theorem dX8_groupAt_2 : decode cX8_groupAt 2 = .ok (.bipush 58, 2) := by decide +kernel
theorem dX8_groupAt_4 : decode cX8_groupAt 4 = .ok (.iload_n 0, 1) := by decide +kernel
theorem dX8_groupAt_5 : decode cX8_groupAt 5 = .ok (.imul, 1) := by decide +kernel
theorem dX8_groupAt_6 : decode cX8_groupAt 6 = .ok (.iadd, 1) := by decide +kernel
theorem dX8_groupAt_7 : decode cX8_groupAt 7 = .ok (.ireturn, 1) := by decide +kernel
theorem dX8_ofGroup_0 : decode cX8_ofGroup 0 = .ok (.aload_n 0, 1) := by decide +kernel
theorem dX8_ofGroup_1 : decode cX8_ofGroup 1 = .ok (.getfield 7, 3) := by decide +kernel
theorem dX8_ofGroup_4 : decode cX8_ofGroup 4 = .ok (.iload_n 1, 1) := by decide +kernel
theorem dX8_ofGroup_5 : decode cX8_ofGroup 5 = .ok (.invokestatic 55, 3) := by decide +kernel
theorem dX8_ofGroup_8 : decode cX8_ofGroup 8 = .ok (.iload_n 2, 1) := by decide +kernel
theorem dX8_ofGroup_9 : decode cX8_ofGroup 9 = .ok (.iadd, 1) := by decide +kernel
theorem dX8_ofGroup_10 : decode cX8_ofGroup 10 = .ok (.iaload, 1) := by decide +kernel
theorem dX8_ofGroup_11 : decode cX8_ofGroup 11 = .ok (.ireturn, 1) := by decide +kernel
theorem dX8_isEvent_0 : decode cX8_isEvent 0 = .ok (.aload_n 0, 1) := by decide +kernel
theorem dX8_isEvent_1 : decode cX8_isEvent 1 = .ok (.iload_n 1, 1) := by decide +kernel
theorem dX8_isEvent_2 : decode cX8_isEvent 2 = .ok (.invokevirtual 59, 3) := by decide +kernel
theorem dX8_isEvent_5 : decode cX8_isEvent 5 = .ok (.ifCond .eq 23, 3) := by decide +kernel
theorem dX8_isEvent_8 : decode cX8_isEvent 8 = .ok (.iload_n 2, 1) := by decide +kernel
theorem dX8_isEvent_9 : decode cX8_isEvent 9 = .ok (.iconst 0, 1) := by decide +kernel
theorem dX8_isEvent_10 : decode cX8_isEvent 10 = .ok (.aload_n 0, 1) := by decide +kernel
theorem dX8_isEvent_11 : decode cX8_isEvent 11 = .ok (.iload_n 1, 1) := by decide +kernel
theorem dX8_isEvent_12 : decode cX8_isEvent 12 = .ok (.iconst 5, 1) := by decide +kernel
theorem dX8_isEvent_13 : decode cX8_isEvent 13 = .ok (.invokevirtual 63, 3) := by decide +kernel
theorem dX8_isEvent_16 : decode cX8_isEvent 16 = .ok (.iconst 1, 1) := by decide +kernel
theorem dX8_isEvent_17 : decode cX8_isEvent 17 = .ok (.isub, 1) := by decide +kernel
theorem dX8_isEvent_18 : decode cX8_isEvent 18 = .ok (.invokestatic 51, 3) := by decide +kernel
theorem dX8_isEvent_21 : decode cX8_isEvent 21 = .ok (.ifCond .eq 7, 3) := by decide +kernel
theorem dX8_isEvent_24 : decode cX8_isEvent 24 = .ok (.iconst 1, 1) := by decide +kernel
theorem dX8_isEvent_25 : decode cX8_isEvent 25 = .ok (.goto 4, 3) := by decide +kernel
theorem dX8_isEvent_28 : decode cX8_isEvent 28 = .ok (.iconst 0, 1) := by decide +kernel
theorem dX8_isEvent_29 : decode cX8_isEvent 29 = .ok (.ireturn, 1) := by decide +kernel
theorem dX8_eventAt_0 : decode cX8_eventAt 0 = .ok (.iload_n 0, 1) := by decide +kernel
theorem dX8_eventAt_1 : decode cX8_eventAt 1 = .ok (.invokestatic 55, 3) := by decide +kernel
theorem dX8_eventAt_4 : decode cX8_eventAt 4 = .ok (.bipush 10, 2) := by decide +kernel
theorem dX8_eventAt_6 : decode cX8_eventAt 6 = .ok (.iadd, 1) := by decide +kernel
theorem dX8_eventAt_7 : decode cX8_eventAt 7 = .ok (.iconst 3, 1) := by decide +kernel
theorem dX8_eventAt_8 : decode cX8_eventAt 8 = .ok (.iload_n 1, 1) := by decide +kernel
theorem dX8_eventAt_9 : decode cX8_eventAt 9 = .ok (.imul, 1) := by decide +kernel
theorem dX8_eventAt_10 : decode cX8_eventAt 10 = .ok (.iadd, 1) := by decide +kernel
theorem dX8_eventAt_11 : decode cX8_eventAt 11 = .ok (.ireturn, 1) := by decide +kernel
theorem dX8_countAt_0 : decode cX8_countAt 0 = .ok (.iload_n 0, 1) := by decide +kernel
theorem dX8_countAt_1 : decode cX8_countAt 1 = .ok (.invokestatic 55, 3) := by decide +kernel
theorem dX8_countAt_4 : decode cX8_countAt 4 = .ok (.bipush 22, 2) := by decide +kernel
theorem dX8_countAt_6 : decode cX8_countAt 6 = .ok (.iadd, 1) := by decide +kernel
theorem dX8_countAt_7 : decode cX8_countAt 7 = .ok (.bipush 6, 2) := by decide +kernel
theorem dX8_countAt_9 : decode cX8_countAt 9 = .ok (.iload_n 1, 1) := by decide +kernel
theorem dX8_countAt_10 : decode cX8_countAt 10 = .ok (.imul, 1) := by decide +kernel
theorem dX8_countAt_11 : decode cX8_countAt 11 = .ok (.iadd, 1) := by decide +kernel
theorem dX8_countAt_12 : decode cX8_countAt 12 = .ok (.iload_n 2, 1) := by decide +kernel
theorem dX8_countAt_13 : decode cX8_countAt 13 = .ok (.iadd, 1) := by decide +kernel
theorem dX8_countAt_14 : decode cX8_countAt 14 = .ok (.ireturn, 1) := by decide +kernel
theorem dX8_isKind_0 : decode cX8_isKind 0 = .ok (.iload_n 0, 1) := by decide +kernel
theorem dX8_isKind_1 : decode cX8_isKind 1 = .ok (.iconst 0, 1) := by decide +kernel
theorem dX8_isKind_2 : decode cX8_isKind 2 = .ok (.bipush 7, 2) := by decide +kernel
theorem dX8_isKind_4 : decode cX8_isKind 4 = .ok (.invokestatic 51, 3) := by decide +kernel
theorem dX8_isKind_7 : decode cX8_isKind 7 = .ok (.ireturn, 1) := by decide +kernel
theorem dX8_rateOf_0 : decode cX8_rateOf 0 = .ok (.aload_n 0, 1) := by decide +kernel
theorem dX8_rateOf_1 : decode cX8_rateOf 1 = .ok (.getfield 7, 3) := by decide +kernel
theorem dX8_rateOf_4 : decode cX8_rateOf 4 = .ok (.iload_n 1, 1) := by decide +kernel
theorem dX8_rateOf_5 : decode cX8_rateOf 5 = .ok (.invokestatic 67, 3) := by decide +kernel
theorem dX8_rateOf_8 : decode cX8_rateOf 8 = .ok (.iconst 2, 1) := by decide +kernel
theorem dX8_rateOf_9 : decode cX8_rateOf 9 = .ok (.iadd, 1) := by decide +kernel
theorem dX8_rateOf_10 : decode cX8_rateOf 10 = .ok (.iload_n 2, 1) := by decide +kernel
theorem dX8_rateOf_11 : decode cX8_rateOf 11 = .ok (.iadd, 1) := by decide +kernel
theorem dX8_rateOf_12 : decode cX8_rateOf 12 = .ok (.iaload, 1) := by decide +kernel
theorem dX8_rateOf_13 : decode cX8_rateOf 13 = .ok (.ireturn, 1) := by decide +kernel
theorem dX8_exchanges_0 : decode cX8_exchanges 0 = .ok (.aload_n 0, 1) := by decide +kernel
theorem dX8_exchanges_1 : decode cX8_exchanges 1 = .ok (.getfield 7, 3) := by decide +kernel
theorem dX8_exchanges_4 : decode cX8_exchanges 4 = .ok (.iload_n 1, 1) := by decide +kernel
theorem dX8_exchanges_5 : decode cX8_exchanges 5 = .ok (.iaload, 1) := by decide +kernel
theorem dX8_exchanges_6 : decode cX8_exchanges 6 = .ok (.istore_n 3, 1) := by decide +kernel
theorem dX8_exchanges_7 : decode cX8_exchanges 7 = .ok (.aload_n 0, 1) := by decide +kernel
theorem dX8_exchanges_8 : decode cX8_exchanges 8 = .ok (.getfield 7, 3) := by decide +kernel
theorem dX8_exchanges_11 : decode cX8_exchanges 11 = .ok (.iload_n 1, 1) := by decide +kernel
theorem dX8_exchanges_12 : decode cX8_exchanges 12 = .ok (.iload_n 2, 1) := by decide +kernel
theorem dX8_exchanges_13 : decode cX8_exchanges 13 = .ok (.iastore, 1) := by decide +kernel
theorem dX8_exchanges_14 : decode cX8_exchanges 14 = .ok (.iload_n 3, 1) := by decide +kernel
theorem dX8_exchanges_15 : decode cX8_exchanges 15 = .ok (.ireturn, 1) := by decide +kernel
theorem dX8_counters_0 : decode cX8_counters 0 = .ok (.iload_n 1, 1) := by decide +kernel
theorem dX8_counters_1 : decode cX8_counters 1 = .ok (.iconst 1, 1) := by decide +kernel
theorem dX8_counters_2 : decode cX8_counters 2 = .ok (.iconst 4, 1) := by decide +kernel
theorem dX8_counters_3 : decode cX8_counters 3 = .ok (.invokestatic 51, 3) := by decide +kernel
theorem dX8_counters_6 : decode cX8_counters 6 = .ok (.ifCond .ne 8, 3) := by decide +kernel
theorem dX8_counters_9 : decode cX8_counters 9 = .ok (.aload_n 0, 1) := by decide +kernel
theorem dX8_counters_10 : decode cX8_counters 10 = .ok (.invokevirtual 70, 3) := by decide +kernel
theorem dX8_counters_13 : decode cX8_counters 13 = .ok (.ireturn, 1) := by decide +kernel
theorem dX8_counters_14 : decode cX8_counters 14 = .ok (.aload_n 0, 1) := by decide +kernel
theorem dX8_counters_15 : decode cX8_counters 15 = .ok (.invokevirtual 73, 3) := by decide +kernel
theorem dX8_counters_18 : decode cX8_counters 18 = .ok (.aload_n 0, 1) := by decide +kernel
theorem dX8_counters_19 : decode cX8_counters 19 = .ok (.iconst 0, 1) := by decide +kernel
theorem dX8_counters_20 : decode cX8_counters 20 = .ok (.iload_n 1, 1) := by decide +kernel
theorem dX8_counters_21 : decode cX8_counters 21 = .ok (.invokevirtual 76, 3) := by decide +kernel
theorem dX8_counters_24 : decode cX8_counters 24 = .ok (.ireturn, 1) := by decide +kernel
theorem dX8_canMask_0 : decode cX8_canMask 0 = .ok (.iload_n 0, 1) := by decide +kernel
theorem dX8_canMask_1 : decode cX8_canMask 1 = .ok (.invokestatic 79, 3) := by decide +kernel
theorem dX8_canMask_4 : decode cX8_canMask 4 = .ok (.ifCond .eq 17, 3) := by decide +kernel
theorem dX8_canMask_7 : decode cX8_canMask 7 = .ok (.iload_n 1, 1) := by decide +kernel
theorem dX8_canMask_8 : decode cX8_canMask 8 = .ok (.iconst 0, 1) := by decide +kernel
theorem dX8_canMask_9 : decode cX8_canMask 9 = .ok (.bipush 15, 2) := by decide +kernel
theorem dX8_canMask_11 : decode cX8_canMask 11 = .ok (.invokestatic 51, 3) := by decide +kernel
theorem dX8_canMask_14 : decode cX8_canMask 14 = .ok (.ifCond .eq 7, 3) := by decide +kernel
theorem dX8_canMask_17 : decode cX8_canMask 17 = .ok (.iconst 1, 1) := by decide +kernel
theorem dX8_canMask_18 : decode cX8_canMask 18 = .ok (.goto 4, 3) := by decide +kernel
theorem dX8_canMask_21 : decode cX8_canMask 21 = .ok (.iconst 0, 1) := by decide +kernel
theorem dX8_canMask_22 : decode cX8_canMask 22 = .ok (.ireturn, 1) := by decide +kernel
theorem dX8_masks_0 : decode cX8_masks 0 = .ok (.iload_n 1, 1) := by decide +kernel
theorem dX8_masks_1 : decode cX8_masks 1 = .ok (.iload_n 2, 1) := by decide +kernel
theorem dX8_masks_2 : decode cX8_masks 2 = .ok (.invokestatic 82, 3) := by decide +kernel
theorem dX8_masks_5 : decode cX8_masks 5 = .ok (.ifCond .ne 8, 3) := by decide +kernel
theorem dX8_masks_8 : decode cX8_masks 8 = .ok (.aload_n 0, 1) := by decide +kernel
theorem dX8_masks_9 : decode cX8_masks 9 = .ok (.invokevirtual 70, 3) := by decide +kernel
theorem dX8_masks_12 : decode cX8_masks 12 = .ok (.ireturn, 1) := by decide +kernel
theorem dX8_masks_13 : decode cX8_masks 13 = .ok (.aload_n 0, 1) := by decide +kernel
theorem dX8_masks_14 : decode cX8_masks 14 = .ok (.invokevirtual 73, 3) := by decide +kernel
theorem dX8_masks_17 : decode cX8_masks 17 = .ok (.aload_n 0, 1) := by decide +kernel
theorem dX8_masks_18 : decode cX8_masks 18 = .ok (.iconst 1, 1) := by decide +kernel
theorem dX8_masks_19 : decode cX8_masks 19 = .ok (.iload_n 1, 1) := by decide +kernel
theorem dX8_masks_20 : decode cX8_masks 20 = .ok (.iadd, 1) := by decide +kernel
theorem dX8_masks_21 : decode cX8_masks 21 = .ok (.iload_n 2, 1) := by decide +kernel
theorem dX8_masks_22 : decode cX8_masks 22 = .ok (.invokevirtual 76, 3) := by decide +kernel
theorem dX8_masks_25 : decode cX8_masks 25 = .ok (.ireturn, 1) := by decide +kernel
theorem dX8_canRate_0 : decode cX8_canRate 0 = .ok (.aload_n 0, 1) := by decide +kernel
theorem dX8_canRate_1 : decode cX8_canRate 1 = .ok (.iload_n 1, 1) := by decide +kernel
theorem dX8_canRate_2 : decode cX8_canRate 2 = .ok (.invokevirtual 86, 3) := by decide +kernel
theorem dX8_canRate_5 : decode cX8_canRate 5 = .ok (.ifCond .eq 24, 3) := by decide +kernel
theorem dX8_canRate_8 : decode cX8_canRate 8 = .ok (.iload_n 2, 1) := by decide +kernel
theorem dX8_canRate_9 : decode cX8_canRate 9 = .ok (.invokestatic 79, 3) := by decide +kernel
theorem dX8_canRate_12 : decode cX8_canRate 12 = .ok (.ifCond .eq 17, 3) := by decide +kernel
theorem dX8_canRate_15 : decode cX8_canRate 15 = .ok (.iload_n 3, 1) := by decide +kernel
theorem dX8_canRate_16 : decode cX8_canRate 16 = .ok (.iconst 0, 1) := by decide +kernel
theorem dX8_canRate_17 : decode cX8_canRate 17 = .ok (.bipush 99, 2) := by decide +kernel
theorem dX8_canRate_19 : decode cX8_canRate 19 = .ok (.invokestatic 51, 3) := by decide +kernel
theorem dX8_canRate_22 : decode cX8_canRate 22 = .ok (.ifCond .eq 7, 3) := by decide +kernel
theorem dX8_canRate_25 : decode cX8_canRate 25 = .ok (.iconst 1, 1) := by decide +kernel
theorem dX8_canRate_26 : decode cX8_canRate 26 = .ok (.goto 4, 3) := by decide +kernel
theorem dX8_canRate_29 : decode cX8_canRate 29 = .ok (.iconst 0, 1) := by decide +kernel
theorem dX8_canRate_30 : decode cX8_canRate 30 = .ok (.ireturn, 1) := by decide +kernel
theorem dX8_rates_0 : decode cX8_rates 0 = .ok (.aload_n 0, 1) := by decide +kernel
theorem dX8_rates_1 : decode cX8_rates 1 = .ok (.iload_n 1, 1) := by decide +kernel
theorem dX8_rates_2 : decode cX8_rates 2 = .ok (.iload_n 2, 1) := by decide +kernel
theorem dX8_rates_3 : decode cX8_rates 3 = .ok (.iload_n 3, 1) := by decide +kernel
theorem dX8_rates_4 : decode cX8_rates 4 = .ok (.invokevirtual 89, 3) := by decide +kernel
theorem dX8_rates_7 : decode cX8_rates 7 = .ok (.ifCond .ne 8, 3) := by decide +kernel
theorem dX8_rates_10 : decode cX8_rates 10 = .ok (.aload_n 0, 1) := by decide +kernel
theorem dX8_rates_11 : decode cX8_rates 11 = .ok (.invokevirtual 70, 3) := by decide +kernel
theorem dX8_rates_14 : decode cX8_rates 14 = .ok (.ireturn, 1) := by decide +kernel
theorem dX8_rates_15 : decode cX8_rates 15 = .ok (.aload_n 0, 1) := by decide +kernel
theorem dX8_rates_16 : decode cX8_rates 16 = .ok (.invokevirtual 73, 3) := by decide +kernel
theorem dX8_rates_19 : decode cX8_rates 19 = .ok (.aload_n 0, 1) := by decide +kernel
theorem dX8_rates_20 : decode cX8_rates 20 = .ok (.iload_n 1, 1) := by decide +kernel
theorem dX8_rates_21 : decode cX8_rates 21 = .ok (.invokestatic 67, 3) := by decide +kernel
theorem dX8_rates_24 : decode cX8_rates 24 = .ok (.iconst 2, 1) := by decide +kernel
theorem dX8_rates_25 : decode cX8_rates 25 = .ok (.iadd, 1) := by decide +kernel
theorem dX8_rates_26 : decode cX8_rates 26 = .ok (.iload_n 2, 1) := by decide +kernel
theorem dX8_rates_27 : decode cX8_rates 27 = .ok (.iadd, 1) := by decide +kernel
theorem dX8_rates_28 : decode cX8_rates 28 = .ok (.iload_n 3, 1) := by decide +kernel
theorem dX8_rates_29 : decode cX8_rates 29 = .ok (.invokevirtual 76, 3) := by decide +kernel
theorem dX8_rates_32 : decode cX8_rates 32 = .ok (.ireturn, 1) := by decide +kernel
theorem dX8_hasEnded_0 : decode cX8_hasEnded 0 = .ok (.aload_n 0, 1) := by decide +kernel
theorem dX8_hasEnded_1 : decode cX8_hasEnded 1 = .ok (.getfield 7, 3) := by decide +kernel
theorem dX8_hasEnded_4 : decode cX8_hasEnded 4 = .ok (.iload_n 1, 1) := by decide +kernel
theorem dX8_hasEnded_5 : decode cX8_hasEnded 5 = .ok (.invokestatic 67, 3) := by decide +kernel
theorem dX8_hasEnded_8 : decode cX8_hasEnded 8 = .ok (.iconst 1, 1) := by decide +kernel
theorem dX8_hasEnded_9 : decode cX8_hasEnded 9 = .ok (.iadd, 1) := by decide +kernel
theorem dX8_hasEnded_10 : decode cX8_hasEnded 10 = .ok (.iaload, 1) := by decide +kernel
theorem dX8_hasEnded_11 : decode cX8_hasEnded 11 = .ok (.iconst 1, 1) := by decide +kernel
theorem dX8_hasEnded_12 : decode cX8_hasEnded 12 = .ok (.if_icmp .ne 7, 3) := by decide +kernel
theorem dX8_hasEnded_15 : decode cX8_hasEnded 15 = .ok (.iconst 1, 1) := by decide +kernel
theorem dX8_hasEnded_16 : decode cX8_hasEnded 16 = .ok (.goto 4, 3) := by decide +kernel
theorem dX8_hasEnded_19 : decode cX8_hasEnded 19 = .ok (.iconst 0, 1) := by decide +kernel
theorem dX8_hasEnded_20 : decode cX8_hasEnded 20 = .ok (.ireturn, 1) := by decide +kernel
theorem dX8_comesOf_0 : decode cX8_comesOf 0 = .ok (.aload_n 0, 1) := by decide +kernel
theorem dX8_comesOf_1 : decode cX8_comesOf 1 = .ok (.getfield 7, 3) := by decide +kernel
theorem dX8_comesOf_4 : decode cX8_comesOf 4 = .ok (.bipush 9, 2) := by decide +kernel
theorem dX8_comesOf_6 : decode cX8_comesOf 6 = .ok (.iaload, 1) := by decide +kernel
theorem dX8_comesOf_7 : decode cX8_comesOf 7 = .ok (.invokestatic 67, 3) := by decide +kernel
theorem dX8_comesOf_10 : decode cX8_comesOf 10 = .ok (.istore_n 2, 1) := by decide +kernel
theorem dX8_comesOf_11 : decode cX8_comesOf 11 = .ok (.aload_n 0, 1) := by decide +kernel
theorem dX8_comesOf_12 : decode cX8_comesOf 12 = .ok (.getfield 7, 3) := by decide +kernel
theorem dX8_comesOf_15 : decode cX8_comesOf 15 = .ok (.iload_n 2, 1) := by decide +kernel
theorem dX8_comesOf_16 : decode cX8_comesOf 16 = .ok (.iload_n 1, 1) := by decide +kernel
theorem dX8_comesOf_17 : decode cX8_comesOf 17 = .ok (.iastore, 1) := by decide +kernel
theorem dX8_comesOf_18 : decode cX8_comesOf 18 = .ok (.aload_n 0, 1) := by decide +kernel
theorem dX8_comesOf_19 : decode cX8_comesOf 19 = .ok (.getfield 7, 3) := by decide +kernel
theorem dX8_comesOf_22 : decode cX8_comesOf 22 = .ok (.iload_n 2, 1) := by decide +kernel
theorem dX8_comesOf_23 : decode cX8_comesOf 23 = .ok (.iconst 1, 1) := by decide +kernel
theorem dX8_comesOf_24 : decode cX8_comesOf 24 = .ok (.iadd, 1) := by decide +kernel
theorem dX8_comesOf_25 : decode cX8_comesOf 25 = .ok (.iconst 0, 1) := by decide +kernel
theorem dX8_comesOf_26 : decode cX8_comesOf 26 = .ok (.iastore, 1) := by decide +kernel
theorem dX8_comesOf_27 : decode cX8_comesOf 27 = .ok (.iconst 0, 1) := by decide +kernel
theorem dX8_comesOf_28 : decode cX8_comesOf 28 = .ok (.istore_n 3, 1) := by decide +kernel
theorem dX8_comesOf_29 : decode cX8_comesOf 29 = .ok (.iload_n 3, 1) := by decide +kernel
theorem dX8_comesOf_30 : decode cX8_comesOf 30 = .ok (.bipush 8, 2) := by decide +kernel
theorem dX8_comesOf_32 : decode cX8_comesOf 32 = .ok (.if_icmp .ge 25, 3) := by decide +kernel
theorem dX8_comesOf_35 : decode cX8_comesOf 35 = .ok (.aload_n 0, 1) := by decide +kernel
theorem dX8_comesOf_36 : decode cX8_comesOf 36 = .ok (.getfield 7, 3) := by decide +kernel
theorem dX8_comesOf_39 : decode cX8_comesOf 39 = .ok (.iload_n 2, 1) := by decide +kernel
theorem dX8_comesOf_40 : decode cX8_comesOf 40 = .ok (.iconst 2, 1) := by decide +kernel
theorem dX8_comesOf_41 : decode cX8_comesOf 41 = .ok (.iadd, 1) := by decide +kernel
theorem dX8_comesOf_42 : decode cX8_comesOf 42 = .ok (.iload_n 3, 1) := by decide +kernel
theorem dX8_comesOf_43 : decode cX8_comesOf 43 = .ok (.iadd, 1) := by decide +kernel
theorem dX8_comesOf_44 : decode cX8_comesOf 44 = .ok (.aload_n 0, 1) := by decide +kernel
theorem dX8_comesOf_45 : decode cX8_comesOf 45 = .ok (.iload_n 1, 1) := by decide +kernel
theorem dX8_comesOf_46 : decode cX8_comesOf 46 = .ok (.iload_n 3, 1) := by decide +kernel
theorem dX8_comesOf_47 : decode cX8_comesOf 47 = .ok (.invokevirtual 92, 3) := by decide +kernel
theorem dX8_comesOf_50 : decode cX8_comesOf 50 = .ok (.iastore, 1) := by decide +kernel
theorem dX8_comesOf_51 : decode cX8_comesOf 51 = .ok (.iinc 3 1, 3) := by decide +kernel
theorem dX8_comesOf_54 : decode cX8_comesOf 54 = .ok (.goto (-25), 3) := by decide +kernel
theorem dX8_comesOf_57 : decode cX8_comesOf 57 = .ok (.aload_n 0, 1) := by decide +kernel
theorem dX8_comesOf_58 : decode cX8_comesOf 58 = .ok (.getfield 7, 3) := by decide +kernel
theorem dX8_comesOf_61 : decode cX8_comesOf 61 = .ok (.bipush 9, 2) := by decide +kernel
theorem dX8_comesOf_63 : decode cX8_comesOf 63 = .ok (.dup2, 1) := by decide +kernel
theorem dX8_comesOf_64 : decode cX8_comesOf 64 = .ok (.iaload, 1) := by decide +kernel
theorem dX8_comesOf_65 : decode cX8_comesOf 65 = .ok (.iconst 1, 1) := by decide +kernel
theorem dX8_comesOf_66 : decode cX8_comesOf 66 = .ok (.iadd, 1) := by decide +kernel
theorem dX8_comesOf_67 : decode cX8_comesOf 67 = .ok (.iastore, 1) := by decide +kernel
theorem dX8_comesOf_68 : decode cX8_comesOf 68 = .ok (.aload_n 0, 1) := by decide +kernel
theorem dX8_comesOf_69 : decode cX8_comesOf 69 = .ok (.getfield 7, 3) := by decide +kernel
theorem dX8_comesOf_72 : decode cX8_comesOf 72 = .ok (.bipush 9, 2) := by decide +kernel
theorem dX8_comesOf_74 : decode cX8_comesOf 74 = .ok (.iaload, 1) := by decide +kernel
theorem dX8_comesOf_75 : decode cX8_comesOf 75 = .ok (.iconst 1, 1) := by decide +kernel
theorem dX8_comesOf_76 : decode cX8_comesOf 76 = .ok (.isub, 1) := by decide +kernel
theorem dX8_comesOf_77 : decode cX8_comesOf 77 = .ok (.ireturn, 1) := by decide +kernel
theorem dX8_forks_0 : decode cX8_forks 0 = .ok (.aload_n 0, 1) := by decide +kernel
theorem dX8_forks_1 : decode cX8_forks 1 = .ok (.iload_n 1, 1) := by decide +kernel
theorem dX8_forks_2 : decode cX8_forks 2 = .ok (.invokevirtual 86, 3) := by decide +kernel
theorem dX8_forks_5 : decode cX8_forks 5 = .ok (.ifCond .ne 8, 3) := by decide +kernel
theorem dX8_forks_8 : decode cX8_forks 8 = .ok (.aload_n 0, 1) := by decide +kernel
theorem dX8_forks_9 : decode cX8_forks 9 = .ok (.invokevirtual 70, 3) := by decide +kernel
theorem dX8_forks_12 : decode cX8_forks 12 = .ok (.ireturn, 1) := by decide +kernel
theorem dX8_forks_13 : decode cX8_forks 13 = .ok (.aload_n 0, 1) := by decide +kernel
theorem dX8_forks_14 : decode cX8_forks 14 = .ok (.iload_n 1, 1) := by decide +kernel
theorem dX8_forks_15 : decode cX8_forks 15 = .ok (.invokevirtual 95, 3) := by decide +kernel
theorem dX8_forks_18 : decode cX8_forks 18 = .ok (.ifCond .eq 8, 3) := by decide +kernel
theorem dX8_forks_21 : decode cX8_forks 21 = .ok (.aload_n 0, 1) := by decide +kernel
theorem dX8_forks_22 : decode cX8_forks 22 = .ok (.invokevirtual 47, 3) := by decide +kernel
theorem dX8_forks_25 : decode cX8_forks 25 = .ok (.ireturn, 1) := by decide +kernel
theorem dX8_forks_26 : decode cX8_forks 26 = .ok (.aload_n 0, 1) := by decide +kernel
theorem dX8_forks_27 : decode cX8_forks 27 = .ok (.getfield 7, 3) := by decide +kernel
theorem dX8_forks_30 : decode cX8_forks 30 = .ok (.bipush 9, 2) := by decide +kernel
theorem dX8_forks_32 : decode cX8_forks 32 = .ok (.iaload, 1) := by decide +kernel
theorem dX8_forks_33 : decode cX8_forks 33 = .ok (.bipush 6, 2) := by decide +kernel
theorem dX8_forks_35 : decode cX8_forks 35 = .ok (.if_icmp .ne 8, 3) := by decide +kernel
theorem dX8_forks_38 : decode cX8_forks 38 = .ok (.aload_n 0, 1) := by decide +kernel
theorem dX8_forks_39 : decode cX8_forks 39 = .ok (.invokevirtual 98, 3) := by decide +kernel
theorem dX8_forks_42 : decode cX8_forks 42 = .ok (.ireturn, 1) := by decide +kernel
theorem dX8_forks_43 : decode cX8_forks 43 = .ok (.aload_n 0, 1) := by decide +kernel
theorem dX8_forks_44 : decode cX8_forks 44 = .ok (.invokevirtual 73, 3) := by decide +kernel
theorem dX8_forks_47 : decode cX8_forks 47 = .ok (.aload_n 0, 1) := by decide +kernel
theorem dX8_forks_48 : decode cX8_forks 48 = .ok (.iload_n 1, 1) := by decide +kernel
theorem dX8_forks_49 : decode cX8_forks 49 = .ok (.invokevirtual 101, 3) := by decide +kernel
theorem dX8_forks_52 : decode cX8_forks 52 = .ok (.ireturn, 1) := by decide +kernel
theorem dX8_canEnd_0 : decode cX8_canEnd 0 = .ok (.aload_n 0, 1) := by decide +kernel
theorem dX8_canEnd_1 : decode cX8_canEnd 1 = .ok (.iload_n 1, 1) := by decide +kernel
theorem dX8_canEnd_2 : decode cX8_canEnd 2 = .ok (.invokevirtual 95, 3) := by decide +kernel
theorem dX8_canEnd_5 : decode cX8_canEnd 5 = .ok (.ifCond .ne 7, 3) := by decide +kernel
theorem dX8_canEnd_8 : decode cX8_canEnd 8 = .ok (.iconst 1, 1) := by decide +kernel
theorem dX8_canEnd_9 : decode cX8_canEnd 9 = .ok (.goto 4, 3) := by decide +kernel
theorem dX8_canEnd_12 : decode cX8_canEnd 12 = .ok (.iconst 0, 1) := by decide +kernel
theorem dX8_canEnd_13 : decode cX8_canEnd 13 = .ok (.istore_n 2, 1) := by decide +kernel
theorem dX8_canEnd_14 : decode cX8_canEnd 14 = .ok (.iconst 1, 1) := by decide +kernel
theorem dX8_canEnd_15 : decode cX8_canEnd 15 = .ok (.istore_n 3, 1) := by decide +kernel
theorem dX8_canEnd_16 : decode cX8_canEnd 16 = .ok (.iload_n 3, 1) := by decide +kernel
theorem dX8_canEnd_17 : decode cX8_canEnd 17 = .ok (.aload_n 0, 1) := by decide +kernel
theorem dX8_canEnd_18 : decode cX8_canEnd 18 = .ok (.getfield 7, 3) := by decide +kernel
theorem dX8_canEnd_21 : decode cX8_canEnd 21 = .ok (.bipush 9, 2) := by decide +kernel
theorem dX8_canEnd_23 : decode cX8_canEnd 23 = .ok (.iaload, 1) := by decide +kernel
theorem dX8_canEnd_24 : decode cX8_canEnd 24 = .ok (.if_icmp .ge 40, 3) := by decide +kernel
theorem dX8_canEnd_27 : decode cX8_canEnd 27 = .ok (.iload_n 2, 1) := by decide +kernel
theorem dX8_canEnd_28 : decode cX8_canEnd 28 = .ok (.ifCond .eq 28, 3) := by decide +kernel
theorem dX8_canEnd_31 : decode cX8_canEnd 31 = .ok (.aload_n 0, 1) := by decide +kernel
theorem dX8_canEnd_32 : decode cX8_canEnd 32 = .ok (.getfield 7, 3) := by decide +kernel
theorem dX8_canEnd_35 : decode cX8_canEnd 35 = .ok (.iload_n 3, 1) := by decide +kernel
theorem dX8_canEnd_36 : decode cX8_canEnd 36 = .ok (.invokestatic 67, 3) := by decide +kernel
theorem dX8_canEnd_39 : decode cX8_canEnd 39 = .ok (.iaload, 1) := by decide +kernel
theorem dX8_canEnd_40 : decode cX8_canEnd 40 = .ok (.iload_n 1, 1) := by decide +kernel
theorem dX8_canEnd_41 : decode cX8_canEnd 41 = .ok (.if_icmp .ne 11, 3) := by decide +kernel
theorem dX8_canEnd_44 : decode cX8_canEnd 44 = .ok (.aload_n 0, 1) := by decide +kernel
theorem dX8_canEnd_45 : decode cX8_canEnd 45 = .ok (.iload_n 3, 1) := by decide +kernel
theorem dX8_canEnd_46 : decode cX8_canEnd 46 = .ok (.invokevirtual 95, 3) := by decide +kernel
theorem dX8_canEnd_49 : decode cX8_canEnd 49 = .ok (.ifCond .eq 7, 3) := by decide +kernel
theorem dX8_canEnd_52 : decode cX8_canEnd 52 = .ok (.iconst 1, 1) := by decide +kernel
theorem dX8_canEnd_53 : decode cX8_canEnd 53 = .ok (.goto 4, 3) := by decide +kernel
theorem dX8_canEnd_56 : decode cX8_canEnd 56 = .ok (.iconst 0, 1) := by decide +kernel
theorem dX8_canEnd_57 : decode cX8_canEnd 57 = .ok (.istore_n 2, 1) := by decide +kernel
theorem dX8_canEnd_58 : decode cX8_canEnd 58 = .ok (.iinc 3 1, 3) := by decide +kernel
theorem dX8_canEnd_61 : decode cX8_canEnd 61 = .ok (.goto (-45), 3) := by decide +kernel
theorem dX8_canEnd_64 : decode cX8_canEnd 64 = .ok (.iload_n 2, 1) := by decide +kernel
theorem dX8_canEnd_65 : decode cX8_canEnd 65 = .ok (.ireturn, 1) := by decide +kernel
theorem dX8_moves_0 : decode cX8_moves 0 = .ok (.aload_n 0, 1) := by decide +kernel
theorem dX8_moves_1 : decode cX8_moves 1 = .ok (.getfield 7, 3) := by decide +kernel
theorem dX8_moves_4 : decode cX8_moves 4 = .ok (.iload_n 2, 1) := by decide +kernel
theorem dX8_moves_5 : decode cX8_moves 5 = .ok (.dup2, 1) := by decide +kernel
theorem dX8_moves_6 : decode cX8_moves 6 = .ok (.iaload, 1) := by decide +kernel
theorem dX8_moves_7 : decode cX8_moves 7 = .ok (.aload_n 0, 1) := by decide +kernel
theorem dX8_moves_8 : decode cX8_moves 8 = .ok (.getfield 7, 3) := by decide +kernel
theorem dX8_moves_11 : decode cX8_moves 11 = .ok (.iload_n 1, 1) := by decide +kernel
theorem dX8_moves_12 : decode cX8_moves 12 = .ok (.iaload, 1) := by decide +kernel
theorem dX8_moves_13 : decode cX8_moves 13 = .ok (.iadd, 1) := by decide +kernel
theorem dX8_moves_14 : decode cX8_moves 14 = .ok (.iastore, 1) := by decide +kernel
theorem dX8_moves_15 : decode cX8_moves 15 = .ok (.aload_n 0, 1) := by decide +kernel
theorem dX8_moves_16 : decode cX8_moves 16 = .ok (.getfield 7, 3) := by decide +kernel
theorem dX8_moves_19 : decode cX8_moves 19 = .ok (.iload_n 1, 1) := by decide +kernel
theorem dX8_moves_20 : decode cX8_moves 20 = .ok (.iconst 0, 1) := by decide +kernel
theorem dX8_moves_21 : decode cX8_moves 21 = .ok (.iastore, 1) := by decide +kernel
theorem dX8_moves_22 : decode cX8_moves 22 = .ok (.return_, 1) := by decide +kernel
theorem dX8_exits_0 : decode cX8_exits 0 = .ok (.aload_n 0, 1) := by decide +kernel
theorem dX8_exits_1 : decode cX8_exits 1 = .ok (.iload_n 1, 1) := by decide +kernel
theorem dX8_exits_2 : decode cX8_exits 2 = .ok (.invokevirtual 86, 3) := by decide +kernel
theorem dX8_exits_5 : decode cX8_exits 5 = .ok (.ifCond .eq 7, 3) := by decide +kernel
theorem dX8_exits_8 : decode cX8_exits 8 = .ok (.iload_n 1, 1) := by decide +kernel
theorem dX8_exits_9 : decode cX8_exits 9 = .ok (.ifCond .ne 8, 3) := by decide +kernel
theorem dX8_exits_12 : decode cX8_exits 12 = .ok (.aload_n 0, 1) := by decide +kernel
theorem dX8_exits_13 : decode cX8_exits 13 = .ok (.invokevirtual 70, 3) := by decide +kernel
theorem dX8_exits_16 : decode cX8_exits 16 = .ok (.ireturn, 1) := by decide +kernel
theorem dX8_exits_17 : decode cX8_exits 17 = .ok (.aload_n 0, 1) := by decide +kernel
theorem dX8_exits_18 : decode cX8_exits 18 = .ok (.iload_n 1, 1) := by decide +kernel
theorem dX8_exits_19 : decode cX8_exits 19 = .ok (.invokevirtual 104, 3) := by decide +kernel
theorem dX8_exits_22 : decode cX8_exits 22 = .ok (.ifCond .ne 8, 3) := by decide +kernel
theorem dX8_exits_25 : decode cX8_exits 25 = .ok (.aload_n 0, 1) := by decide +kernel
theorem dX8_exits_26 : decode cX8_exits 26 = .ok (.invokevirtual 47, 3) := by decide +kernel
theorem dX8_exits_29 : decode cX8_exits 29 = .ok (.ireturn, 1) := by decide +kernel
theorem dX8_exits_30 : decode cX8_exits 30 = .ok (.aload_n 0, 1) := by decide +kernel
theorem dX8_exits_31 : decode cX8_exits 31 = .ok (.invokevirtual 73, 3) := by decide +kernel
theorem dX8_exits_34 : decode cX8_exits 34 = .ok (.aload_n 0, 1) := by decide +kernel
theorem dX8_exits_35 : decode cX8_exits 35 = .ok (.getfield 7, 3) := by decide +kernel
theorem dX8_exits_38 : decode cX8_exits 38 = .ok (.iload_n 1, 1) := by decide +kernel
theorem dX8_exits_39 : decode cX8_exits 39 = .ok (.invokestatic 67, 3) := by decide +kernel
theorem dX8_exits_42 : decode cX8_exits 42 = .ok (.iaload, 1) := by decide +kernel
theorem dX8_exits_43 : decode cX8_exits 43 = .ok (.istore_n 2, 1) := by decide +kernel
theorem dX8_exits_44 : decode cX8_exits 44 = .ok (.aload_n 0, 1) := by decide +kernel
theorem dX8_exits_45 : decode cX8_exits 45 = .ok (.getfield 7, 3) := by decide +kernel
theorem dX8_exits_48 : decode cX8_exits 48 = .ok (.iload_n 1, 1) := by decide +kernel
theorem dX8_exits_49 : decode cX8_exits 49 = .ok (.invokestatic 67, 3) := by decide +kernel
theorem dX8_exits_52 : decode cX8_exits 52 = .ok (.iconst 1, 1) := by decide +kernel
theorem dX8_exits_53 : decode cX8_exits 53 = .ok (.iadd, 1) := by decide +kernel
theorem dX8_exits_54 : decode cX8_exits 54 = .ok (.iconst 1, 1) := by decide +kernel
theorem dX8_exits_55 : decode cX8_exits 55 = .ok (.iastore, 1) := by decide +kernel
theorem dX8_exits_56 : decode cX8_exits 56 = .ok (.iconst 0, 1) := by decide +kernel
theorem dX8_exits_57 : decode cX8_exits 57 = .ok (.istore_n 3, 1) := by decide +kernel
theorem dX8_exits_58 : decode cX8_exits 58 = .ok (.iload_n 3, 1) := by decide +kernel
theorem dX8_exits_59 : decode cX8_exits 59 = .ok (.aload_n 0, 1) := by decide +kernel
theorem dX8_exits_60 : decode cX8_exits 60 = .ok (.getfield 7, 3) := by decide +kernel
theorem dX8_exits_63 : decode cX8_exits 63 = .ok (.bipush 70, 2) := by decide +kernel
theorem dX8_exits_65 : decode cX8_exits 65 = .ok (.iaload, 1) := by decide +kernel
theorem dX8_exits_66 : decode cX8_exits 66 = .ok (.if_icmp .ge 89, 3) := by decide +kernel
theorem dX8_exits_69 : decode cX8_exits 69 = .ok (.iload_n 3, 1) := by decide +kernel
theorem dX8_exits_70 : decode cX8_exits 70 = .ok (.invokestatic 55, 3) := by decide +kernel
theorem dX8_exits_73 : decode cX8_exits 73 = .ok (.istore 4, 2) := by decide +kernel
theorem dX8_exits_75 : decode cX8_exits 75 = .ok (.aload_n 0, 1) := by decide +kernel
theorem dX8_exits_76 : decode cX8_exits 76 = .ok (.iload 4, 2) := by decide +kernel
theorem dX8_exits_78 : decode cX8_exits 78 = .ok (.bipush 46, 2) := by decide +kernel
theorem dX8_exits_80 : decode cX8_exits 80 = .ok (.iadd, 1) := by decide +kernel
theorem dX8_exits_81 : decode cX8_exits 81 = .ok (.iload_n 1, 1) := by decide +kernel
theorem dX8_exits_82 : decode cX8_exits 82 = .ok (.iadd, 1) := by decide +kernel
theorem dX8_exits_83 : decode cX8_exits 83 = .ok (.iload 4, 2) := by decide +kernel
theorem dX8_exits_85 : decode cX8_exits 85 = .ok (.bipush 46, 2) := by decide +kernel
theorem dX8_exits_87 : decode cX8_exits 87 = .ok (.iadd, 1) := by decide +kernel
theorem dX8_exits_88 : decode cX8_exits 88 = .ok (.iload_n 2, 1) := by decide +kernel
theorem dX8_exits_89 : decode cX8_exits 89 = .ok (.iadd, 1) := by decide +kernel
theorem dX8_exits_90 : decode cX8_exits 90 = .ok (.invokevirtual 107, 3) := by decide +kernel
theorem dX8_exits_93 : decode cX8_exits 93 = .ok (.aload_n 0, 1) := by decide +kernel
theorem dX8_exits_94 : decode cX8_exits 94 = .ok (.iload 4, 2) := by decide +kernel
theorem dX8_exits_96 : decode cX8_exits 96 = .ok (.bipush 52, 2) := by decide +kernel
theorem dX8_exits_98 : decode cX8_exits 98 = .ok (.iadd, 1) := by decide +kernel
theorem dX8_exits_99 : decode cX8_exits 99 = .ok (.iload_n 1, 1) := by decide +kernel
theorem dX8_exits_100 : decode cX8_exits 100 = .ok (.iadd, 1) := by decide +kernel
theorem dX8_exits_101 : decode cX8_exits 101 = .ok (.iload 4, 2) := by decide +kernel
theorem dX8_exits_103 : decode cX8_exits 103 = .ok (.bipush 52, 2) := by decide +kernel
theorem dX8_exits_105 : decode cX8_exits 105 = .ok (.iadd, 1) := by decide +kernel
theorem dX8_exits_106 : decode cX8_exits 106 = .ok (.iload_n 2, 1) := by decide +kernel
theorem dX8_exits_107 : decode cX8_exits 107 = .ok (.iadd, 1) := by decide +kernel
theorem dX8_exits_108 : decode cX8_exits 108 = .ok (.invokevirtual 107, 3) := by decide +kernel
theorem dX8_exits_111 : decode cX8_exits 111 = .ok (.iconst 0, 1) := by decide +kernel
theorem dX8_exits_112 : decode cX8_exits 112 = .ok (.istore 5, 2) := by decide +kernel
theorem dX8_exits_114 : decode cX8_exits 114 = .ok (.iload 5, 2) := by decide +kernel
theorem dX8_exits_116 : decode cX8_exits 116 = .ok (.aload_n 0, 1) := by decide +kernel
theorem dX8_exits_117 : decode cX8_exits 117 = .ok (.iload_n 3, 1) := by decide +kernel
theorem dX8_exits_118 : decode cX8_exits 118 = .ok (.iconst 5, 1) := by decide +kernel
theorem dX8_exits_119 : decode cX8_exits 119 = .ok (.invokevirtual 63, 3) := by decide +kernel
theorem dX8_exits_122 : decode cX8_exits 122 = .ok (.if_icmp .ge 27, 3) := by decide +kernel
theorem dX8_exits_125 : decode cX8_exits 125 = .ok (.aload_n 0, 1) := by decide +kernel
theorem dX8_exits_126 : decode cX8_exits 126 = .ok (.iload_n 3, 1) := by decide +kernel
theorem dX8_exits_127 : decode cX8_exits 127 = .ok (.iload 5, 2) := by decide +kernel
theorem dX8_exits_129 : decode cX8_exits 129 = .ok (.iload_n 1, 1) := by decide +kernel
theorem dX8_exits_130 : decode cX8_exits 130 = .ok (.invokestatic 111, 3) := by decide +kernel
theorem dX8_exits_133 : decode cX8_exits 133 = .ok (.iload_n 3, 1) := by decide +kernel
theorem dX8_exits_134 : decode cX8_exits 134 = .ok (.iload 5, 2) := by decide +kernel
theorem dX8_exits_136 : decode cX8_exits 136 = .ok (.iload_n 2, 1) := by decide +kernel
theorem dX8_exits_137 : decode cX8_exits 137 = .ok (.invokestatic 111, 3) := by decide +kernel
theorem dX8_exits_140 : decode cX8_exits 140 = .ok (.invokevirtual 107, 3) := by decide +kernel
theorem dX8_exits_143 : decode cX8_exits 143 = .ok (.iinc 5 1, 3) := by decide +kernel
theorem dX8_exits_146 : decode cX8_exits 146 = .ok (.goto (-32), 3) := by decide +kernel
theorem dX8_exits_149 : decode cX8_exits 149 = .ok (.iinc 3 1, 3) := by decide +kernel
theorem dX8_exits_152 : decode cX8_exits 152 = .ok (.goto (-94), 3) := by decide +kernel
theorem dX8_exits_155 : decode cX8_exits 155 = .ok (.iload_n 2, 1) := by decide +kernel
theorem dX8_exits_156 : decode cX8_exits 156 = .ok (.ireturn, 1) := by decide +kernel
theorem dX8_canGroup_0 : decode cX8_canGroup 0 = .ok (.aload_n 0, 1) := by decide +kernel
theorem dX8_canGroup_1 : decode cX8_canGroup 1 = .ok (.iload_n 1, 1) := by decide +kernel
theorem dX8_canGroup_2 : decode cX8_canGroup 2 = .ok (.invokevirtual 86, 3) := by decide +kernel
theorem dX8_canGroup_5 : decode cX8_canGroup 5 = .ok (.ifCond .eq 43, 3) := by decide +kernel
theorem dX8_canGroup_8 : decode cX8_canGroup 8 = .ok (.iload_n 2, 1) := by decide +kernel
theorem dX8_canGroup_9 : decode cX8_canGroup 9 = .ok (.iconst 1, 1) := by decide +kernel
theorem dX8_canGroup_10 : decode cX8_canGroup 10 = .ok (.iconst 5, 1) := by decide +kernel
theorem dX8_canGroup_11 : decode cX8_canGroup 11 = .ok (.invokestatic 51, 3) := by decide +kernel
theorem dX8_canGroup_14 : decode cX8_canGroup 14 = .ok (.ifCond .eq 34, 3) := by decide +kernel
theorem dX8_canGroup_17 : decode cX8_canGroup 17 = .ok (.iload_n 3, 1) := by decide +kernel
theorem dX8_canGroup_18 : decode cX8_canGroup 18 = .ok (.iconst 0, 1) := by decide +kernel
theorem dX8_canGroup_19 : decode cX8_canGroup 19 = .ok (.iconst 1, 1) := by decide +kernel
theorem dX8_canGroup_20 : decode cX8_canGroup 20 = .ok (.invokestatic 51, 3) := by decide +kernel
theorem dX8_canGroup_23 : decode cX8_canGroup 23 = .ok (.ifCond .eq 25, 3) := by decide +kernel
theorem dX8_canGroup_26 : decode cX8_canGroup 26 = .ok (.iload 4, 2) := by decide +kernel
theorem dX8_canGroup_28 : decode cX8_canGroup 28 = .ok (.iconst 0, 1) := by decide +kernel
theorem dX8_canGroup_29 : decode cX8_canGroup 29 = .ok (.iconst 1, 1) := by decide +kernel
theorem dX8_canGroup_30 : decode cX8_canGroup 30 = .ok (.invokestatic 51, 3) := by decide +kernel
theorem dX8_canGroup_33 : decode cX8_canGroup 33 = .ok (.ifCond .eq 15, 3) := by decide +kernel
theorem dX8_canGroup_36 : decode cX8_canGroup 36 = .ok (.iload 5, 2) := by decide +kernel
theorem dX8_canGroup_38 : decode cX8_canGroup 38 = .ok (.invokestatic 79, 3) := by decide +kernel
theorem dX8_canGroup_41 : decode cX8_canGroup 41 = .ok (.ifCond .eq 7, 3) := by decide +kernel
theorem dX8_canGroup_44 : decode cX8_canGroup 44 = .ok (.iconst 1, 1) := by decide +kernel
theorem dX8_canGroup_45 : decode cX8_canGroup 45 = .ok (.goto 4, 3) := by decide +kernel
theorem dX8_canGroup_48 : decode cX8_canGroup 48 = .ok (.iconst 0, 1) := by decide +kernel
theorem dX8_canGroup_49 : decode cX8_canGroup 49 = .ok (.ireturn, 1) := by decide +kernel
theorem dX8_addsEvent_0 : decode cX8_addsEvent 0 = .ok (.aload_n 0, 1) := by decide +kernel
theorem dX8_addsEvent_1 : decode cX8_addsEvent 1 = .ok (.iload_n 1, 1) := by decide +kernel
theorem dX8_addsEvent_2 : decode cX8_addsEvent 2 = .ok (.iconst 5, 1) := by decide +kernel
theorem dX8_addsEvent_3 : decode cX8_addsEvent 3 = .ok (.invokevirtual 63, 3) := by decide +kernel
theorem dX8_addsEvent_6 : decode cX8_addsEvent 6 = .ok (.istore_n 3, 1) := by decide +kernel
theorem dX8_addsEvent_7 : decode cX8_addsEvent 7 = .ok (.iload_n 1, 1) := by decide +kernel
theorem dX8_addsEvent_8 : decode cX8_addsEvent 8 = .ok (.iload_n 3, 1) := by decide +kernel
theorem dX8_addsEvent_9 : decode cX8_addsEvent 9 = .ok (.invokestatic 115, 3) := by decide +kernel
theorem dX8_addsEvent_12 : decode cX8_addsEvent 12 = .ok (.istore 4, 2) := by decide +kernel
theorem dX8_addsEvent_14 : decode cX8_addsEvent 14 = .ok (.aload_n 0, 1) := by decide +kernel
theorem dX8_addsEvent_15 : decode cX8_addsEvent 15 = .ok (.getfield 7, 3) := by decide +kernel
theorem dX8_addsEvent_18 : decode cX8_addsEvent 18 = .ok (.iload 4, 2) := by decide +kernel
theorem dX8_addsEvent_20 : decode cX8_addsEvent 20 = .ok (.iload_n 2, 1) := by decide +kernel
theorem dX8_addsEvent_21 : decode cX8_addsEvent 21 = .ok (.iastore, 1) := by decide +kernel
theorem dX8_addsEvent_22 : decode cX8_addsEvent 22 = .ok (.aload_n 0, 1) := by decide +kernel
theorem dX8_addsEvent_23 : decode cX8_addsEvent 23 = .ok (.getfield 7, 3) := by decide +kernel
theorem dX8_addsEvent_26 : decode cX8_addsEvent 26 = .ok (.iload 4, 2) := by decide +kernel
theorem dX8_addsEvent_28 : decode cX8_addsEvent 28 = .ok (.iconst 1, 1) := by decide +kernel
theorem dX8_addsEvent_29 : decode cX8_addsEvent 29 = .ok (.iadd, 1) := by decide +kernel
theorem dX8_addsEvent_30 : decode cX8_addsEvent 30 = .ok (.iconst 0, 1) := by decide +kernel
theorem dX8_addsEvent_31 : decode cX8_addsEvent 31 = .ok (.iastore, 1) := by decide +kernel
theorem dX8_addsEvent_32 : decode cX8_addsEvent 32 = .ok (.aload_n 0, 1) := by decide +kernel
theorem dX8_addsEvent_33 : decode cX8_addsEvent 33 = .ok (.getfield 7, 3) := by decide +kernel
theorem dX8_addsEvent_36 : decode cX8_addsEvent 36 = .ok (.iload 4, 2) := by decide +kernel
theorem dX8_addsEvent_38 : decode cX8_addsEvent 38 = .ok (.iconst 2, 1) := by decide +kernel
theorem dX8_addsEvent_39 : decode cX8_addsEvent 39 = .ok (.iadd, 1) := by decide +kernel
theorem dX8_addsEvent_40 : decode cX8_addsEvent 40 = .ok (.iconst (-1), 1) := by decide +kernel
theorem dX8_addsEvent_41 : decode cX8_addsEvent 41 = .ok (.iastore, 1) := by decide +kernel
theorem dX8_addsEvent_42 : decode cX8_addsEvent 42 = .ok (.aload_n 0, 1) := by decide +kernel
theorem dX8_addsEvent_43 : decode cX8_addsEvent 43 = .ok (.getfield 7, 3) := by decide +kernel
theorem dX8_addsEvent_46 : decode cX8_addsEvent 46 = .ok (.iload_n 1, 1) := by decide +kernel
theorem dX8_addsEvent_47 : decode cX8_addsEvent 47 = .ok (.invokestatic 55, 3) := by decide +kernel
theorem dX8_addsEvent_50 : decode cX8_addsEvent 50 = .ok (.iconst 5, 1) := by decide +kernel
theorem dX8_addsEvent_51 : decode cX8_addsEvent 51 = .ok (.iadd, 1) := by decide +kernel
theorem dX8_addsEvent_52 : decode cX8_addsEvent 52 = .ok (.dup2, 1) := by decide +kernel
theorem dX8_addsEvent_53 : decode cX8_addsEvent 53 = .ok (.iaload, 1) := by decide +kernel
theorem dX8_addsEvent_54 : decode cX8_addsEvent 54 = .ok (.iconst 1, 1) := by decide +kernel
theorem dX8_addsEvent_55 : decode cX8_addsEvent 55 = .ok (.iadd, 1) := by decide +kernel
theorem dX8_addsEvent_56 : decode cX8_addsEvent 56 = .ok (.iastore, 1) := by decide +kernel
theorem dX8_addsEvent_57 : decode cX8_addsEvent 57 = .ok (.iload_n 3, 1) := by decide +kernel
theorem dX8_addsEvent_58 : decode cX8_addsEvent 58 = .ok (.ireturn, 1) := by decide +kernel
theorem dX8_comesGroup_0 : decode cX8_comesGroup 0 = .ok (.aload_n 0, 1) := by decide +kernel
theorem dX8_comesGroup_1 : decode cX8_comesGroup 1 = .ok (.getfield 7, 3) := by decide +kernel
theorem dX8_comesGroup_4 : decode cX8_comesGroup 4 = .ok (.bipush 70, 2) := by decide +kernel
theorem dX8_comesGroup_6 : decode cX8_comesGroup 6 = .ok (.iaload, 1) := by decide +kernel
theorem dX8_comesGroup_7 : decode cX8_comesGroup 7 = .ok (.istore 6, 2) := by decide +kernel
theorem dX8_comesGroup_9 : decode cX8_comesGroup 9 = .ok (.iload 6, 2) := by decide +kernel
theorem dX8_comesGroup_11 : decode cX8_comesGroup 11 = .ok (.invokestatic 55, 3) := by decide +kernel
theorem dX8_comesGroup_14 : decode cX8_comesGroup 14 = .ok (.istore 7, 2) := by decide +kernel
theorem dX8_comesGroup_16 : decode cX8_comesGroup 16 = .ok (.iconst 0, 1) := by decide +kernel
theorem dX8_comesGroup_17 : decode cX8_comesGroup 17 = .ok (.istore 8, 2) := by decide +kernel
theorem dX8_comesGroup_19 : decode cX8_comesGroup 19 = .ok (.iload 8, 2) := by decide +kernel
theorem dX8_comesGroup_21 : decode cX8_comesGroup 21 = .ok (.bipush 58, 2) := by decide +kernel
theorem dX8_comesGroup_23 : decode cX8_comesGroup 23 = .ok (.if_icmp .ge 20, 3) := by decide +kernel
theorem dX8_comesGroup_26 : decode cX8_comesGroup 26 = .ok (.aload_n 0, 1) := by decide +kernel
theorem dX8_comesGroup_27 : decode cX8_comesGroup 27 = .ok (.getfield 7, 3) := by decide +kernel
theorem dX8_comesGroup_30 : decode cX8_comesGroup 30 = .ok (.iload 7, 2) := by decide +kernel
theorem dX8_comesGroup_32 : decode cX8_comesGroup 32 = .ok (.iload 8, 2) := by decide +kernel
theorem dX8_comesGroup_34 : decode cX8_comesGroup 34 = .ok (.iadd, 1) := by decide +kernel
theorem dX8_comesGroup_35 : decode cX8_comesGroup 35 = .ok (.iconst 0, 1) := by decide +kernel
theorem dX8_comesGroup_36 : decode cX8_comesGroup 36 = .ok (.iastore, 1) := by decide +kernel
theorem dX8_comesGroup_37 : decode cX8_comesGroup 37 = .ok (.iinc 8 1, 3) := by decide +kernel
theorem dX8_comesGroup_40 : decode cX8_comesGroup 40 = .ok (.goto (-21), 3) := by decide +kernel
theorem dX8_comesGroup_43 : decode cX8_comesGroup 43 = .ok (.aload_n 0, 1) := by decide +kernel
theorem dX8_comesGroup_44 : decode cX8_comesGroup 44 = .ok (.getfield 7, 3) := by decide +kernel
theorem dX8_comesGroup_47 : decode cX8_comesGroup 47 = .ok (.iload 7, 2) := by decide +kernel
theorem dX8_comesGroup_49 : decode cX8_comesGroup 49 = .ok (.iload_n 1, 1) := by decide +kernel
theorem dX8_comesGroup_50 : decode cX8_comesGroup 50 = .ok (.iastore, 1) := by decide +kernel
theorem dX8_comesGroup_51 : decode cX8_comesGroup 51 = .ok (.aload_n 0, 1) := by decide +kernel
theorem dX8_comesGroup_52 : decode cX8_comesGroup 52 = .ok (.getfield 7, 3) := by decide +kernel
theorem dX8_comesGroup_55 : decode cX8_comesGroup 55 = .ok (.iload 7, 2) := by decide +kernel
theorem dX8_comesGroup_57 : decode cX8_comesGroup 57 = .ok (.iconst 1, 1) := by decide +kernel
theorem dX8_comesGroup_58 : decode cX8_comesGroup 58 = .ok (.iadd, 1) := by decide +kernel
theorem dX8_comesGroup_59 : decode cX8_comesGroup 59 = .ok (.iload_n 2, 1) := by decide +kernel
theorem dX8_comesGroup_60 : decode cX8_comesGroup 60 = .ok (.iastore, 1) := by decide +kernel
theorem dX8_comesGroup_61 : decode cX8_comesGroup 61 = .ok (.aload_n 0, 1) := by decide +kernel
theorem dX8_comesGroup_62 : decode cX8_comesGroup 62 = .ok (.getfield 7, 3) := by decide +kernel
theorem dX8_comesGroup_65 : decode cX8_comesGroup 65 = .ok (.iload 7, 2) := by decide +kernel
theorem dX8_comesGroup_67 : decode cX8_comesGroup 67 = .ok (.iconst 2, 1) := by decide +kernel
theorem dX8_comesGroup_68 : decode cX8_comesGroup 68 = .ok (.iadd, 1) := by decide +kernel
theorem dX8_comesGroup_69 : decode cX8_comesGroup 69 = .ok (.iload_n 3, 1) := by decide +kernel
theorem dX8_comesGroup_70 : decode cX8_comesGroup 70 = .ok (.iastore, 1) := by decide +kernel
theorem dX8_comesGroup_71 : decode cX8_comesGroup 71 = .ok (.aload_n 0, 1) := by decide +kernel
theorem dX8_comesGroup_72 : decode cX8_comesGroup 72 = .ok (.getfield 7, 3) := by decide +kernel
theorem dX8_comesGroup_75 : decode cX8_comesGroup 75 = .ok (.iload 7, 2) := by decide +kernel
theorem dX8_comesGroup_77 : decode cX8_comesGroup 77 = .ok (.iconst 3, 1) := by decide +kernel
theorem dX8_comesGroup_78 : decode cX8_comesGroup 78 = .ok (.iadd, 1) := by decide +kernel
theorem dX8_comesGroup_79 : decode cX8_comesGroup 79 = .ok (.iload 4, 2) := by decide +kernel
theorem dX8_comesGroup_81 : decode cX8_comesGroup 81 = .ok (.iastore, 1) := by decide +kernel
theorem dX8_comesGroup_82 : decode cX8_comesGroup 82 = .ok (.aload_n 0, 1) := by decide +kernel
theorem dX8_comesGroup_83 : decode cX8_comesGroup 83 = .ok (.getfield 7, 3) := by decide +kernel
theorem dX8_comesGroup_86 : decode cX8_comesGroup 86 = .ok (.iload 7, 2) := by decide +kernel
theorem dX8_comesGroup_88 : decode cX8_comesGroup 88 = .ok (.iconst 4, 1) := by decide +kernel
theorem dX8_comesGroup_89 : decode cX8_comesGroup 89 = .ok (.iadd, 1) := by decide +kernel
theorem dX8_comesGroup_90 : decode cX8_comesGroup 90 = .ok (.iconst 1, 1) := by decide +kernel
theorem dX8_comesGroup_91 : decode cX8_comesGroup 91 = .ok (.iastore, 1) := by decide +kernel
theorem dX8_comesGroup_92 : decode cX8_comesGroup 92 = .ok (.aload_n 0, 1) := by decide +kernel
theorem dX8_comesGroup_93 : decode cX8_comesGroup 93 = .ok (.getfield 7, 3) := by decide +kernel
theorem dX8_comesGroup_96 : decode cX8_comesGroup 96 = .ok (.bipush 70, 2) := by decide +kernel
theorem dX8_comesGroup_98 : decode cX8_comesGroup 98 = .ok (.dup2, 1) := by decide +kernel
theorem dX8_comesGroup_99 : decode cX8_comesGroup 99 = .ok (.iaload, 1) := by decide +kernel
theorem dX8_comesGroup_100 : decode cX8_comesGroup 100 = .ok (.iconst 1, 1) := by decide +kernel
theorem dX8_comesGroup_101 : decode cX8_comesGroup 101 = .ok (.iadd, 1) := by decide +kernel
theorem dX8_comesGroup_102 : decode cX8_comesGroup 102 = .ok (.iastore, 1) := by decide +kernel
theorem dX8_comesGroup_103 : decode cX8_comesGroup 103 = .ok (.iload_n 3, 1) := by decide +kernel
theorem dX8_comesGroup_104 : decode cX8_comesGroup 104 = .ok (.ifCond .ne 34, 3) := by decide +kernel
theorem dX8_comesGroup_107 : decode cX8_comesGroup 107 = .ok (.aload_n 0, 1) := by decide +kernel
theorem dX8_comesGroup_108 : decode cX8_comesGroup 108 = .ok (.getfield 7, 3) := by decide +kernel
theorem dX8_comesGroup_111 : decode cX8_comesGroup 111 = .ok (.sipush 419, 3) := by decide +kernel
theorem dX8_comesGroup_114 : decode cX8_comesGroup 114 = .ok (.dup2, 1) := by decide +kernel
theorem dX8_comesGroup_115 : decode cX8_comesGroup 115 = .ok (.iaload, 1) := by decide +kernel
theorem dX8_comesGroup_116 : decode cX8_comesGroup 116 = .ok (.iconst 1, 1) := by decide +kernel
theorem dX8_comesGroup_117 : decode cX8_comesGroup 117 = .ok (.iadd, 1) := by decide +kernel
theorem dX8_comesGroup_118 : decode cX8_comesGroup 118 = .ok (.iastore, 1) := by decide +kernel
theorem dX8_comesGroup_119 : decode cX8_comesGroup 119 = .ok (.aload_n 0, 1) := by decide +kernel
theorem dX8_comesGroup_120 : decode cX8_comesGroup 120 = .ok (.getfield 7, 3) := by decide +kernel
theorem dX8_comesGroup_123 : decode cX8_comesGroup 123 = .ok (.sipush 419, 3) := by decide +kernel
theorem dX8_comesGroup_126 : decode cX8_comesGroup 126 = .ok (.aload_n 0, 1) := by decide +kernel
theorem dX8_comesGroup_127 : decode cX8_comesGroup 127 = .ok (.getfield 7, 3) := by decide +kernel
theorem dX8_comesGroup_130 : decode cX8_comesGroup 130 = .ok (.sipush 419, 3) := by decide +kernel
theorem dX8_comesGroup_133 : decode cX8_comesGroup 133 = .ok (.iaload, 1) := by decide +kernel
theorem dX8_comesGroup_134 : decode cX8_comesGroup 134 = .ok (.iadd, 1) := by decide +kernel
theorem dX8_comesGroup_135 : decode cX8_comesGroup 135 = .ok (.iload 6, 2) := by decide +kernel
theorem dX8_comesGroup_137 : decode cX8_comesGroup 137 = .ok (.iastore, 1) := by decide +kernel
theorem dX8_comesGroup_138 : decode cX8_comesGroup 138 = .ok (.aload_n 0, 1) := by decide +kernel
theorem dX8_comesGroup_139 : decode cX8_comesGroup 139 = .ok (.iload 6, 2) := by decide +kernel
theorem dX8_comesGroup_141 : decode cX8_comesGroup 141 = .ok (.iload 5, 2) := by decide +kernel
theorem dX8_comesGroup_143 : decode cX8_comesGroup 143 = .ok (.invokevirtual 118, 3) := by decide +kernel
theorem dX8_comesGroup_146 : decode cX8_comesGroup 146 = .ok (.ifCond .ge 7, 3) := by decide +kernel
theorem dX8_comesGroup_149 : decode cX8_comesGroup 149 = .ok (.iconst (-1), 1) := by decide +kernel
theorem dX8_comesGroup_150 : decode cX8_comesGroup 150 = .ok (.goto 5, 3) := by decide +kernel
theorem dX8_comesGroup_153 : decode cX8_comesGroup 153 = .ok (.iload 6, 2) := by decide +kernel
theorem dX8_comesGroup_155 : decode cX8_comesGroup 155 = .ok (.ireturn, 1) := by decide +kernel
theorem dX8_group_0 : decode cX8_group 0 = .ok (.aload_n 0, 1) := by decide +kernel
theorem dX8_group_1 : decode cX8_group 1 = .ok (.iload_n 1, 1) := by decide +kernel
theorem dX8_group_2 : decode cX8_group 2 = .ok (.iload_n 2, 1) := by decide +kernel
theorem dX8_group_3 : decode cX8_group 3 = .ok (.iload_n 3, 1) := by decide +kernel
theorem dX8_group_4 : decode cX8_group 4 = .ok (.iload 4, 2) := by decide +kernel
theorem dX8_group_6 : decode cX8_group 6 = .ok (.iload 5, 2) := by decide +kernel
theorem dX8_group_8 : decode cX8_group 8 = .ok (.invokevirtual 121, 3) := by decide +kernel
theorem dX8_group_11 : decode cX8_group 11 = .ok (.ifCond .ne 8, 3) := by decide +kernel
theorem dX8_group_14 : decode cX8_group 14 = .ok (.aload_n 0, 1) := by decide +kernel
theorem dX8_group_15 : decode cX8_group 15 = .ok (.invokevirtual 70, 3) := by decide +kernel
theorem dX8_group_18 : decode cX8_group 18 = .ok (.ireturn, 1) := by decide +kernel
theorem dX8_group_19 : decode cX8_group 19 = .ok (.aload_n 0, 1) := by decide +kernel
theorem dX8_group_20 : decode cX8_group 20 = .ok (.getfield 7, 3) := by decide +kernel
theorem dX8_group_23 : decode cX8_group 23 = .ok (.bipush 70, 2) := by decide +kernel
theorem dX8_group_25 : decode cX8_group 25 = .ok (.iaload, 1) := by decide +kernel
theorem dX8_group_26 : decode cX8_group 26 = .ok (.bipush 6, 2) := by decide +kernel
theorem dX8_group_28 : decode cX8_group 28 = .ok (.if_icmp .ne 8, 3) := by decide +kernel
theorem dX8_group_31 : decode cX8_group 31 = .ok (.aload_n 0, 1) := by decide +kernel
theorem dX8_group_32 : decode cX8_group 32 = .ok (.invokevirtual 98, 3) := by decide +kernel
theorem dX8_group_35 : decode cX8_group 35 = .ok (.ireturn, 1) := by decide +kernel
theorem dX8_group_36 : decode cX8_group 36 = .ok (.aload_n 0, 1) := by decide +kernel
theorem dX8_group_37 : decode cX8_group 37 = .ok (.invokevirtual 73, 3) := by decide +kernel
theorem dX8_group_40 : decode cX8_group 40 = .ok (.aload_n 0, 1) := by decide +kernel
theorem dX8_group_41 : decode cX8_group 41 = .ok (.iload_n 1, 1) := by decide +kernel
theorem dX8_group_42 : decode cX8_group 42 = .ok (.iload_n 2, 1) := by decide +kernel
theorem dX8_group_43 : decode cX8_group 43 = .ok (.iload_n 3, 1) := by decide +kernel
theorem dX8_group_44 : decode cX8_group 44 = .ok (.iload 4, 2) := by decide +kernel
theorem dX8_group_46 : decode cX8_group 46 = .ok (.iload 5, 2) := by decide +kernel
theorem dX8_group_48 : decode cX8_group 48 = .ok (.invokevirtual 125, 3) := by decide +kernel
theorem dX8_group_51 : decode cX8_group 51 = .ok (.ireturn, 1) := by decide +kernel
theorem dX8_event_0 : decode cX8_event 0 = .ok (.aload_n 0, 1) := by decide +kernel
theorem dX8_event_1 : decode cX8_event 1 = .ok (.iload_n 1, 1) := by decide +kernel
theorem dX8_event_2 : decode cX8_event 2 = .ok (.invokevirtual 59, 3) := by decide +kernel
theorem dX8_event_5 : decode cX8_event 5 = .ok (.ifCond .eq 10, 3) := by decide +kernel
theorem dX8_event_8 : decode cX8_event 8 = .ok (.iload_n 2, 1) := by decide +kernel
theorem dX8_event_9 : decode cX8_event 9 = .ok (.invokestatic 79, 3) := by decide +kernel
theorem dX8_event_12 : decode cX8_event 12 = .ok (.ifCond .ne 8, 3) := by decide +kernel
theorem dX8_event_15 : decode cX8_event 15 = .ok (.aload_n 0, 1) := by decide +kernel
theorem dX8_event_16 : decode cX8_event 16 = .ok (.invokevirtual 70, 3) := by decide +kernel
theorem dX8_event_19 : decode cX8_event 19 = .ok (.ireturn, 1) := by decide +kernel
theorem dX8_event_20 : decode cX8_event 20 = .ok (.aload_n 0, 1) := by decide +kernel
theorem dX8_event_21 : decode cX8_event 21 = .ok (.iload_n 1, 1) := by decide +kernel
theorem dX8_event_22 : decode cX8_event 22 = .ok (.iconst 5, 1) := by decide +kernel
theorem dX8_event_23 : decode cX8_event 23 = .ok (.invokevirtual 63, 3) := by decide +kernel
theorem dX8_event_26 : decode cX8_event 26 = .ok (.iconst 4, 1) := by decide +kernel
theorem dX8_event_27 : decode cX8_event 27 = .ok (.if_icmp .ne 8, 3) := by decide +kernel
theorem dX8_event_30 : decode cX8_event 30 = .ok (.aload_n 0, 1) := by decide +kernel
theorem dX8_event_31 : decode cX8_event 31 = .ok (.invokevirtual 98, 3) := by decide +kernel
theorem dX8_event_34 : decode cX8_event 34 = .ok (.ireturn, 1) := by decide +kernel
theorem dX8_event_35 : decode cX8_event 35 = .ok (.aload_n 0, 1) := by decide +kernel
theorem dX8_event_36 : decode cX8_event 36 = .ok (.invokevirtual 73, 3) := by decide +kernel
theorem dX8_event_39 : decode cX8_event 39 = .ok (.aload_n 0, 1) := by decide +kernel
theorem dX8_event_40 : decode cX8_event 40 = .ok (.iload_n 1, 1) := by decide +kernel
theorem dX8_event_41 : decode cX8_event 41 = .ok (.iload_n 2, 1) := by decide +kernel
theorem dX8_event_42 : decode cX8_event 42 = .ok (.invokevirtual 118, 3) := by decide +kernel
theorem dX8_event_45 : decode cX8_event 45 = .ok (.ireturn, 1) := by decide +kernel
theorem dX8_periods_0 : decode cX8_periods 0 = .ok (.aload_n 0, 1) := by decide +kernel
theorem dX8_periods_1 : decode cX8_periods 1 = .ok (.iload_n 1, 1) := by decide +kernel
theorem dX8_periods_2 : decode cX8_periods 2 = .ok (.invokevirtual 59, 3) := by decide +kernel
theorem dX8_periods_5 : decode cX8_periods 5 = .ok (.ifCond .eq 19, 3) := by decide +kernel
theorem dX8_periods_8 : decode cX8_periods 8 = .ok (.iload_n 2, 1) := by decide +kernel
theorem dX8_periods_9 : decode cX8_periods 9 = .ok (.ifCond .eq 20, 3) := by decide +kernel
theorem dX8_periods_12 : decode cX8_periods 12 = .ok (.iload_n 2, 1) := by decide +kernel
theorem dX8_periods_13 : decode cX8_periods 13 = .ok (.bipush 30, 2) := by decide +kernel
theorem dX8_periods_15 : decode cX8_periods 15 = .ok (.sipush 200, 3) := by decide +kernel
theorem dX8_periods_18 : decode cX8_periods 18 = .ok (.invokestatic 51, 3) := by decide +kernel
theorem dX8_periods_21 : decode cX8_periods 21 = .ok (.ifCond .ne 8, 3) := by decide +kernel
theorem dX8_periods_24 : decode cX8_periods 24 = .ok (.aload_n 0, 1) := by decide +kernel
theorem dX8_periods_25 : decode cX8_periods 25 = .ok (.invokevirtual 70, 3) := by decide +kernel
theorem dX8_periods_28 : decode cX8_periods 28 = .ok (.ireturn, 1) := by decide +kernel
theorem dX8_periods_29 : decode cX8_periods 29 = .ok (.aload_n 0, 1) := by decide +kernel
theorem dX8_periods_30 : decode cX8_periods 30 = .ok (.invokevirtual 73, 3) := by decide +kernel
theorem dX8_periods_33 : decode cX8_periods 33 = .ok (.aload_n 0, 1) := by decide +kernel
theorem dX8_periods_34 : decode cX8_periods 34 = .ok (.getfield 7, 3) := by decide +kernel
theorem dX8_periods_37 : decode cX8_periods 37 = .ok (.iload_n 1, 1) := by decide +kernel
theorem dX8_periods_38 : decode cX8_periods 38 = .ok (.invokestatic 55, 3) := by decide +kernel
theorem dX8_periods_41 : decode cX8_periods 41 = .ok (.bipush 8, 2) := by decide +kernel
theorem dX8_periods_43 : decode cX8_periods 43 = .ok (.iadd, 1) := by decide +kernel
theorem dX8_periods_44 : decode cX8_periods 44 = .ok (.iconst 0, 1) := by decide +kernel
theorem dX8_periods_45 : decode cX8_periods 45 = .ok (.iastore, 1) := by decide +kernel
theorem dX8_periods_46 : decode cX8_periods 46 = .ok (.aload_n 0, 1) := by decide +kernel
theorem dX8_periods_47 : decode cX8_periods 47 = .ok (.iload_n 1, 1) := by decide +kernel
theorem dX8_periods_48 : decode cX8_periods 48 = .ok (.invokestatic 55, 3) := by decide +kernel
theorem dX8_periods_51 : decode cX8_periods 51 = .ok (.bipush 7, 2) := by decide +kernel
theorem dX8_periods_53 : decode cX8_periods 53 = .ok (.iadd, 1) := by decide +kernel
theorem dX8_periods_54 : decode cX8_periods 54 = .ok (.iload_n 2, 1) := by decide +kernel
theorem dX8_periods_55 : decode cX8_periods 55 = .ok (.invokevirtual 76, 3) := by decide +kernel
theorem dX8_periods_58 : decode cX8_periods 58 = .ok (.ireturn, 1) := by decide +kernel
theorem dX8_skids_0 : decode cX8_skids 0 = .ok (.iload_n 1, 1) := by decide +kernel
theorem dX8_skids_1 : decode cX8_skids 1 = .ok (.iconst 0, 1) := by decide +kernel
theorem dX8_skids_2 : decode cX8_skids 2 = .ok (.iconst 3, 1) := by decide +kernel
theorem dX8_skids_3 : decode cX8_skids 3 = .ok (.invokestatic 51, 3) := by decide +kernel
theorem dX8_skids_6 : decode cX8_skids 6 = .ok (.ifCond .ne 8, 3) := by decide +kernel
theorem dX8_skids_9 : decode cX8_skids 9 = .ok (.aload_n 0, 1) := by decide +kernel
theorem dX8_skids_10 : decode cX8_skids 10 = .ok (.invokevirtual 70, 3) := by decide +kernel
theorem dX8_skids_13 : decode cX8_skids 13 = .ok (.ireturn, 1) := by decide +kernel
theorem dX8_skids_14 : decode cX8_skids 14 = .ok (.aload_n 0, 1) := by decide +kernel
theorem dX8_skids_15 : decode cX8_skids 15 = .ok (.invokevirtual 73, 3) := by decide +kernel
theorem dX8_skids_18 : decode cX8_skids 18 = .ok (.aload_n 0, 1) := by decide +kernel
theorem dX8_skids_19 : decode cX8_skids 19 = .ok (.sipush 427, 3) := by decide +kernel
theorem dX8_skids_22 : decode cX8_skids 22 = .ok (.iload_n 1, 1) := by decide +kernel
theorem dX8_skids_23 : decode cX8_skids 23 = .ok (.invokevirtual 76, 3) := by decide +kernel
theorem dX8_skids_26 : decode cX8_skids 26 = .ok (.ireturn, 1) := by decide +kernel
theorem dX8_lives_0 : decode cX8_lives 0 = .ok (.aload_n 0, 1) := by decide +kernel
theorem dX8_lives_1 : decode cX8_lives 1 = .ok (.iload_n 1, 1) := by decide +kernel
theorem dX8_lives_2 : decode cX8_lives 2 = .ok (.invokevirtual 59, 3) := by decide +kernel
theorem dX8_lives_5 : decode cX8_lives 5 = .ok (.ifCond .eq 12, 3) := by decide +kernel
theorem dX8_lives_8 : decode cX8_lives 8 = .ok (.iload_n 2, 1) := by decide +kernel
theorem dX8_lives_9 : decode cX8_lives 9 = .ok (.iconst 0, 1) := by decide +kernel
theorem dX8_lives_10 : decode cX8_lives 10 = .ok (.iconst 1, 1) := by decide +kernel
theorem dX8_lives_11 : decode cX8_lives 11 = .ok (.invokestatic 51, 3) := by decide +kernel
theorem dX8_lives_14 : decode cX8_lives 14 = .ok (.ifCond .ne 8, 3) := by decide +kernel
theorem dX8_lives_17 : decode cX8_lives 17 = .ok (.aload_n 0, 1) := by decide +kernel
theorem dX8_lives_18 : decode cX8_lives 18 = .ok (.invokevirtual 70, 3) := by decide +kernel
theorem dX8_lives_21 : decode cX8_lives 21 = .ok (.ireturn, 1) := by decide +kernel
theorem dX8_lives_22 : decode cX8_lives 22 = .ok (.aload_n 0, 1) := by decide +kernel
theorem dX8_lives_23 : decode cX8_lives 23 = .ok (.invokevirtual 73, 3) := by decide +kernel
theorem dX8_lives_26 : decode cX8_lives 26 = .ok (.aload_n 0, 1) := by decide +kernel
theorem dX8_lives_27 : decode cX8_lives 27 = .ok (.iload_n 1, 1) := by decide +kernel
theorem dX8_lives_28 : decode cX8_lives 28 = .ok (.invokestatic 55, 3) := by decide +kernel
theorem dX8_lives_31 : decode cX8_lives 31 = .ok (.iconst 4, 1) := by decide +kernel
theorem dX8_lives_32 : decode cX8_lives 32 = .ok (.iadd, 1) := by decide +kernel
theorem dX8_lives_33 : decode cX8_lives 33 = .ok (.iload_n 2, 1) := by decide +kernel
theorem dX8_lives_34 : decode cX8_lives 34 = .ok (.invokevirtual 76, 3) := by decide +kernel
theorem dX8_lives_37 : decode cX8_lives 37 = .ok (.ireturn, 1) := by decide +kernel
theorem dX8_isOf_0 : decode cX8_isOf 0 = .ok (.aload_n 0, 1) := by decide +kernel
theorem dX8_isOf_1 : decode cX8_isOf 1 = .ok (.iload_n 1, 1) := by decide +kernel
theorem dX8_isOf_2 : decode cX8_isOf 2 = .ok (.iconst 0, 1) := by decide +kernel
theorem dX8_isOf_3 : decode cX8_isOf 3 = .ok (.invokevirtual 63, 3) := by decide +kernel
theorem dX8_isOf_6 : decode cX8_isOf 6 = .ok (.istore_n 3, 1) := by decide +kernel
theorem dX8_isOf_7 : decode cX8_isOf 7 = .ok (.iload_n 3, 1) := by decide +kernel
theorem dX8_isOf_8 : decode cX8_isOf 8 = .ok (.iload_n 2, 1) := by decide +kernel
theorem dX8_isOf_9 : decode cX8_isOf 9 = .ok (.if_icmp .ne 7, 3) := by decide +kernel
theorem dX8_isOf_12 : decode cX8_isOf 12 = .ok (.iconst 1, 1) := by decide +kernel
theorem dX8_isOf_13 : decode cX8_isOf 13 = .ok (.goto 4, 3) := by decide +kernel
theorem dX8_isOf_16 : decode cX8_isOf 16 = .ok (.iconst 0, 1) := by decide +kernel
theorem dX8_isOf_17 : decode cX8_isOf 17 = .ok (.istore 4, 2) := by decide +kernel
theorem dX8_isOf_19 : decode cX8_isOf 19 = .ok (.aload_n 0, 1) := by decide +kernel
theorem dX8_isOf_20 : decode cX8_isOf 20 = .ok (.getfield 7, 3) := by decide +kernel
theorem dX8_isOf_23 : decode cX8_isOf 23 = .ok (.iload_n 2, 1) := by decide +kernel
theorem dX8_isOf_24 : decode cX8_isOf 24 = .ok (.invokestatic 67, 3) := by decide +kernel
theorem dX8_isOf_27 : decode cX8_isOf 27 = .ok (.iaload, 1) := by decide +kernel
theorem dX8_isOf_28 : decode cX8_isOf 28 = .ok (.istore 5, 2) := by decide +kernel
theorem dX8_isOf_30 : decode cX8_isOf 30 = .ok (.iload 5, 2) := by decide +kernel
theorem dX8_isOf_32 : decode cX8_isOf 32 = .ok (.iconst (-1), 1) := by decide +kernel
theorem dX8_isOf_33 : decode cX8_isOf 33 = .ok (.if_icmp .eq 46, 3) := by decide +kernel
theorem dX8_isOf_36 : decode cX8_isOf 36 = .ok (.iload 4, 2) := by decide +kernel
theorem dX8_isOf_38 : decode cX8_isOf 38 = .ok (.ifCond .ne 19, 3) := by decide +kernel
theorem dX8_isOf_41 : decode cX8_isOf 41 = .ok (.aload_n 0, 1) := by decide +kernel
theorem dX8_isOf_42 : decode cX8_isOf 42 = .ok (.iload_n 1, 1) := by decide +kernel
theorem dX8_isOf_43 : decode cX8_isOf 43 = .ok (.iconst 3, 1) := by decide +kernel
theorem dX8_isOf_44 : decode cX8_isOf 44 = .ok (.invokevirtual 63, 3) := by decide +kernel
theorem dX8_isOf_47 : decode cX8_isOf 47 = .ok (.iconst 1, 1) := by decide +kernel
theorem dX8_isOf_48 : decode cX8_isOf 48 = .ok (.if_icmp .ne 13, 3) := by decide +kernel
theorem dX8_isOf_51 : decode cX8_isOf 51 = .ok (.iload 5, 2) := by decide +kernel
theorem dX8_isOf_53 : decode cX8_isOf 53 = .ok (.iload_n 3, 1) := by decide +kernel
theorem dX8_isOf_54 : decode cX8_isOf 54 = .ok (.if_icmp .ne 7, 3) := by decide +kernel
theorem dX8_isOf_57 : decode cX8_isOf 57 = .ok (.iconst 1, 1) := by decide +kernel
theorem dX8_isOf_58 : decode cX8_isOf 58 = .ok (.goto 4, 3) := by decide +kernel
theorem dX8_isOf_61 : decode cX8_isOf 61 = .ok (.iconst 0, 1) := by decide +kernel
theorem dX8_isOf_62 : decode cX8_isOf 62 = .ok (.istore 4, 2) := by decide +kernel
theorem dX8_isOf_64 : decode cX8_isOf 64 = .ok (.aload_n 0, 1) := by decide +kernel
theorem dX8_isOf_65 : decode cX8_isOf 65 = .ok (.getfield 7, 3) := by decide +kernel
theorem dX8_isOf_68 : decode cX8_isOf 68 = .ok (.iload 5, 2) := by decide +kernel
theorem dX8_isOf_70 : decode cX8_isOf 70 = .ok (.invokestatic 67, 3) := by decide +kernel
theorem dX8_isOf_73 : decode cX8_isOf 73 = .ok (.iaload, 1) := by decide +kernel
theorem dX8_isOf_74 : decode cX8_isOf 74 = .ok (.istore 5, 2) := by decide +kernel
theorem dX8_isOf_76 : decode cX8_isOf 76 = .ok (.goto (-46), 3) := by decide +kernel
theorem dX8_isOf_79 : decode cX8_isOf 79 = .ok (.iload 4, 2) := by decide +kernel
theorem dX8_isOf_81 : decode cX8_isOf 81 = .ok (.ireturn, 1) := by decide +kernel
theorem dX8_watchers_0 : decode cX8_watchers 0 = .ok (.iconst 0, 1) := by decide +kernel
theorem dX8_watchers_1 : decode cX8_watchers 1 = .ok (.istore_n 2, 1) := by decide +kernel
theorem dX8_watchers_2 : decode cX8_watchers 2 = .ok (.iconst 0, 1) := by decide +kernel
theorem dX8_watchers_3 : decode cX8_watchers 3 = .ok (.istore_n 3, 1) := by decide +kernel
theorem dX8_watchers_4 : decode cX8_watchers 4 = .ok (.iload_n 3, 1) := by decide +kernel
theorem dX8_watchers_5 : decode cX8_watchers 5 = .ok (.aload_n 0, 1) := by decide +kernel
theorem dX8_watchers_6 : decode cX8_watchers 6 = .ok (.getfield 7, 3) := by decide +kernel
theorem dX8_watchers_9 : decode cX8_watchers 9 = .ok (.bipush 70, 2) := by decide +kernel
theorem dX8_watchers_11 : decode cX8_watchers 11 = .ok (.iaload, 1) := by decide +kernel
theorem dX8_watchers_12 : decode cX8_watchers 12 = .ok (.if_icmp .ge 38, 3) := by decide +kernel
theorem dX8_watchers_15 : decode cX8_watchers 15 = .ok (.iload_n 2, 1) := by decide +kernel
theorem dX8_watchers_16 : decode cX8_watchers 16 = .ok (.aload_n 0, 1) := by decide +kernel
theorem dX8_watchers_17 : decode cX8_watchers 17 = .ok (.iload_n 3, 1) := by decide +kernel
theorem dX8_watchers_18 : decode cX8_watchers 18 = .ok (.iconst 4, 1) := by decide +kernel
theorem dX8_watchers_19 : decode cX8_watchers 19 = .ok (.invokevirtual 63, 3) := by decide +kernel
theorem dX8_watchers_22 : decode cX8_watchers 22 = .ok (.iconst 1, 1) := by decide +kernel
theorem dX8_watchers_23 : decode cX8_watchers 23 = .ok (.if_icmp .ne 18, 3) := by decide +kernel
theorem dX8_watchers_26 : decode cX8_watchers 26 = .ok (.aload_n 0, 1) := by decide +kernel
theorem dX8_watchers_27 : decode cX8_watchers 27 = .ok (.iload_n 3, 1) := by decide +kernel
theorem dX8_watchers_28 : decode cX8_watchers 28 = .ok (.iload_n 1, 1) := by decide +kernel
theorem dX8_watchers_29 : decode cX8_watchers 29 = .ok (.invokevirtual 129, 3) := by decide +kernel
theorem dX8_watchers_32 : decode cX8_watchers 32 = .ok (.ifCond .eq 9, 3) := by decide +kernel
theorem dX8_watchers_35 : decode cX8_watchers 35 = .ok (.iconst 1, 1) := by decide +kernel
theorem dX8_watchers_36 : decode cX8_watchers 36 = .ok (.iload_n 3, 1) := by decide +kernel
theorem dX8_watchers_37 : decode cX8_watchers 37 = .ok (.ishl, 1) := by decide +kernel
theorem dX8_watchers_38 : decode cX8_watchers 38 = .ok (.goto 4, 3) := by decide +kernel
theorem dX8_watchers_41 : decode cX8_watchers 41 = .ok (.iconst 0, 1) := by decide +kernel
theorem dX8_watchers_42 : decode cX8_watchers 42 = .ok (.ior, 1) := by decide +kernel
theorem dX8_watchers_43 : decode cX8_watchers 43 = .ok (.istore_n 2, 1) := by decide +kernel
theorem dX8_watchers_44 : decode cX8_watchers 44 = .ok (.iinc 3 1, 3) := by decide +kernel
theorem dX8_watchers_47 : decode cX8_watchers 47 = .ok (.goto (-43), 3) := by decide +kernel
theorem dX8_watchers_50 : decode cX8_watchers 50 = .ok (.iload_n 2, 1) := by decide +kernel
theorem dX8_watchers_51 : decode cX8_watchers 51 = .ok (.ireturn, 1) := by decide +kernel
theorem dX8_isRow_0 : decode cX8_isRow 0 = .ok (.iload_n 1, 1) := by decide +kernel
theorem dX8_isRow_1 : decode cX8_isRow 1 = .ok (.istore_n 2, 1) := by decide +kernel
theorem dX8_isRow_2 : decode cX8_isRow 2 = .ok (.iconst 0, 1) := by decide +kernel
theorem dX8_isRow_3 : decode cX8_isRow 3 = .ok (.istore_n 3, 1) := by decide +kernel
theorem dX8_isRow_4 : decode cX8_isRow 4 = .ok (.iconst 1, 1) := by decide +kernel
theorem dX8_isRow_5 : decode cX8_isRow 5 = .ok (.istore 4, 2) := by decide +kernel
theorem dX8_isRow_7 : decode cX8_isRow 7 = .ok (.aload_n 0, 1) := by decide +kernel
theorem dX8_isRow_8 : decode cX8_isRow 8 = .ok (.getfield 132, 3) := by decide +kernel
theorem dX8_isRow_11 : decode cX8_isRow 11 = .ok (.iconst 1, 1) := by decide +kernel
theorem dX8_isRow_12 : decode cX8_isRow 12 = .ok (.isub, 1) := by decide +kernel
theorem dX8_isRow_13 : decode cX8_isRow 13 = .ok (.istore 5, 2) := by decide +kernel
theorem dX8_isRow_15 : decode cX8_isRow 15 = .ok (.iload 5, 2) := by decide +kernel
theorem dX8_isRow_17 : decode cX8_isRow 17 = .ok (.ifCond .lt 88, 3) := by decide +kernel
theorem dX8_isRow_20 : decode cX8_isRow 20 = .ok (.iload_n 2, 1) := by decide +kernel
theorem dX8_isRow_21 : decode cX8_isRow 21 = .ok (.iconst 4, 1) := by decide +kernel
theorem dX8_isRow_22 : decode cX8_isRow 22 = .ok (.irem, 1) := by decide +kernel
theorem dX8_isRow_23 : decode cX8_isRow 23 = .ok (.istore 6, 2) := by decide +kernel
theorem dX8_isRow_25 : decode cX8_isRow 25 = .ok (.iload_n 2, 1) := by decide +kernel
theorem dX8_isRow_26 : decode cX8_isRow 26 = .ok (.iconst 4, 1) := by decide +kernel
theorem dX8_isRow_27 : decode cX8_isRow 27 = .ok (.idiv, 1) := by decide +kernel
theorem dX8_isRow_28 : decode cX8_isRow 28 = .ok (.istore_n 2, 1) := by decide +kernel
theorem dX8_isRow_29 : decode cX8_isRow 29 = .ok (.aload_n 0, 1) := by decide +kernel
theorem dX8_isRow_30 : decode cX8_isRow 30 = .ok (.getfield 31, 3) := by decide +kernel
theorem dX8_isRow_33 : decode cX8_isRow 33 = .ok (.iload 5, 2) := by decide +kernel
theorem dX8_isRow_35 : decode cX8_isRow 35 = .ok (.iload 6, 2) := by decide +kernel
theorem dX8_isRow_37 : decode cX8_isRow 37 = .ok (.iastore, 1) := by decide +kernel
theorem dX8_isRow_38 : decode cX8_isRow 38 = .ok (.iload 4, 2) := by decide +kernel
theorem dX8_isRow_40 : decode cX8_isRow 40 = .ok (.ifCond .eq 49, 3) := by decide +kernel
theorem dX8_isRow_43 : decode cX8_isRow 43 = .ok (.iload 6, 2) := by decide +kernel
theorem dX8_isRow_45 : decode cX8_isRow 45 = .ok (.aload_n 0, 1) := by decide +kernel
theorem dX8_isRow_46 : decode cX8_isRow 46 = .ok (.getfield 7, 3) := by decide +kernel
theorem dX8_isRow_49 : decode cX8_isRow 49 = .ok (.iconst 0, 1) := by decide +kernel
theorem dX8_isRow_50 : decode cX8_isRow 50 = .ok (.iaload, 1) := by decide +kernel
theorem dX8_isRow_51 : decode cX8_isRow 51 = .ok (.if_icmp .ge 38, 3) := by decide +kernel
theorem dX8_isRow_54 : decode cX8_isRow 54 = .ok (.aload_n 0, 1) := by decide +kernel
theorem dX8_isRow_55 : decode cX8_isRow 55 = .ok (.getfield 7, 3) := by decide +kernel
theorem dX8_isRow_58 : decode cX8_isRow 58 = .ok (.iconst 1, 1) := by decide +kernel
theorem dX8_isRow_59 : decode cX8_isRow 59 = .ok (.aload_n 0, 1) := by decide +kernel
theorem dX8_isRow_60 : decode cX8_isRow 60 = .ok (.getfield 25, 3) := by decide +kernel
theorem dX8_isRow_63 : decode cX8_isRow 63 = .ok (.iload 5, 2) := by decide +kernel
theorem dX8_isRow_65 : decode cX8_isRow 65 = .ok (.iaload, 1) := by decide +kernel
theorem dX8_isRow_66 : decode cX8_isRow 66 = .ok (.iadd, 1) := by decide +kernel
theorem dX8_isRow_67 : decode cX8_isRow 67 = .ok (.iaload, 1) := by decide +kernel
theorem dX8_isRow_68 : decode cX8_isRow 68 = .ok (.iload 6, 2) := by decide +kernel
theorem dX8_isRow_70 : decode cX8_isRow 70 = .ok (.invokestatic 135, 3) := by decide +kernel
theorem dX8_isRow_73 : decode cX8_isRow 73 = .ok (.ifCond .eq 16, 3) := by decide +kernel
theorem dX8_isRow_76 : decode cX8_isRow 76 = .ok (.iload_n 3, 1) := by decide +kernel
theorem dX8_isRow_77 : decode cX8_isRow 77 = .ok (.iload 6, 2) := by decide +kernel
theorem dX8_isRow_79 : decode cX8_isRow 79 = .ok (.invokestatic 135, 3) := by decide +kernel
theorem dX8_isRow_82 : decode cX8_isRow 82 = .ok (.ifCond .ne 7, 3) := by decide +kernel
theorem dX8_isRow_85 : decode cX8_isRow 85 = .ok (.iconst 1, 1) := by decide +kernel
theorem dX8_isRow_86 : decode cX8_isRow 86 = .ok (.goto 4, 3) := by decide +kernel
theorem dX8_isRow_89 : decode cX8_isRow 89 = .ok (.iconst 0, 1) := by decide +kernel
theorem dX8_isRow_90 : decode cX8_isRow 90 = .ok (.istore 4, 2) := by decide +kernel
theorem dX8_isRow_92 : decode cX8_isRow 92 = .ok (.iload_n 3, 1) := by decide +kernel
theorem dX8_isRow_93 : decode cX8_isRow 93 = .ok (.iconst 1, 1) := by decide +kernel
theorem dX8_isRow_94 : decode cX8_isRow 94 = .ok (.iload 6, 2) := by decide +kernel
theorem dX8_isRow_96 : decode cX8_isRow 96 = .ok (.ishl, 1) := by decide +kernel
theorem dX8_isRow_97 : decode cX8_isRow 97 = .ok (.ior, 1) := by decide +kernel
theorem dX8_isRow_98 : decode cX8_isRow 98 = .ok (.istore_n 3, 1) := by decide +kernel
theorem dX8_isRow_99 : decode cX8_isRow 99 = .ok (.iinc 5 (-1), 3) := by decide +kernel
theorem dX8_isRow_102 : decode cX8_isRow 102 = .ok (.goto (-87), 3) := by decide +kernel
theorem dX8_isRow_105 : decode cX8_isRow 105 = .ok (.iload 4, 2) := by decide +kernel
theorem dX8_isRow_107 : decode cX8_isRow 107 = .ok (.ireturn, 1) := by decide +kernel
theorem dX8_canSit_0 : decode cX8_canSit 0 = .ok (.iconst 1, 1) := by decide +kernel
theorem dX8_canSit_1 : decode cX8_canSit 1 = .ok (.istore_n 1, 1) := by decide +kernel
theorem dX8_canSit_2 : decode cX8_canSit 2 = .ok (.iconst 0, 1) := by decide +kernel
theorem dX8_canSit_3 : decode cX8_canSit 3 = .ok (.istore_n 2, 1) := by decide +kernel
theorem dX8_canSit_4 : decode cX8_canSit 4 = .ok (.iload_n 2, 1) := by decide +kernel
theorem dX8_canSit_5 : decode cX8_canSit 5 = .ok (.aload_n 0, 1) := by decide +kernel
theorem dX8_canSit_6 : decode cX8_canSit 6 = .ok (.getfield 132, 3) := by decide +kernel
theorem dX8_canSit_9 : decode cX8_canSit 9 = .ok (.if_icmp .ge 13, 3) := by decide +kernel
theorem dX8_canSit_12 : decode cX8_canSit 12 = .ok (.iload_n 1, 1) := by decide +kernel
theorem dX8_canSit_13 : decode cX8_canSit 13 = .ok (.iconst 4, 1) := by decide +kernel
theorem dX8_canSit_14 : decode cX8_canSit 14 = .ok (.imul, 1) := by decide +kernel
theorem dX8_canSit_15 : decode cX8_canSit 15 = .ok (.istore_n 1, 1) := by decide +kernel
theorem dX8_canSit_16 : decode cX8_canSit 16 = .ok (.iinc 2 1, 3) := by decide +kernel
theorem dX8_canSit_19 : decode cX8_canSit 19 = .ok (.goto (-15), 3) := by decide +kernel
theorem dX8_canSit_22 : decode cX8_canSit 22 = .ok (.iconst 0, 1) := by decide +kernel
theorem dX8_canSit_23 : decode cX8_canSit 23 = .ok (.istore_n 2, 1) := by decide +kernel
theorem dX8_canSit_24 : decode cX8_canSit 24 = .ok (.iload_n 2, 1) := by decide +kernel
theorem dX8_canSit_25 : decode cX8_canSit 25 = .ok (.iload_n 1, 1) := by decide +kernel
theorem dX8_canSit_26 : decode cX8_canSit 26 = .ok (.if_icmp .ge 19, 3) := by decide +kernel
theorem dX8_canSit_29 : decode cX8_canSit 29 = .ok (.aload_n 0, 1) := by decide +kernel
theorem dX8_canSit_30 : decode cX8_canSit 30 = .ok (.iload_n 2, 1) := by decide +kernel
theorem dX8_canSit_31 : decode cX8_canSit 31 = .ok (.invokevirtual 138, 3) := by decide +kernel
theorem dX8_canSit_34 : decode cX8_canSit 34 = .ok (.ifCond .eq 5, 3) := by decide +kernel
theorem dX8_canSit_37 : decode cX8_canSit 37 = .ok (.iconst 1, 1) := by decide +kernel
theorem dX8_canSit_38 : decode cX8_canSit 38 = .ok (.ireturn, 1) := by decide +kernel
theorem dX8_canSit_39 : decode cX8_canSit 39 = .ok (.iinc 2 1, 3) := by decide +kernel
theorem dX8_canSit_42 : decode cX8_canSit 42 = .ok (.goto (-18), 3) := by decide +kernel
theorem dX8_canSit_45 : decode cX8_canSit 45 = .ok (.iconst 0, 1) := by decide +kernel
theorem dX8_canSit_46 : decode cX8_canSit 46 = .ok (.ireturn, 1) := by decide +kernel
theorem dX8_isJoined_0 : decode cX8_isJoined 0 = .ok (.aload_n 0, 1) := by decide +kernel
theorem dX8_isJoined_1 : decode cX8_isJoined 1 = .ok (.iload_n 1, 1) := by decide +kernel
theorem dX8_isJoined_2 : decode cX8_isJoined 2 = .ok (.iconst 5, 1) := by decide +kernel
theorem dX8_isJoined_3 : decode cX8_isJoined 3 = .ok (.invokevirtual 63, 3) := by decide +kernel
theorem dX8_isJoined_6 : decode cX8_isJoined 6 = .ok (.istore_n 2, 1) := by decide +kernel
theorem dX8_isJoined_7 : decode cX8_isJoined 7 = .ok (.aload_n 0, 1) := by decide +kernel
theorem dX8_isJoined_8 : decode cX8_isJoined 8 = .ok (.getfield 132, 3) := by decide +kernel
theorem dX8_isJoined_11 : decode cX8_isJoined 11 = .ok (.iload_n 2, 1) := by decide +kernel
theorem dX8_isJoined_12 : decode cX8_isJoined 12 = .ok (.iadd, 1) := by decide +kernel
theorem dX8_isJoined_13 : decode cX8_isJoined 13 = .ok (.aload_n 0, 1) := by decide +kernel
theorem dX8_isJoined_14 : decode cX8_isJoined 14 = .ok (.getfield 7, 3) := by decide +kernel
theorem dX8_isJoined_17 : decode cX8_isJoined 17 = .ok (.iconst 0, 1) := by decide +kernel
theorem dX8_isJoined_18 : decode cX8_isJoined 18 = .ok (.iaload, 1) := by decide +kernel
theorem dX8_isJoined_19 : decode cX8_isJoined 19 = .ok (.if_icmp .le 5, 3) := by decide +kernel
theorem dX8_isJoined_22 : decode cX8_isJoined 22 = .ok (.iconst 0, 1) := by decide +kernel
theorem dX8_isJoined_23 : decode cX8_isJoined 23 = .ok (.ireturn, 1) := by decide +kernel
theorem dX8_isJoined_24 : decode cX8_isJoined 24 = .ok (.iconst 0, 1) := by decide +kernel
theorem dX8_isJoined_25 : decode cX8_isJoined 25 = .ok (.istore_n 3, 1) := by decide +kernel
theorem dX8_isJoined_26 : decode cX8_isJoined 26 = .ok (.iload_n 3, 1) := by decide +kernel
theorem dX8_isJoined_27 : decode cX8_isJoined 27 = .ok (.iload_n 2, 1) := by decide +kernel
theorem dX8_isJoined_28 : decode cX8_isJoined 28 = .ok (.if_icmp .ge 46, 3) := by decide +kernel
theorem dX8_isJoined_31 : decode cX8_isJoined 31 = .ok (.aload_n 0, 1) := by decide +kernel
theorem dX8_isJoined_32 : decode cX8_isJoined 32 = .ok (.getfield 28, 3) := by decide +kernel
theorem dX8_isJoined_35 : decode cX8_isJoined 35 = .ok (.aload_n 0, 1) := by decide +kernel
theorem dX8_isJoined_36 : decode cX8_isJoined 36 = .ok (.getfield 132, 3) := by decide +kernel
theorem dX8_isJoined_39 : decode cX8_isJoined 39 = .ok (.iload_n 3, 1) := by decide +kernel
theorem dX8_isJoined_40 : decode cX8_isJoined 40 = .ok (.iadd, 1) := by decide +kernel
theorem dX8_isJoined_41 : decode cX8_isJoined 41 = .ok (.iload_n 1, 1) := by decide +kernel
theorem dX8_isJoined_42 : decode cX8_isJoined 42 = .ok (.iload_n 3, 1) := by decide +kernel
theorem dX8_isJoined_43 : decode cX8_isJoined 43 = .ok (.invokestatic 115, 3) := by decide +kernel
theorem dX8_isJoined_46 : decode cX8_isJoined 46 = .ok (.iastore, 1) := by decide +kernel
theorem dX8_isJoined_47 : decode cX8_isJoined 47 = .ok (.aload_n 0, 1) := by decide +kernel
theorem dX8_isJoined_48 : decode cX8_isJoined 48 = .ok (.getfield 25, 3) := by decide +kernel
theorem dX8_isJoined_51 : decode cX8_isJoined 51 = .ok (.aload_n 0, 1) := by decide +kernel
theorem dX8_isJoined_52 : decode cX8_isJoined 52 = .ok (.getfield 132, 3) := by decide +kernel
theorem dX8_isJoined_55 : decode cX8_isJoined 55 = .ok (.iload_n 3, 1) := by decide +kernel
theorem dX8_isJoined_56 : decode cX8_isJoined 56 = .ok (.iadd, 1) := by decide +kernel
theorem dX8_isJoined_57 : decode cX8_isJoined 57 = .ok (.aload_n 0, 1) := by decide +kernel
theorem dX8_isJoined_58 : decode cX8_isJoined 58 = .ok (.getfield 7, 3) := by decide +kernel
theorem dX8_isJoined_61 : decode cX8_isJoined 61 = .ok (.iload_n 1, 1) := by decide +kernel
theorem dX8_isJoined_62 : decode cX8_isJoined 62 = .ok (.iload_n 3, 1) := by decide +kernel
theorem dX8_isJoined_63 : decode cX8_isJoined 63 = .ok (.invokestatic 115, 3) := by decide +kernel
theorem dX8_isJoined_66 : decode cX8_isJoined 66 = .ok (.iaload, 1) := by decide +kernel
theorem dX8_isJoined_67 : decode cX8_isJoined 67 = .ok (.iastore, 1) := by decide +kernel
theorem dX8_isJoined_68 : decode cX8_isJoined 68 = .ok (.iinc 3 1, 3) := by decide +kernel
theorem dX8_isJoined_71 : decode cX8_isJoined 71 = .ok (.goto (-45), 3) := by decide +kernel
theorem dX8_isJoined_74 : decode cX8_isJoined 74 = .ok (.aload_n 0, 1) := by decide +kernel
theorem dX8_isJoined_75 : decode cX8_isJoined 75 = .ok (.dup, 1) := by decide +kernel
theorem dX8_isJoined_76 : decode cX8_isJoined 76 = .ok (.getfield 132, 3) := by decide +kernel
theorem dX8_isJoined_79 : decode cX8_isJoined 79 = .ok (.iload_n 2, 1) := by decide +kernel
theorem dX8_isJoined_80 : decode cX8_isJoined 80 = .ok (.iadd, 1) := by decide +kernel
theorem dX8_isJoined_81 : decode cX8_isJoined 81 = .ok (.putfield 132, 3) := by decide +kernel
theorem dX8_isJoined_84 : decode cX8_isJoined 84 = .ok (.aload_n 0, 1) := by decide +kernel
theorem dX8_isJoined_85 : decode cX8_isJoined 85 = .ok (.invokevirtual 141, 3) := by decide +kernel
theorem dX8_isJoined_88 : decode cX8_isJoined 88 = .ok (.istore_n 3, 1) := by decide +kernel
theorem dX8_isJoined_89 : decode cX8_isJoined 89 = .ok (.aload_n 0, 1) := by decide +kernel
theorem dX8_isJoined_90 : decode cX8_isJoined 90 = .ok (.dup, 1) := by decide +kernel
theorem dX8_isJoined_91 : decode cX8_isJoined 91 = .ok (.getfield 132, 3) := by decide +kernel
theorem dX8_isJoined_94 : decode cX8_isJoined 94 = .ok (.iload_n 3, 1) := by decide +kernel
theorem dX8_isJoined_95 : decode cX8_isJoined 95 = .ok (.ifCond .eq 7, 3) := by decide +kernel
theorem dX8_isJoined_98 : decode cX8_isJoined 98 = .ok (.iconst 0, 1) := by decide +kernel
theorem dX8_isJoined_99 : decode cX8_isJoined 99 = .ok (.goto 4, 3) := by decide +kernel
theorem dX8_isJoined_102 : decode cX8_isJoined 102 = .ok (.iload_n 2, 1) := by decide +kernel
theorem dX8_isJoined_103 : decode cX8_isJoined 103 = .ok (.isub, 1) := by decide +kernel
theorem dX8_isJoined_104 : decode cX8_isJoined 104 = .ok (.putfield 132, 3) := by decide +kernel
theorem dX8_isJoined_107 : decode cX8_isJoined 107 = .ok (.iload_n 3, 1) := by decide +kernel
theorem dX8_isJoined_108 : decode cX8_isJoined 108 = .ok (.ireturn, 1) := by decide +kernel
theorem dX8_clears_0 : decode cX8_clears 0 = .ok (.aload_n 0, 1) := by decide +kernel
theorem dX8_clears_1 : decode cX8_clears 1 = .ok (.iconst 0, 1) := by decide +kernel
theorem dX8_clears_2 : decode cX8_clears 2 = .ok (.putfield 132, 3) := by decide +kernel
theorem dX8_clears_5 : decode cX8_clears 5 = .ok (.iconst 0, 1) := by decide +kernel
theorem dX8_clears_6 : decode cX8_clears 6 = .ok (.istore_n 1, 1) := by decide +kernel
theorem dX8_clears_7 : decode cX8_clears 7 = .ok (.iload_n 1, 1) := by decide +kernel
theorem dX8_clears_8 : decode cX8_clears 8 = .ok (.aload_n 0, 1) := by decide +kernel
theorem dX8_clears_9 : decode cX8_clears 9 = .ok (.getfield 7, 3) := by decide +kernel
theorem dX8_clears_12 : decode cX8_clears 12 = .ok (.bipush 70, 2) := by decide +kernel
theorem dX8_clears_14 : decode cX8_clears 14 = .ok (.iaload, 1) := by decide +kernel
theorem dX8_clears_15 : decode cX8_clears 15 = .ok (.if_icmp .ge 53, 3) := by decide +kernel
theorem dX8_clears_18 : decode cX8_clears 18 = .ok (.aload_n 0, 1) := by decide +kernel
theorem dX8_clears_19 : decode cX8_clears 19 = .ok (.getfield 7, 3) := by decide +kernel
theorem dX8_clears_22 : decode cX8_clears 22 = .ok (.iload_n 1, 1) := by decide +kernel
theorem dX8_clears_23 : decode cX8_clears 23 = .ok (.invokestatic 55, 3) := by decide +kernel
theorem dX8_clears_26 : decode cX8_clears 26 = .ok (.bipush 9, 2) := by decide +kernel
theorem dX8_clears_28 : decode cX8_clears 28 = .ok (.iadd, 1) := by decide +kernel
theorem dX8_clears_29 : decode cX8_clears 29 = .ok (.iconst 0, 1) := by decide +kernel
theorem dX8_clears_30 : decode cX8_clears 30 = .ok (.iastore, 1) := by decide +kernel
theorem dX8_clears_31 : decode cX8_clears 31 = .ok (.iconst 0, 1) := by decide +kernel
theorem dX8_clears_32 : decode cX8_clears 32 = .ok (.istore_n 2, 1) := by decide +kernel
theorem dX8_clears_33 : decode cX8_clears 33 = .ok (.iload_n 2, 1) := by decide +kernel
theorem dX8_clears_34 : decode cX8_clears 34 = .ok (.aload_n 0, 1) := by decide +kernel
theorem dX8_clears_35 : decode cX8_clears 35 = .ok (.iload_n 1, 1) := by decide +kernel
theorem dX8_clears_36 : decode cX8_clears 36 = .ok (.iconst 5, 1) := by decide +kernel
theorem dX8_clears_37 : decode cX8_clears 37 = .ok (.invokevirtual 63, 3) := by decide +kernel
theorem dX8_clears_40 : decode cX8_clears 40 = .ok (.if_icmp .ge 22, 3) := by decide +kernel
theorem dX8_clears_43 : decode cX8_clears 43 = .ok (.aload_n 0, 1) := by decide +kernel
theorem dX8_clears_44 : decode cX8_clears 44 = .ok (.getfield 7, 3) := by decide +kernel
theorem dX8_clears_47 : decode cX8_clears 47 = .ok (.iload_n 1, 1) := by decide +kernel
theorem dX8_clears_48 : decode cX8_clears 48 = .ok (.iload_n 2, 1) := by decide +kernel
theorem dX8_clears_49 : decode cX8_clears 49 = .ok (.invokestatic 115, 3) := by decide +kernel
theorem dX8_clears_52 : decode cX8_clears 52 = .ok (.iconst 2, 1) := by decide +kernel
theorem dX8_clears_53 : decode cX8_clears 53 = .ok (.iadd, 1) := by decide +kernel
theorem dX8_clears_54 : decode cX8_clears 54 = .ok (.iconst (-1), 1) := by decide +kernel
theorem dX8_clears_55 : decode cX8_clears 55 = .ok (.iastore, 1) := by decide +kernel
theorem dX8_clears_56 : decode cX8_clears 56 = .ok (.iinc 2 1, 3) := by decide +kernel
theorem dX8_clears_59 : decode cX8_clears 59 = .ok (.goto (-26), 3) := by decide +kernel
theorem dX8_clears_62 : decode cX8_clears 62 = .ok (.iinc 1 1, 3) := by decide +kernel
theorem dX8_clears_65 : decode cX8_clears 65 = .ok (.goto (-58), 3) := by decide +kernel
theorem dX8_clears_68 : decode cX8_clears 68 = .ok (.return_, 1) := by decide +kernel
theorem dX8_joins_0 : decode cX8_joins 0 = .ok (.aload_n 0, 1) := by decide +kernel
theorem dX8_joins_1 : decode cX8_joins 1 = .ok (.invokevirtual 145, 3) := by decide +kernel
theorem dX8_joins_4 : decode cX8_joins 4 = .ok (.iconst 0, 1) := by decide +kernel
theorem dX8_joins_5 : decode cX8_joins 5 = .ok (.istore_n 2, 1) := by decide +kernel
theorem dX8_joins_6 : decode cX8_joins 6 = .ok (.iload_n 2, 1) := by decide +kernel
theorem dX8_joins_7 : decode cX8_joins 7 = .ok (.aload_n 0, 1) := by decide +kernel
theorem dX8_joins_8 : decode cX8_joins 8 = .ok (.getfield 7, 3) := by decide +kernel
theorem dX8_joins_11 : decode cX8_joins 11 = .ok (.bipush 70, 2) := by decide +kernel
theorem dX8_joins_13 : decode cX8_joins 13 = .ok (.iaload, 1) := by decide +kernel
theorem dX8_joins_14 : decode cX8_joins 14 = .ok (.if_icmp .ge 74, 3) := by decide +kernel
theorem dX8_joins_17 : decode cX8_joins 17 = .ok (.iload_n 1, 1) := by decide +kernel
theorem dX8_joins_18 : decode cX8_joins 18 = .ok (.iload_n 2, 1) := by decide +kernel
theorem dX8_joins_19 : decode cX8_joins 19 = .ok (.invokestatic 135, 3) := by decide +kernel
theorem dX8_joins_22 : decode cX8_joins 22 = .ok (.ifCond .eq 60, 3) := by decide +kernel
theorem dX8_joins_25 : decode cX8_joins 25 = .ok (.aload_n 0, 1) := by decide +kernel
theorem dX8_joins_26 : decode cX8_joins 26 = .ok (.iload_n 2, 1) := by decide +kernel
theorem dX8_joins_27 : decode cX8_joins 27 = .ok (.iconst 2, 1) := by decide +kernel
theorem dX8_joins_28 : decode cX8_joins 28 = .ok (.invokevirtual 63, 3) := by decide +kernel
theorem dX8_joins_31 : decode cX8_joins 31 = .ok (.iconst 1, 1) := by decide +kernel
theorem dX8_joins_32 : decode cX8_joins 32 = .ok (.if_icmp .ne 50, 3) := by decide +kernel
theorem dX8_joins_35 : decode cX8_joins 35 = .ok (.aload_n 0, 1) := by decide +kernel
theorem dX8_joins_36 : decode cX8_joins 36 = .ok (.iload_n 2, 1) := by decide +kernel
theorem dX8_joins_37 : decode cX8_joins 37 = .ok (.invokevirtual 148, 3) := by decide +kernel
theorem dX8_joins_40 : decode cX8_joins 40 = .ok (.istore_n 3, 1) := by decide +kernel
theorem dX8_joins_41 : decode cX8_joins 41 = .ok (.aload_n 0, 1) := by decide +kernel
theorem dX8_joins_42 : decode cX8_joins 42 = .ok (.getfield 7, 3) := by decide +kernel
theorem dX8_joins_45 : decode cX8_joins 45 = .ok (.iload_n 2, 1) := by decide +kernel
theorem dX8_joins_46 : decode cX8_joins 46 = .ok (.invokestatic 55, 3) := by decide +kernel
theorem dX8_joins_49 : decode cX8_joins 49 = .ok (.bipush 9, 2) := by decide +kernel
theorem dX8_joins_51 : decode cX8_joins 51 = .ok (.iadd, 1) := by decide +kernel
theorem dX8_joins_52 : decode cX8_joins 52 = .ok (.iload_n 3, 1) := by decide +kernel
theorem dX8_joins_53 : decode cX8_joins 53 = .ok (.ifCond .eq 7, 3) := by decide +kernel
theorem dX8_joins_56 : decode cX8_joins 56 = .ok (.iconst 1, 1) := by decide +kernel
theorem dX8_joins_57 : decode cX8_joins 57 = .ok (.goto 4, 3) := by decide +kernel
theorem dX8_joins_60 : decode cX8_joins 60 = .ok (.iconst 0, 1) := by decide +kernel
theorem dX8_joins_61 : decode cX8_joins 61 = .ok (.iastore, 1) := by decide +kernel
theorem dX8_joins_62 : decode cX8_joins 62 = .ok (.aload_n 0, 1) := by decide +kernel
theorem dX8_joins_63 : decode cX8_joins 63 = .ok (.getfield 7, 3) := by decide +kernel
theorem dX8_joins_66 : decode cX8_joins 66 = .ok (.iload_n 2, 1) := by decide +kernel
theorem dX8_joins_67 : decode cX8_joins 67 = .ok (.invokestatic 55, 3) := by decide +kernel
theorem dX8_joins_70 : decode cX8_joins 70 = .ok (.iconst 4, 1) := by decide +kernel
theorem dX8_joins_71 : decode cX8_joins 71 = .ok (.iadd, 1) := by decide +kernel
theorem dX8_joins_72 : decode cX8_joins 72 = .ok (.iload_n 3, 1) := by decide +kernel
theorem dX8_joins_73 : decode cX8_joins 73 = .ok (.ifCond .eq 7, 3) := by decide +kernel
theorem dX8_joins_76 : decode cX8_joins 76 = .ok (.iconst 1, 1) := by decide +kernel
theorem dX8_joins_77 : decode cX8_joins 77 = .ok (.goto 4, 3) := by decide +kernel
theorem dX8_joins_80 : decode cX8_joins 80 = .ok (.iconst 0, 1) := by decide +kernel
theorem dX8_joins_81 : decode cX8_joins 81 = .ok (.iastore, 1) := by decide +kernel
theorem dX8_joins_82 : decode cX8_joins 82 = .ok (.iinc 2 1, 3) := by decide +kernel
theorem dX8_joins_85 : decode cX8_joins 85 = .ok (.goto (-79), 3) := by decide +kernel
theorem dX8_joins_88 : decode cX8_joins 88 = .ok (.iconst 1, 1) := by decide +kernel
theorem dX8_joins_89 : decode cX8_joins 89 = .ok (.istore_n 2, 1) := by decide +kernel
theorem dX8_joins_90 : decode cX8_joins 90 = .ok (.iload_n 2, 1) := by decide +kernel
theorem dX8_joins_91 : decode cX8_joins 91 = .ok (.aload_n 0, 1) := by decide +kernel
theorem dX8_joins_92 : decode cX8_joins 92 = .ok (.getfield 7, 3) := by decide +kernel
theorem dX8_joins_95 : decode cX8_joins 95 = .ok (.sipush 419, 3) := by decide +kernel
theorem dX8_joins_98 : decode cX8_joins 98 = .ok (.iaload, 1) := by decide +kernel
theorem dX8_joins_99 : decode cX8_joins 99 = .ok (.if_icmp .gt 53, 3) := by decide +kernel
theorem dX8_joins_102 : decode cX8_joins 102 = .ok (.aload_n 0, 1) := by decide +kernel
theorem dX8_joins_103 : decode cX8_joins 103 = .ok (.getfield 7, 3) := by decide +kernel
theorem dX8_joins_106 : decode cX8_joins 106 = .ok (.sipush 419, 3) := by decide +kernel
theorem dX8_joins_109 : decode cX8_joins 109 = .ok (.iload_n 2, 1) := by decide +kernel
theorem dX8_joins_110 : decode cX8_joins 110 = .ok (.iadd, 1) := by decide +kernel
theorem dX8_joins_111 : decode cX8_joins 111 = .ok (.iaload, 1) := by decide +kernel
theorem dX8_joins_112 : decode cX8_joins 112 = .ok (.istore_n 3, 1) := by decide +kernel
theorem dX8_joins_113 : decode cX8_joins 113 = .ok (.iload_n 1, 1) := by decide +kernel
theorem dX8_joins_114 : decode cX8_joins 114 = .ok (.iload_n 3, 1) := by decide +kernel
theorem dX8_joins_115 : decode cX8_joins 115 = .ok (.invokestatic 135, 3) := by decide +kernel
theorem dX8_joins_118 : decode cX8_joins 118 = .ok (.ifCond .eq 28, 3) := by decide +kernel
theorem dX8_joins_121 : decode cX8_joins 121 = .ok (.aload_n 0, 1) := by decide +kernel
theorem dX8_joins_122 : decode cX8_joins 122 = .ok (.getfield 7, 3) := by decide +kernel
theorem dX8_joins_125 : decode cX8_joins 125 = .ok (.iload_n 3, 1) := by decide +kernel
theorem dX8_joins_126 : decode cX8_joins 126 = .ok (.invokestatic 55, 3) := by decide +kernel
theorem dX8_joins_129 : decode cX8_joins 129 = .ok (.bipush 9, 2) := by decide +kernel
theorem dX8_joins_131 : decode cX8_joins 131 = .ok (.iadd, 1) := by decide +kernel
theorem dX8_joins_132 : decode cX8_joins 132 = .ok (.aload_n 0, 1) := by decide +kernel
theorem dX8_joins_133 : decode cX8_joins 133 = .ok (.iload_n 3, 1) := by decide +kernel
theorem dX8_joins_134 : decode cX8_joins 134 = .ok (.invokevirtual 148, 3) := by decide +kernel
theorem dX8_joins_137 : decode cX8_joins 137 = .ok (.ifCond .eq 7, 3) := by decide +kernel
theorem dX8_joins_140 : decode cX8_joins 140 = .ok (.iconst 1, 1) := by decide +kernel
theorem dX8_joins_141 : decode cX8_joins 141 = .ok (.goto 4, 3) := by decide +kernel
theorem dX8_joins_144 : decode cX8_joins 144 = .ok (.iconst 0, 1) := by decide +kernel
theorem dX8_joins_145 : decode cX8_joins 145 = .ok (.iastore, 1) := by decide +kernel
theorem dX8_joins_146 : decode cX8_joins 146 = .ok (.iinc 2 1, 3) := by decide +kernel
theorem dX8_joins_149 : decode cX8_joins 149 = .ok (.goto (-59), 3) := by decide +kernel
theorem dX8_joins_152 : decode cX8_joins 152 = .ok (.aload_n 0, 1) := by decide +kernel
theorem dX8_joins_153 : decode cX8_joins 153 = .ok (.invokevirtual 141, 3) := by decide +kernel
theorem dX8_joins_156 : decode cX8_joins 156 = .ok (.istore_n 2, 1) := by decide +kernel
theorem dX8_joins_157 : decode cX8_joins 157 = .ok (.iconst 0, 1) := by decide +kernel
theorem dX8_joins_158 : decode cX8_joins 158 = .ok (.istore_n 3, 1) := by decide +kernel
theorem dX8_joins_159 : decode cX8_joins 159 = .ok (.iload_n 3, 1) := by decide +kernel
theorem dX8_joins_160 : decode cX8_joins 160 = .ok (.aload_n 0, 1) := by decide +kernel
theorem dX8_joins_161 : decode cX8_joins 161 = .ok (.getfield 132, 3) := by decide +kernel
theorem dX8_joins_164 : decode cX8_joins 164 = .ok (.if_icmp .ge 32, 3) := by decide +kernel
theorem dX8_joins_167 : decode cX8_joins 167 = .ok (.iload_n 2, 1) := by decide +kernel
theorem dX8_joins_168 : decode cX8_joins 168 = .ok (.ifCond .eq 28, 3) := by decide +kernel
theorem dX8_joins_171 : decode cX8_joins 171 = .ok (.aload_n 0, 1) := by decide +kernel
theorem dX8_joins_172 : decode cX8_joins 172 = .ok (.getfield 7, 3) := by decide +kernel
theorem dX8_joins_175 : decode cX8_joins 175 = .ok (.aload_n 0, 1) := by decide +kernel
theorem dX8_joins_176 : decode cX8_joins 176 = .ok (.getfield 28, 3) := by decide +kernel
theorem dX8_joins_179 : decode cX8_joins 179 = .ok (.iload_n 3, 1) := by decide +kernel
theorem dX8_joins_180 : decode cX8_joins 180 = .ok (.iaload, 1) := by decide +kernel
theorem dX8_joins_181 : decode cX8_joins 181 = .ok (.iconst 2, 1) := by decide +kernel
theorem dX8_joins_182 : decode cX8_joins 182 = .ok (.iadd, 1) := by decide +kernel
theorem dX8_joins_183 : decode cX8_joins 183 = .ok (.aload_n 0, 1) := by decide +kernel
theorem dX8_joins_184 : decode cX8_joins 184 = .ok (.getfield 31, 3) := by decide +kernel
theorem dX8_joins_187 : decode cX8_joins 187 = .ok (.iload_n 3, 1) := by decide +kernel
theorem dX8_joins_188 : decode cX8_joins 188 = .ok (.iaload, 1) := by decide +kernel
theorem dX8_joins_189 : decode cX8_joins 189 = .ok (.iastore, 1) := by decide +kernel
theorem dX8_joins_190 : decode cX8_joins 190 = .ok (.iinc 3 1, 3) := by decide +kernel
theorem dX8_joins_193 : decode cX8_joins 193 = .ok (.goto (-34), 3) := by decide +kernel
theorem dX8_joins_196 : decode cX8_joins 196 = .ok (.return_, 1) := by decide +kernel
theorem dX8_counts_0 : decode cX8_counts 0 = .ok (.iconst 0, 1) := by decide +kernel
theorem dX8_counts_1 : decode cX8_counts 1 = .ok (.istore_n 3, 1) := by decide +kernel
theorem dX8_counts_2 : decode cX8_counts 2 = .ok (.iload_n 3, 1) := by decide +kernel
theorem dX8_counts_3 : decode cX8_counts 3 = .ok (.aload_n 0, 1) := by decide +kernel
theorem dX8_counts_4 : decode cX8_counts 4 = .ok (.getfield 7, 3) := by decide +kernel
theorem dX8_counts_7 : decode cX8_counts 7 = .ok (.bipush 70, 2) := by decide +kernel
theorem dX8_counts_9 : decode cX8_counts 9 = .ok (.iaload, 1) := by decide +kernel
theorem dX8_counts_10 : decode cX8_counts 10 = .ok (.if_icmp .ge 181, 3) := by decide +kernel
theorem dX8_counts_13 : decode cX8_counts 13 = .ok (.iload_n 3, 1) := by decide +kernel
theorem dX8_counts_14 : decode cX8_counts 14 = .ok (.invokestatic 55, 3) := by decide +kernel
theorem dX8_counts_17 : decode cX8_counts 17 = .ok (.istore 4, 2) := by decide +kernel
theorem dX8_counts_19 : decode cX8_counts 19 = .ok (.aload_n 0, 1) := by decide +kernel
theorem dX8_counts_20 : decode cX8_counts 20 = .ok (.getfield 7, 3) := by decide +kernel
theorem dX8_counts_23 : decode cX8_counts 23 = .ok (.iload 4, 2) := by decide +kernel
theorem dX8_counts_25 : decode cX8_counts 25 = .ok (.bipush 46, 2) := by decide +kernel
theorem dX8_counts_27 : decode cX8_counts 27 = .ok (.iadd, 1) := by decide +kernel
theorem dX8_counts_28 : decode cX8_counts 28 = .ok (.iload_n 1, 1) := by decide +kernel
theorem dX8_counts_29 : decode cX8_counts 29 = .ok (.iadd, 1) := by decide +kernel
theorem dX8_counts_30 : decode cX8_counts 30 = .ok (.dup2, 1) := by decide +kernel
theorem dX8_counts_31 : decode cX8_counts 31 = .ok (.iaload, 1) := by decide +kernel
theorem dX8_counts_32 : decode cX8_counts 32 = .ok (.iload_n 2, 1) := by decide +kernel
theorem dX8_counts_33 : decode cX8_counts 33 = .ok (.iload_n 3, 1) := by decide +kernel
theorem dX8_counts_34 : decode cX8_counts 34 = .ok (.invokestatic 135, 3) := by decide +kernel
theorem dX8_counts_37 : decode cX8_counts 37 = .ok (.ifCond .eq 7, 3) := by decide +kernel
theorem dX8_counts_40 : decode cX8_counts 40 = .ok (.iconst 1, 1) := by decide +kernel
theorem dX8_counts_41 : decode cX8_counts 41 = .ok (.goto 4, 3) := by decide +kernel
theorem dX8_counts_44 : decode cX8_counts 44 = .ok (.iconst 0, 1) := by decide +kernel
theorem dX8_counts_45 : decode cX8_counts 45 = .ok (.iadd, 1) := by decide +kernel
theorem dX8_counts_46 : decode cX8_counts 46 = .ok (.iastore, 1) := by decide +kernel
theorem dX8_counts_47 : decode cX8_counts 47 = .ok (.aload_n 0, 1) := by decide +kernel
theorem dX8_counts_48 : decode cX8_counts 48 = .ok (.getfield 7, 3) := by decide +kernel
theorem dX8_counts_51 : decode cX8_counts 51 = .ok (.iload 4, 2) := by decide +kernel
theorem dX8_counts_53 : decode cX8_counts 53 = .ok (.bipush 52, 2) := by decide +kernel
theorem dX8_counts_55 : decode cX8_counts 55 = .ok (.iadd, 1) := by decide +kernel
theorem dX8_counts_56 : decode cX8_counts 56 = .ok (.iload_n 1, 1) := by decide +kernel
theorem dX8_counts_57 : decode cX8_counts 57 = .ok (.iadd, 1) := by decide +kernel
theorem dX8_counts_58 : decode cX8_counts 58 = .ok (.dup2, 1) := by decide +kernel
theorem dX8_counts_59 : decode cX8_counts 59 = .ok (.iaload, 1) := by decide +kernel
theorem dX8_counts_60 : decode cX8_counts 60 = .ok (.aload_n 0, 1) := by decide +kernel
theorem dX8_counts_61 : decode cX8_counts 61 = .ok (.getfield 7, 3) := by decide +kernel
theorem dX8_counts_64 : decode cX8_counts 64 = .ok (.iload 4, 2) := by decide +kernel
theorem dX8_counts_66 : decode cX8_counts 66 = .ok (.bipush 9, 2) := by decide +kernel
theorem dX8_counts_68 : decode cX8_counts 68 = .ok (.iadd, 1) := by decide +kernel
theorem dX8_counts_69 : decode cX8_counts 69 = .ok (.iaload, 1) := by decide +kernel
theorem dX8_counts_70 : decode cX8_counts 70 = .ok (.iadd, 1) := by decide +kernel
theorem dX8_counts_71 : decode cX8_counts 71 = .ok (.iastore, 1) := by decide +kernel
theorem dX8_counts_72 : decode cX8_counts 72 = .ok (.iconst 0, 1) := by decide +kernel
theorem dX8_counts_73 : decode cX8_counts 73 = .ok (.istore 5, 2) := by decide +kernel
theorem dX8_counts_75 : decode cX8_counts 75 = .ok (.iload 5, 2) := by decide +kernel
theorem dX8_counts_77 : decode cX8_counts 77 = .ok (.aload_n 0, 1) := by decide +kernel
theorem dX8_counts_78 : decode cX8_counts 78 = .ok (.getfield 7, 3) := by decide +kernel
theorem dX8_counts_81 : decode cX8_counts 81 = .ok (.iload 4, 2) := by decide +kernel
theorem dX8_counts_83 : decode cX8_counts 83 = .ok (.iconst 5, 1) := by decide +kernel
theorem dX8_counts_84 : decode cX8_counts 84 = .ok (.iadd, 1) := by decide +kernel
theorem dX8_counts_85 : decode cX8_counts 85 = .ok (.iaload, 1) := by decide +kernel
theorem dX8_counts_86 : decode cX8_counts 86 = .ok (.if_icmp .ge 99, 3) := by decide +kernel
theorem dX8_counts_89 : decode cX8_counts 89 = .ok (.aload_n 0, 1) := by decide +kernel
theorem dX8_counts_90 : decode cX8_counts 90 = .ok (.getfield 7, 3) := by decide +kernel
theorem dX8_counts_93 : decode cX8_counts 93 = .ok (.iload 4, 2) := by decide +kernel
theorem dX8_counts_95 : decode cX8_counts 95 = .ok (.bipush 9, 2) := by decide +kernel
theorem dX8_counts_97 : decode cX8_counts 97 = .ok (.iadd, 1) := by decide +kernel
theorem dX8_counts_98 : decode cX8_counts 98 = .ok (.iaload, 1) := by decide +kernel
theorem dX8_counts_99 : decode cX8_counts 99 = .ok (.iconst 1, 1) := by decide +kernel
theorem dX8_counts_100 : decode cX8_counts 100 = .ok (.if_icmp .ne 85, 3) := by decide +kernel
theorem dX8_counts_103 : decode cX8_counts 103 = .ok (.aload_n 0, 1) := by decide +kernel
theorem dX8_counts_104 : decode cX8_counts 104 = .ok (.iload_n 1, 1) := by decide +kernel
theorem dX8_counts_105 : decode cX8_counts 105 = .ok (.aload_n 0, 1) := by decide +kernel
theorem dX8_counts_106 : decode cX8_counts 106 = .ok (.getfield 7, 3) := by decide +kernel
theorem dX8_counts_109 : decode cX8_counts 109 = .ok (.iload_n 3, 1) := by decide +kernel
theorem dX8_counts_110 : decode cX8_counts 110 = .ok (.iload 5, 2) := by decide +kernel
theorem dX8_counts_112 : decode cX8_counts 112 = .ok (.invokestatic 115, 3) := by decide +kernel
theorem dX8_counts_115 : decode cX8_counts 115 = .ok (.iaload, 1) := by decide +kernel
theorem dX8_counts_116 : decode cX8_counts 116 = .ok (.invokevirtual 92, 3) := by decide +kernel
theorem dX8_counts_119 : decode cX8_counts 119 = .ok (.istore 6, 2) := by decide +kernel
theorem dX8_counts_121 : decode cX8_counts 121 = .ok (.aload_n 0, 1) := by decide +kernel
theorem dX8_counts_122 : decode cX8_counts 122 = .ok (.getfield 7, 3) := by decide +kernel
theorem dX8_counts_125 : decode cX8_counts 125 = .ok (.iload_n 3, 1) := by decide +kernel
theorem dX8_counts_126 : decode cX8_counts 126 = .ok (.iload 5, 2) := by decide +kernel
theorem dX8_counts_128 : decode cX8_counts 128 = .ok (.iload_n 1, 1) := by decide +kernel
theorem dX8_counts_129 : decode cX8_counts 129 = .ok (.invokestatic 111, 3) := by decide +kernel
theorem dX8_counts_132 : decode cX8_counts 132 = .ok (.dup2, 1) := by decide +kernel
theorem dX8_counts_133 : decode cX8_counts 133 = .ok (.iaload, 1) := by decide +kernel
theorem dX8_counts_134 : decode cX8_counts 134 = .ok (.iload 6, 2) := by decide +kernel
theorem dX8_counts_136 : decode cX8_counts 136 = .ok (.iadd, 1) := by decide +kernel
theorem dX8_counts_137 : decode cX8_counts 137 = .ok (.iastore, 1) := by decide +kernel
theorem dX8_counts_138 : decode cX8_counts 138 = .ok (.iload_n 3, 1) := by decide +kernel
theorem dX8_counts_139 : decode cX8_counts 139 = .ok (.iload 5, 2) := by decide +kernel
theorem dX8_counts_141 : decode cX8_counts 141 = .ok (.invokestatic 115, 3) := by decide +kernel
theorem dX8_counts_144 : decode cX8_counts 144 = .ok (.iconst 1, 1) := by decide +kernel
theorem dX8_counts_145 : decode cX8_counts 145 = .ok (.iadd, 1) := by decide +kernel
theorem dX8_counts_146 : decode cX8_counts 146 = .ok (.istore 7, 2) := by decide +kernel
theorem dX8_counts_148 : decode cX8_counts 148 = .ok (.aload_n 0, 1) := by decide +kernel
theorem dX8_counts_149 : decode cX8_counts 149 = .ok (.getfield 7, 3) := by decide +kernel
theorem dX8_counts_152 : decode cX8_counts 152 = .ok (.iload 7, 2) := by decide +kernel
theorem dX8_counts_154 : decode cX8_counts 154 = .ok (.iload 6, 2) := by decide +kernel
theorem dX8_counts_156 : decode cX8_counts 156 = .ok (.aload_n 0, 1) := by decide +kernel
theorem dX8_counts_157 : decode cX8_counts 157 = .ok (.getfield 7, 3) := by decide +kernel
theorem dX8_counts_160 : decode cX8_counts 160 = .ok (.iload 7, 2) := by decide +kernel
theorem dX8_counts_162 : decode cX8_counts 162 = .ok (.iaload, 1) := by decide +kernel
theorem dX8_counts_163 : decode cX8_counts 163 = .ok (.if_icmp .le 8, 3) := by decide +kernel
theorem dX8_counts_166 : decode cX8_counts 166 = .ok (.iload 6, 2) := by decide +kernel
theorem dX8_counts_168 : decode cX8_counts 168 = .ok (.goto 10, 3) := by decide +kernel
theorem dX8_counts_171 : decode cX8_counts 171 = .ok (.aload_n 0, 1) := by decide +kernel
theorem dX8_counts_172 : decode cX8_counts 172 = .ok (.getfield 7, 3) := by decide +kernel
theorem dX8_counts_175 : decode cX8_counts 175 = .ok (.iload 7, 2) := by decide +kernel
theorem dX8_counts_177 : decode cX8_counts 177 = .ok (.iaload, 1) := by decide +kernel
theorem dX8_counts_178 : decode cX8_counts 178 = .ok (.iastore, 1) := by decide +kernel
theorem dX8_counts_179 : decode cX8_counts 179 = .ok (.iinc 5 1, 3) := by decide +kernel
theorem dX8_counts_182 : decode cX8_counts 182 = .ok (.goto (-107), 3) := by decide +kernel
theorem dX8_counts_185 : decode cX8_counts 185 = .ok (.iinc 3 1, 3) := by decide +kernel
theorem dX8_counts_188 : decode cX8_counts 188 = .ok (.goto (-186), 3) := by decide +kernel
theorem dX8_counts_191 : decode cX8_counts 191 = .ok (.return_, 1) := by decide +kernel
theorem dX8_samplesCome_0 : decode cX8_samplesCome 0 = .ok (.iconst 0, 1) := by decide +kernel
theorem dX8_samplesCome_1 : decode cX8_samplesCome 1 = .ok (.istore_n 2, 1) := by decide +kernel
theorem dX8_samplesCome_2 : decode cX8_samplesCome 2 = .ok (.iload_n 2, 1) := by decide +kernel
end
section
theorem dX8_samplesCome_3 : decode cX8_samplesCome 3 = .ok (.aload_n 0, 1) := by decide +kernel
theorem dX8_samplesCome_4 : decode cX8_samplesCome 4 = .ok (.getfield 7, 3) := by decide +kernel
theorem dX8_samplesCome_7 : decode cX8_samplesCome 7 = .ok (.bipush 70, 2) := by decide +kernel
theorem dX8_samplesCome_9 : decode cX8_samplesCome 9 = .ok (.iaload, 1) := by decide +kernel
theorem dX8_samplesCome_10 : decode cX8_samplesCome 10 = .ok (.if_icmp .ge 173, 3) := by decide +kernel
theorem dX8_samplesCome_13 : decode cX8_samplesCome 13 = .ok (.iload_n 2, 1) := by decide +kernel
theorem dX8_samplesCome_14 : decode cX8_samplesCome 14 = .ok (.invokestatic 55, 3) := by decide +kernel
theorem dX8_samplesCome_17 : decode cX8_samplesCome 17 = .ok (.istore_n 3, 1) := by decide +kernel
theorem dX8_samplesCome_18 : decode cX8_samplesCome 18 = .ok (.aload_n 0, 1) := by decide +kernel
theorem dX8_samplesCome_19 : decode cX8_samplesCome 19 = .ok (.getfield 7, 3) := by decide +kernel
theorem dX8_samplesCome_22 : decode cX8_samplesCome 22 = .ok (.iload_n 3, 1) := by decide +kernel
theorem dX8_samplesCome_23 : decode cX8_samplesCome 23 = .ok (.bipush 9, 2) := by decide +kernel
theorem dX8_samplesCome_25 : decode cX8_samplesCome 25 = .ok (.iadd, 1) := by decide +kernel
theorem dX8_samplesCome_26 : decode cX8_samplesCome 26 = .ok (.iaload, 1) := by decide +kernel
theorem dX8_samplesCome_27 : decode cX8_samplesCome 27 = .ok (.iconst 1, 1) := by decide +kernel
theorem dX8_samplesCome_28 : decode cX8_samplesCome 28 = .ok (.if_icmp .ne 149, 3) := by decide +kernel
theorem dX8_samplesCome_31 : decode cX8_samplesCome 31 = .ok (.aload_n 0, 1) := by decide +kernel
theorem dX8_samplesCome_32 : decode cX8_samplesCome 32 = .ok (.getfield 7, 3) := by decide +kernel
theorem dX8_samplesCome_35 : decode cX8_samplesCome 35 = .ok (.iload_n 3, 1) := by decide +kernel
theorem dX8_samplesCome_36 : decode cX8_samplesCome 36 = .ok (.bipush 7, 2) := by decide +kernel
theorem dX8_samplesCome_38 : decode cX8_samplesCome 38 = .ok (.iadd, 1) := by decide +kernel
theorem dX8_samplesCome_39 : decode cX8_samplesCome 39 = .ok (.iaload, 1) := by decide +kernel
theorem dX8_samplesCome_40 : decode cX8_samplesCome 40 = .ok (.ifCond .le 137, 3) := by decide +kernel
theorem dX8_samplesCome_43 : decode cX8_samplesCome 43 = .ok (.aload_n 0, 1) := by decide +kernel
theorem dX8_samplesCome_44 : decode cX8_samplesCome 44 = .ok (.getfield 7, 3) := by decide +kernel
theorem dX8_samplesCome_47 : decode cX8_samplesCome 47 = .ok (.iload_n 3, 1) := by decide +kernel
theorem dX8_samplesCome_48 : decode cX8_samplesCome 48 = .ok (.bipush 8, 2) := by decide +kernel
theorem dX8_samplesCome_50 : decode cX8_samplesCome 50 = .ok (.iadd, 1) := by decide +kernel
theorem dX8_samplesCome_51 : decode cX8_samplesCome 51 = .ok (.dup2, 1) := by decide +kernel
theorem dX8_samplesCome_52 : decode cX8_samplesCome 52 = .ok (.iaload, 1) := by decide +kernel
theorem dX8_samplesCome_53 : decode cX8_samplesCome 53 = .ok (.aload_n 0, 1) := by decide +kernel
theorem dX8_samplesCome_54 : decode cX8_samplesCome 54 = .ok (.iload_n 1, 1) := by decide +kernel
theorem dX8_samplesCome_55 : decode cX8_samplesCome 55 = .ok (.aload_n 0, 1) := by decide +kernel
theorem dX8_samplesCome_56 : decode cX8_samplesCome 56 = .ok (.getfield 7, 3) := by decide +kernel
theorem dX8_samplesCome_59 : decode cX8_samplesCome 59 = .ok (.iload_n 2, 1) := by decide +kernel
theorem dX8_samplesCome_60 : decode cX8_samplesCome 60 = .ok (.iconst 0, 1) := by decide +kernel
theorem dX8_samplesCome_61 : decode cX8_samplesCome 61 = .ok (.invokestatic 115, 3) := by decide +kernel
theorem dX8_samplesCome_64 : decode cX8_samplesCome 64 = .ok (.iaload, 1) := by decide +kernel
theorem dX8_samplesCome_65 : decode cX8_samplesCome 65 = .ok (.invokevirtual 92, 3) := by decide +kernel
theorem dX8_samplesCome_68 : decode cX8_samplesCome 68 = .ok (.iadd, 1) := by decide +kernel
theorem dX8_samplesCome_69 : decode cX8_samplesCome 69 = .ok (.iastore, 1) := by decide +kernel
theorem dX8_samplesCome_70 : decode cX8_samplesCome 70 = .ok (.aload_n 0, 1) := by decide +kernel
theorem dX8_samplesCome_71 : decode cX8_samplesCome 71 = .ok (.getfield 7, 3) := by decide +kernel
theorem dX8_samplesCome_74 : decode cX8_samplesCome 74 = .ok (.iload_n 3, 1) := by decide +kernel
theorem dX8_samplesCome_75 : decode cX8_samplesCome 75 = .ok (.bipush 8, 2) := by decide +kernel
theorem dX8_samplesCome_77 : decode cX8_samplesCome 77 = .ok (.iadd, 1) := by decide +kernel
theorem dX8_samplesCome_78 : decode cX8_samplesCome 78 = .ok (.iaload, 1) := by decide +kernel
theorem dX8_samplesCome_79 : decode cX8_samplesCome 79 = .ok (.aload_n 0, 1) := by decide +kernel
theorem dX8_samplesCome_80 : decode cX8_samplesCome 80 = .ok (.getfield 7, 3) := by decide +kernel
theorem dX8_samplesCome_83 : decode cX8_samplesCome 83 = .ok (.iload_n 3, 1) := by decide +kernel
theorem dX8_samplesCome_84 : decode cX8_samplesCome 84 = .ok (.bipush 7, 2) := by decide +kernel
theorem dX8_samplesCome_86 : decode cX8_samplesCome 86 = .ok (.iadd, 1) := by decide +kernel
theorem dX8_samplesCome_87 : decode cX8_samplesCome 87 = .ok (.iaload, 1) := by decide +kernel
theorem dX8_samplesCome_88 : decode cX8_samplesCome 88 = .ok (.if_icmp .lt 89, 3) := by decide +kernel
theorem dX8_samplesCome_91 : decode cX8_samplesCome 91 = .ok (.aload_n 0, 1) := by decide +kernel
theorem dX8_samplesCome_92 : decode cX8_samplesCome 92 = .ok (.getfield 7, 3) := by decide +kernel
theorem dX8_samplesCome_95 : decode cX8_samplesCome 95 = .ok (.iload_n 3, 1) := by decide +kernel
theorem dX8_samplesCome_96 : decode cX8_samplesCome 96 = .ok (.bipush 8, 2) := by decide +kernel
theorem dX8_samplesCome_98 : decode cX8_samplesCome 98 = .ok (.iadd, 1) := by decide +kernel
theorem dX8_samplesCome_99 : decode cX8_samplesCome 99 = .ok (.dup2, 1) := by decide +kernel
theorem dX8_samplesCome_100 : decode cX8_samplesCome 100 = .ok (.iaload, 1) := by decide +kernel
theorem dX8_samplesCome_101 : decode cX8_samplesCome 101 = .ok (.aload_n 0, 1) := by decide +kernel
theorem dX8_samplesCome_102 : decode cX8_samplesCome 102 = .ok (.getfield 7, 3) := by decide +kernel
theorem dX8_samplesCome_105 : decode cX8_samplesCome 105 = .ok (.iload_n 3, 1) := by decide +kernel
theorem dX8_samplesCome_106 : decode cX8_samplesCome 106 = .ok (.bipush 7, 2) := by decide +kernel
theorem dX8_samplesCome_108 : decode cX8_samplesCome 108 = .ok (.iadd, 1) := by decide +kernel
theorem dX8_samplesCome_109 : decode cX8_samplesCome 109 = .ok (.iaload, 1) := by decide +kernel
theorem dX8_samplesCome_110 : decode cX8_samplesCome 110 = .ok (.isub, 1) := by decide +kernel
theorem dX8_samplesCome_111 : decode cX8_samplesCome 111 = .ok (.iastore, 1) := by decide +kernel
theorem dX8_samplesCome_112 : decode cX8_samplesCome 112 = .ok (.sipush 467, 3) := by decide +kernel
theorem dX8_samplesCome_115 : decode cX8_samplesCome 115 = .ok (.iconst 2, 1) := by decide +kernel
theorem dX8_samplesCome_116 : decode cX8_samplesCome 116 = .ok (.aload_n 0, 1) := by decide +kernel
theorem dX8_samplesCome_117 : decode cX8_samplesCome 117 = .ok (.getfield 7, 3) := by decide +kernel
theorem dX8_samplesCome_120 : decode cX8_samplesCome 120 = .ok (.sipush 466, 3) := by decide +kernel
theorem dX8_samplesCome_123 : decode cX8_samplesCome 123 = .ok (.iaload, 1) := by decide +kernel
theorem dX8_samplesCome_124 : decode cX8_samplesCome 124 = .ok (.imul, 1) := by decide +kernel
theorem dX8_samplesCome_125 : decode cX8_samplesCome 125 = .ok (.iadd, 1) := by decide +kernel
theorem dX8_samplesCome_126 : decode cX8_samplesCome 126 = .ok (.istore 4, 2) := by decide +kernel
theorem dX8_samplesCome_128 : decode cX8_samplesCome 128 = .ok (.aload_n 0, 1) := by decide +kernel
theorem dX8_samplesCome_129 : decode cX8_samplesCome 129 = .ok (.getfield 7, 3) := by decide +kernel
theorem dX8_samplesCome_132 : decode cX8_samplesCome 132 = .ok (.iload 4, 2) := by decide +kernel
theorem dX8_samplesCome_134 : decode cX8_samplesCome 134 = .ok (.iload_n 2, 1) := by decide +kernel
theorem dX8_samplesCome_135 : decode cX8_samplesCome 135 = .ok (.iastore, 1) := by decide +kernel
theorem dX8_samplesCome_136 : decode cX8_samplesCome 136 = .ok (.aload_n 0, 1) := by decide +kernel
theorem dX8_samplesCome_137 : decode cX8_samplesCome 137 = .ok (.getfield 7, 3) := by decide +kernel
theorem dX8_samplesCome_140 : decode cX8_samplesCome 140 = .ok (.iload 4, 2) := by decide +kernel
theorem dX8_samplesCome_142 : decode cX8_samplesCome 142 = .ok (.iconst 1, 1) := by decide +kernel
theorem dX8_samplesCome_143 : decode cX8_samplesCome 143 = .ok (.iadd, 1) := by decide +kernel
theorem dX8_samplesCome_144 : decode cX8_samplesCome 144 = .ok (.aload_n 0, 1) := by decide +kernel
theorem dX8_samplesCome_145 : decode cX8_samplesCome 145 = .ok (.getfield 7, 3) := by decide +kernel
theorem dX8_samplesCome_148 : decode cX8_samplesCome 148 = .ok (.sipush 426, 3) := by decide +kernel
theorem dX8_samplesCome_151 : decode cX8_samplesCome 151 = .ok (.iaload, 1) := by decide +kernel
theorem dX8_samplesCome_152 : decode cX8_samplesCome 152 = .ok (.aload_n 0, 1) := by decide +kernel
theorem dX8_samplesCome_153 : decode cX8_samplesCome 153 = .ok (.getfield 7, 3) := by decide +kernel
theorem dX8_samplesCome_156 : decode cX8_samplesCome 156 = .ok (.sipush 427, 3) := by decide +kernel
theorem dX8_samplesCome_159 : decode cX8_samplesCome 159 = .ok (.iaload, 1) := by decide +kernel
theorem dX8_samplesCome_160 : decode cX8_samplesCome 160 = .ok (.iadd, 1) := by decide +kernel
theorem dX8_samplesCome_161 : decode cX8_samplesCome 161 = .ok (.iastore, 1) := by decide +kernel
theorem dX8_samplesCome_162 : decode cX8_samplesCome 162 = .ok (.aload_n 0, 1) := by decide +kernel
theorem dX8_samplesCome_163 : decode cX8_samplesCome 163 = .ok (.getfield 7, 3) := by decide +kernel
theorem dX8_samplesCome_166 : decode cX8_samplesCome 166 = .ok (.sipush 466, 3) := by decide +kernel
theorem dX8_samplesCome_169 : decode cX8_samplesCome 169 = .ok (.dup2, 1) := by decide +kernel
theorem dX8_samplesCome_170 : decode cX8_samplesCome 170 = .ok (.iaload, 1) := by decide +kernel
theorem dX8_samplesCome_171 : decode cX8_samplesCome 171 = .ok (.iconst 1, 1) := by decide +kernel
theorem dX8_samplesCome_172 : decode cX8_samplesCome 172 = .ok (.iadd, 1) := by decide +kernel
theorem dX8_samplesCome_173 : decode cX8_samplesCome 173 = .ok (.iastore, 1) := by decide +kernel
theorem dX8_samplesCome_174 : decode cX8_samplesCome 174 = .ok (.goto (-104), 3) := by decide +kernel
theorem dX8_samplesCome_177 : decode cX8_samplesCome 177 = .ok (.iinc 2 1, 3) := by decide +kernel
theorem dX8_samplesCome_180 : decode cX8_samplesCome 180 = .ok (.goto (-178), 3) := by decide +kernel
theorem dX8_samplesCome_183 : decode cX8_samplesCome 183 = .ok (.return_, 1) := by decide +kernel
theorem dX8_tellsOne_0 : decode cX8_tellsOne 0 = .ok (.aload_n 0, 1) := by decide +kernel
theorem dX8_tellsOne_1 : decode cX8_tellsOne 1 = .ok (.getfield 7, 3) := by decide +kernel
theorem dX8_tellsOne_4 : decode cX8_tellsOne 4 = .ok (.sipush 429, 3) := by decide +kernel
theorem dX8_tellsOne_7 : decode cX8_tellsOne 7 = .ok (.iaload, 1) := by decide +kernel
theorem dX8_tellsOne_8 : decode cX8_tellsOne 8 = .ok (.bipush 12, 2) := by decide +kernel
theorem dX8_tellsOne_10 : decode cX8_tellsOne 10 = .ok (.if_icmp .ne 16, 3) := by decide +kernel
theorem dX8_tellsOne_13 : decode cX8_tellsOne 13 = .ok (.aload_n 0, 1) := by decide +kernel
theorem dX8_tellsOne_14 : decode cX8_tellsOne 14 = .ok (.getfield 7, 3) := by decide +kernel
theorem dX8_tellsOne_17 : decode cX8_tellsOne 17 = .ok (.sipush 428, 3) := by decide +kernel
theorem dX8_tellsOne_20 : decode cX8_tellsOne 20 = .ok (.dup2, 1) := by decide +kernel
theorem dX8_tellsOne_21 : decode cX8_tellsOne 21 = .ok (.iaload, 1) := by decide +kernel
theorem dX8_tellsOne_22 : decode cX8_tellsOne 22 = .ok (.iconst 1, 1) := by decide +kernel
theorem dX8_tellsOne_23 : decode cX8_tellsOne 23 = .ok (.iadd, 1) := by decide +kernel
theorem dX8_tellsOne_24 : decode cX8_tellsOne 24 = .ok (.iastore, 1) := by decide +kernel
theorem dX8_tellsOne_25 : decode cX8_tellsOne 25 = .ok (.return_, 1) := by decide +kernel
theorem dX8_tellsOne_26 : decode cX8_tellsOne 26 = .ok (.sipush 430, 3) := by decide +kernel
theorem dX8_tellsOne_29 : decode cX8_tellsOne 29 = .ok (.iconst 3, 1) := by decide +kernel
theorem dX8_tellsOne_30 : decode cX8_tellsOne 30 = .ok (.aload_n 0, 1) := by decide +kernel
theorem dX8_tellsOne_31 : decode cX8_tellsOne 31 = .ok (.getfield 7, 3) := by decide +kernel
theorem dX8_tellsOne_34 : decode cX8_tellsOne 34 = .ok (.sipush 429, 3) := by decide +kernel
theorem dX8_tellsOne_37 : decode cX8_tellsOne 37 = .ok (.iaload, 1) := by decide +kernel
theorem dX8_tellsOne_38 : decode cX8_tellsOne 38 = .ok (.imul, 1) := by decide +kernel
theorem dX8_tellsOne_39 : decode cX8_tellsOne 39 = .ok (.iadd, 1) := by decide +kernel
theorem dX8_tellsOne_40 : decode cX8_tellsOne 40 = .ok (.istore_n 3, 1) := by decide +kernel
theorem dX8_tellsOne_41 : decode cX8_tellsOne 41 = .ok (.aload_n 0, 1) := by decide +kernel
theorem dX8_tellsOne_42 : decode cX8_tellsOne 42 = .ok (.getfield 7, 3) := by decide +kernel
theorem dX8_tellsOne_45 : decode cX8_tellsOne 45 = .ok (.iload_n 3, 1) := by decide +kernel
theorem dX8_tellsOne_46 : decode cX8_tellsOne 46 = .ok (.iload_n 1, 1) := by decide +kernel
theorem dX8_tellsOne_47 : decode cX8_tellsOne 47 = .ok (.iastore, 1) := by decide +kernel
theorem dX8_tellsOne_48 : decode cX8_tellsOne 48 = .ok (.aload_n 0, 1) := by decide +kernel
theorem dX8_tellsOne_49 : decode cX8_tellsOne 49 = .ok (.getfield 7, 3) := by decide +kernel
theorem dX8_tellsOne_52 : decode cX8_tellsOne 52 = .ok (.iload_n 3, 1) := by decide +kernel
theorem dX8_tellsOne_53 : decode cX8_tellsOne 53 = .ok (.iconst 1, 1) := by decide +kernel
theorem dX8_tellsOne_54 : decode cX8_tellsOne 54 = .ok (.iadd, 1) := by decide +kernel
theorem dX8_tellsOne_55 : decode cX8_tellsOne 55 = .ok (.iload_n 2, 1) := by decide +kernel
theorem dX8_tellsOne_56 : decode cX8_tellsOne 56 = .ok (.iastore, 1) := by decide +kernel
theorem dX8_tellsOne_57 : decode cX8_tellsOne 57 = .ok (.aload_n 0, 1) := by decide +kernel
theorem dX8_tellsOne_58 : decode cX8_tellsOne 58 = .ok (.getfield 7, 3) := by decide +kernel
theorem dX8_tellsOne_61 : decode cX8_tellsOne 61 = .ok (.iload_n 3, 1) := by decide +kernel
theorem dX8_tellsOne_62 : decode cX8_tellsOne 62 = .ok (.iconst 2, 1) := by decide +kernel
theorem dX8_tellsOne_63 : decode cX8_tellsOne 63 = .ok (.iadd, 1) := by decide +kernel
theorem dX8_tellsOne_64 : decode cX8_tellsOne 64 = .ok (.aload_n 0, 1) := by decide +kernel
theorem dX8_tellsOne_65 : decode cX8_tellsOne 65 = .ok (.getfield 7, 3) := by decide +kernel
theorem dX8_tellsOne_68 : decode cX8_tellsOne 68 = .ok (.sipush 426, 3) := by decide +kernel
theorem dX8_tellsOne_71 : decode cX8_tellsOne 71 = .ok (.iaload, 1) := by decide +kernel
theorem dX8_tellsOne_72 : decode cX8_tellsOne 72 = .ok (.iastore, 1) := by decide +kernel
theorem dX8_tellsOne_73 : decode cX8_tellsOne 73 = .ok (.aload_n 0, 1) := by decide +kernel
theorem dX8_tellsOne_74 : decode cX8_tellsOne 74 = .ok (.getfield 7, 3) := by decide +kernel
theorem dX8_tellsOne_77 : decode cX8_tellsOne 77 = .ok (.sipush 429, 3) := by decide +kernel
theorem dX8_tellsOne_80 : decode cX8_tellsOne 80 = .ok (.dup2, 1) := by decide +kernel
theorem dX8_tellsOne_81 : decode cX8_tellsOne 81 = .ok (.iaload, 1) := by decide +kernel
theorem dX8_tellsOne_82 : decode cX8_tellsOne 82 = .ok (.iconst 1, 1) := by decide +kernel
theorem dX8_tellsOne_83 : decode cX8_tellsOne 83 = .ok (.iadd, 1) := by decide +kernel
theorem dX8_tellsOne_84 : decode cX8_tellsOne 84 = .ok (.iastore, 1) := by decide +kernel
theorem dX8_tellsOne_85 : decode cX8_tellsOne 85 = .ok (.return_, 1) := by decide +kernel
theorem dX8_tellsDue_0 : decode cX8_tellsDue 0 = .ok (.iconst 0, 1) := by decide +kernel
theorem dX8_tellsDue_1 : decode cX8_tellsDue 1 = .ok (.istore_n 2, 1) := by decide +kernel
theorem dX8_tellsDue_2 : decode cX8_tellsDue 2 = .ok (.iconst 0, 1) := by decide +kernel
theorem dX8_tellsDue_3 : decode cX8_tellsDue 3 = .ok (.istore_n 3, 1) := by decide +kernel
theorem dX8_tellsDue_4 : decode cX8_tellsDue 4 = .ok (.iload_n 3, 1) := by decide +kernel
theorem dX8_tellsDue_5 : decode cX8_tellsDue 5 = .ok (.aload_n 0, 1) := by decide +kernel
theorem dX8_tellsDue_6 : decode cX8_tellsDue 6 = .ok (.getfield 7, 3) := by decide +kernel
theorem dX8_tellsDue_9 : decode cX8_tellsDue 9 = .ok (.sipush 466, 3) := by decide +kernel
theorem dX8_tellsDue_12 : decode cX8_tellsDue 12 = .ok (.iaload, 1) := by decide +kernel
theorem dX8_tellsDue_13 : decode cX8_tellsDue 13 = .ok (.if_icmp .ge 91, 3) := by decide +kernel
theorem dX8_tellsDue_16 : decode cX8_tellsDue 16 = .ok (.aload_n 0, 1) := by decide +kernel
theorem dX8_tellsDue_17 : decode cX8_tellsDue 17 = .ok (.getfield 7, 3) := by decide +kernel
theorem dX8_tellsDue_20 : decode cX8_tellsDue 20 = .ok (.sipush 467, 3) := by decide +kernel
theorem dX8_tellsDue_23 : decode cX8_tellsDue 23 = .ok (.iconst 2, 1) := by decide +kernel
theorem dX8_tellsDue_24 : decode cX8_tellsDue 24 = .ok (.iload_n 3, 1) := by decide +kernel
theorem dX8_tellsDue_25 : decode cX8_tellsDue 25 = .ok (.imul, 1) := by decide +kernel
theorem dX8_tellsDue_26 : decode cX8_tellsDue 26 = .ok (.iadd, 1) := by decide +kernel
theorem dX8_tellsDue_27 : decode cX8_tellsDue 27 = .ok (.iaload, 1) := by decide +kernel
theorem dX8_tellsDue_28 : decode cX8_tellsDue 28 = .ok (.istore 4, 2) := by decide +kernel
theorem dX8_tellsDue_30 : decode cX8_tellsDue 30 = .ok (.aload_n 0, 1) := by decide +kernel
theorem dX8_tellsDue_31 : decode cX8_tellsDue 31 = .ok (.getfield 7, 3) := by decide +kernel
theorem dX8_tellsDue_34 : decode cX8_tellsDue 34 = .ok (.sipush 468, 3) := by decide +kernel
theorem dX8_tellsDue_37 : decode cX8_tellsDue 37 = .ok (.iconst 2, 1) := by decide +kernel
theorem dX8_tellsDue_38 : decode cX8_tellsDue 38 = .ok (.iload_n 3, 1) := by decide +kernel
theorem dX8_tellsDue_39 : decode cX8_tellsDue 39 = .ok (.imul, 1) := by decide +kernel
theorem dX8_tellsDue_40 : decode cX8_tellsDue 40 = .ok (.iadd, 1) := by decide +kernel
theorem dX8_tellsDue_41 : decode cX8_tellsDue 41 = .ok (.iaload, 1) := by decide +kernel
theorem dX8_tellsDue_42 : decode cX8_tellsDue 42 = .ok (.istore 5, 2) := by decide +kernel
theorem dX8_tellsDue_44 : decode cX8_tellsDue 44 = .ok (.iload 5, 2) := by decide +kernel
theorem dX8_tellsDue_46 : decode cX8_tellsDue 46 = .ok (.aload_n 0, 1) := by decide +kernel
theorem dX8_tellsDue_47 : decode cX8_tellsDue 47 = .ok (.getfield 7, 3) := by decide +kernel
theorem dX8_tellsDue_50 : decode cX8_tellsDue 50 = .ok (.sipush 426, 3) := by decide +kernel
theorem dX8_tellsDue_53 : decode cX8_tellsDue 53 = .ok (.iaload, 1) := by decide +kernel
theorem dX8_tellsDue_54 : decode cX8_tellsDue 54 = .ok (.if_icmp .gt 13, 3) := by decide +kernel
theorem dX8_tellsDue_57 : decode cX8_tellsDue 57 = .ok (.aload_n 0, 1) := by decide +kernel
theorem dX8_tellsDue_58 : decode cX8_tellsDue 58 = .ok (.iload 4, 2) := by decide +kernel
theorem dX8_tellsDue_60 : decode cX8_tellsDue 60 = .ok (.iload_n 1, 1) := by decide +kernel
theorem dX8_tellsDue_61 : decode cX8_tellsDue 61 = .ok (.invokevirtual 151, 3) := by decide +kernel
theorem dX8_tellsDue_64 : decode cX8_tellsDue 64 = .ok (.goto 34, 3) := by decide +kernel
theorem dX8_tellsDue_67 : decode cX8_tellsDue 67 = .ok (.aload_n 0, 1) := by decide +kernel
theorem dX8_tellsDue_68 : decode cX8_tellsDue 68 = .ok (.getfield 7, 3) := by decide +kernel
theorem dX8_tellsDue_71 : decode cX8_tellsDue 71 = .ok (.sipush 467, 3) := by decide +kernel
theorem dX8_tellsDue_74 : decode cX8_tellsDue 74 = .ok (.iconst 2, 1) := by decide +kernel
theorem dX8_tellsDue_75 : decode cX8_tellsDue 75 = .ok (.iload_n 2, 1) := by decide +kernel
theorem dX8_tellsDue_76 : decode cX8_tellsDue 76 = .ok (.imul, 1) := by decide +kernel
theorem dX8_tellsDue_77 : decode cX8_tellsDue 77 = .ok (.iadd, 1) := by decide +kernel
theorem dX8_tellsDue_78 : decode cX8_tellsDue 78 = .ok (.iload 4, 2) := by decide +kernel
theorem dX8_tellsDue_80 : decode cX8_tellsDue 80 = .ok (.iastore, 1) := by decide +kernel
theorem dX8_tellsDue_81 : decode cX8_tellsDue 81 = .ok (.aload_n 0, 1) := by decide +kernel
theorem dX8_tellsDue_82 : decode cX8_tellsDue 82 = .ok (.getfield 7, 3) := by decide +kernel
theorem dX8_tellsDue_85 : decode cX8_tellsDue 85 = .ok (.sipush 468, 3) := by decide +kernel
theorem dX8_tellsDue_88 : decode cX8_tellsDue 88 = .ok (.iconst 2, 1) := by decide +kernel
theorem dX8_tellsDue_89 : decode cX8_tellsDue 89 = .ok (.iload_n 2, 1) := by decide +kernel
theorem dX8_tellsDue_90 : decode cX8_tellsDue 90 = .ok (.imul, 1) := by decide +kernel
theorem dX8_tellsDue_91 : decode cX8_tellsDue 91 = .ok (.iadd, 1) := by decide +kernel
theorem dX8_tellsDue_92 : decode cX8_tellsDue 92 = .ok (.iload 5, 2) := by decide +kernel
theorem dX8_tellsDue_94 : decode cX8_tellsDue 94 = .ok (.iastore, 1) := by decide +kernel
theorem dX8_tellsDue_95 : decode cX8_tellsDue 95 = .ok (.iinc 2 1, 3) := by decide +kernel
theorem dX8_tellsDue_98 : decode cX8_tellsDue 98 = .ok (.iinc 3 1, 3) := by decide +kernel
theorem dX8_tellsDue_101 : decode cX8_tellsDue 101 = .ok (.goto (-97), 3) := by decide +kernel
theorem dX8_tellsDue_104 : decode cX8_tellsDue 104 = .ok (.sipush 467, 3) := by decide +kernel
theorem dX8_tellsDue_107 : decode cX8_tellsDue 107 = .ok (.iconst 2, 1) := by decide +kernel
theorem dX8_tellsDue_108 : decode cX8_tellsDue 108 = .ok (.iload_n 2, 1) := by decide +kernel
theorem dX8_tellsDue_109 : decode cX8_tellsDue 109 = .ok (.imul, 1) := by decide +kernel
theorem dX8_tellsDue_110 : decode cX8_tellsDue 110 = .ok (.iadd, 1) := by decide +kernel
theorem dX8_tellsDue_111 : decode cX8_tellsDue 111 = .ok (.istore_n 3, 1) := by decide +kernel
theorem dX8_tellsDue_112 : decode cX8_tellsDue 112 = .ok (.iload_n 3, 1) := by decide +kernel
theorem dX8_tellsDue_113 : decode cX8_tellsDue 113 = .ok (.sipush 659, 3) := by decide +kernel
theorem dX8_tellsDue_116 : decode cX8_tellsDue 116 = .ok (.if_icmp .ge 16, 3) := by decide +kernel
theorem dX8_tellsDue_119 : decode cX8_tellsDue 119 = .ok (.aload_n 0, 1) := by decide +kernel
theorem dX8_tellsDue_120 : decode cX8_tellsDue 120 = .ok (.getfield 7, 3) := by decide +kernel
theorem dX8_tellsDue_123 : decode cX8_tellsDue 123 = .ok (.iload_n 3, 1) := by decide +kernel
theorem dX8_tellsDue_124 : decode cX8_tellsDue 124 = .ok (.iconst 0, 1) := by decide +kernel
theorem dX8_tellsDue_125 : decode cX8_tellsDue 125 = .ok (.iastore, 1) := by decide +kernel
theorem dX8_tellsDue_126 : decode cX8_tellsDue 126 = .ok (.iinc 3 1, 3) := by decide +kernel
theorem dX8_tellsDue_129 : decode cX8_tellsDue 129 = .ok (.goto (-17), 3) := by decide +kernel
theorem dX8_tellsDue_132 : decode cX8_tellsDue 132 = .ok (.aload_n 0, 1) := by decide +kernel
theorem dX8_tellsDue_133 : decode cX8_tellsDue 133 = .ok (.getfield 7, 3) := by decide +kernel
theorem dX8_tellsDue_136 : decode cX8_tellsDue 136 = .ok (.sipush 466, 3) := by decide +kernel
theorem dX8_tellsDue_139 : decode cX8_tellsDue 139 = .ok (.iload_n 2, 1) := by decide +kernel
theorem dX8_tellsDue_140 : decode cX8_tellsDue 140 = .ok (.iastore, 1) := by decide +kernel
theorem dX8_tellsDue_141 : decode cX8_tellsDue 141 = .ok (.return_, 1) := by decide +kernel
theorem dX8_turns_0 : decode cX8_turns 0 = .ok (.iconst 1, 1) := by decide +kernel
theorem dX8_turns_1 : decode cX8_turns 1 = .ok (.istore_n 2, 1) := by decide +kernel
theorem dX8_turns_2 : decode cX8_turns 2 = .ok (.iload_n 2, 1) := by decide +kernel
theorem dX8_turns_3 : decode cX8_turns 3 = .ok (.aload_n 0, 1) := by decide +kernel
theorem dX8_turns_4 : decode cX8_turns 4 = .ok (.getfield 7, 3) := by decide +kernel
theorem dX8_turns_7 : decode cX8_turns 7 = .ok (.sipush 419, 3) := by decide +kernel
theorem dX8_turns_10 : decode cX8_turns 10 = .ok (.iaload, 1) := by decide +kernel
theorem dX8_turns_11 : decode cX8_turns 11 = .ok (.if_icmp .gt 26, 3) := by decide +kernel
theorem dX8_turns_14 : decode cX8_turns 14 = .ok (.iload_n 1, 1) := by decide +kernel
theorem dX8_turns_15 : decode cX8_turns 15 = .ok (.aload_n 0, 1) := by decide +kernel
theorem dX8_turns_16 : decode cX8_turns 16 = .ok (.getfield 7, 3) := by decide +kernel
theorem dX8_turns_19 : decode cX8_turns 19 = .ok (.sipush 419, 3) := by decide +kernel
theorem dX8_turns_22 : decode cX8_turns 22 = .ok (.iload_n 2, 1) := by decide +kernel
theorem dX8_turns_23 : decode cX8_turns 23 = .ok (.iadd, 1) := by decide +kernel
theorem dX8_turns_24 : decode cX8_turns 24 = .ok (.iaload, 1) := by decide +kernel
theorem dX8_turns_25 : decode cX8_turns 25 = .ok (.invokestatic 135, 3) := by decide +kernel
theorem dX8_turns_28 : decode cX8_turns 28 = .ok (.ifCond .ne 9, 3) := by decide +kernel
theorem dX8_turns_31 : decode cX8_turns 31 = .ok (.iinc 2 1, 3) := by decide +kernel
theorem dX8_turns_34 : decode cX8_turns 34 = .ok (.goto (-32), 3) := by decide +kernel
theorem dX8_turns_37 : decode cX8_turns 37 = .ok (.iload_n 2, 1) := by decide +kernel
theorem dX8_turns_38 : decode cX8_turns 38 = .ok (.aload_n 0, 1) := by decide +kernel
theorem dX8_turns_39 : decode cX8_turns 39 = .ok (.getfield 7, 3) := by decide +kernel
theorem dX8_turns_42 : decode cX8_turns 42 = .ok (.sipush 419, 3) := by decide +kernel
theorem dX8_turns_45 : decode cX8_turns 45 = .ok (.iaload, 1) := by decide +kernel
theorem dX8_turns_46 : decode cX8_turns 46 = .ok (.if_icmp .le 4, 3) := by decide +kernel
theorem dX8_turns_49 : decode cX8_turns 49 = .ok (.return_, 1) := by decide +kernel
theorem dX8_turns_50 : decode cX8_turns 50 = .ok (.aload_n 0, 1) := by decide +kernel
theorem dX8_turns_51 : decode cX8_turns 51 = .ok (.getfield 7, 3) := by decide +kernel
theorem dX8_turns_54 : decode cX8_turns 54 = .ok (.sipush 419, 3) := by decide +kernel
theorem dX8_turns_57 : decode cX8_turns 57 = .ok (.iload_n 2, 1) := by decide +kernel
theorem dX8_turns_58 : decode cX8_turns 58 = .ok (.iadd, 1) := by decide +kernel
theorem dX8_turns_59 : decode cX8_turns 59 = .ok (.iaload, 1) := by decide +kernel
theorem dX8_turns_60 : decode cX8_turns 60 = .ok (.istore_n 3, 1) := by decide +kernel
theorem dX8_turns_61 : decode cX8_turns 61 = .ok (.iload_n 3, 1) := by decide +kernel
theorem dX8_turns_62 : decode cX8_turns 62 = .ok (.invokestatic 55, 3) := by decide +kernel
theorem dX8_turns_65 : decode cX8_turns 65 = .ok (.istore 4, 2) := by decide +kernel
theorem dX8_turns_67 : decode cX8_turns 67 = .ok (.aload_n 0, 1) := by decide +kernel
theorem dX8_turns_68 : decode cX8_turns 68 = .ok (.getfield 7, 3) := by decide +kernel
theorem dX8_turns_71 : decode cX8_turns 71 = .ok (.iload 4, 2) := by decide +kernel
theorem dX8_turns_73 : decode cX8_turns 73 = .ok (.bipush 6, 2) := by decide +kernel
theorem dX8_turns_75 : decode cX8_turns 75 = .ok (.iadd, 1) := by decide +kernel
theorem dX8_turns_76 : decode cX8_turns 76 = .ok (.dup2, 1) := by decide +kernel
theorem dX8_turns_77 : decode cX8_turns 77 = .ok (.iaload, 1) := by decide +kernel
theorem dX8_turns_78 : decode cX8_turns 78 = .ok (.iconst 1, 1) := by decide +kernel
theorem dX8_turns_79 : decode cX8_turns 79 = .ok (.iadd, 1) := by decide +kernel
theorem dX8_turns_80 : decode cX8_turns 80 = .ok (.iastore, 1) := by decide +kernel
theorem dX8_turns_81 : decode cX8_turns 81 = .ok (.aload_n 0, 1) := by decide +kernel
theorem dX8_turns_82 : decode cX8_turns 82 = .ok (.getfield 7, 3) := by decide +kernel
theorem dX8_turns_85 : decode cX8_turns 85 = .ok (.iload 4, 2) := by decide +kernel
theorem dX8_turns_87 : decode cX8_turns 87 = .ok (.bipush 6, 2) := by decide +kernel
theorem dX8_turns_89 : decode cX8_turns 89 = .ok (.iadd, 1) := by decide +kernel
theorem dX8_turns_90 : decode cX8_turns 90 = .ok (.iaload, 1) := by decide +kernel
theorem dX8_turns_91 : decode cX8_turns 91 = .ok (.aload_n 0, 1) := by decide +kernel
theorem dX8_turns_92 : decode cX8_turns 92 = .ok (.getfield 7, 3) := by decide +kernel
theorem dX8_turns_95 : decode cX8_turns 95 = .ok (.iload 4, 2) := by decide +kernel
theorem dX8_turns_97 : decode cX8_turns 97 = .ok (.iconst 1, 1) := by decide +kernel
theorem dX8_turns_98 : decode cX8_turns 98 = .ok (.iadd, 1) := by decide +kernel
theorem dX8_turns_99 : decode cX8_turns 99 = .ok (.iaload, 1) := by decide +kernel
theorem dX8_turns_100 : decode cX8_turns 100 = .ok (.if_icmp .lt 78, 3) := by decide +kernel
theorem dX8_turns_103 : decode cX8_turns 103 = .ok (.aload_n 0, 1) := by decide +kernel
theorem dX8_turns_104 : decode cX8_turns 104 = .ok (.getfield 7, 3) := by decide +kernel
theorem dX8_turns_107 : decode cX8_turns 107 = .ok (.iload 4, 2) := by decide +kernel
theorem dX8_turns_109 : decode cX8_turns 109 = .ok (.bipush 6, 2) := by decide +kernel
theorem dX8_turns_111 : decode cX8_turns 111 = .ok (.iadd, 1) := by decide +kernel
theorem dX8_turns_112 : decode cX8_turns 112 = .ok (.iconst 0, 1) := by decide +kernel
theorem dX8_turns_113 : decode cX8_turns 113 = .ok (.iastore, 1) := by decide +kernel
theorem dX8_turns_114 : decode cX8_turns 114 = .ok (.iload_n 2, 1) := by decide +kernel
theorem dX8_turns_115 : decode cX8_turns 115 = .ok (.istore 5, 2) := by decide +kernel
theorem dX8_turns_117 : decode cX8_turns 117 = .ok (.iload 5, 2) := by decide +kernel
theorem dX8_turns_119 : decode cX8_turns 119 = .ok (.aload_n 0, 1) := by decide +kernel
theorem dX8_turns_120 : decode cX8_turns 120 = .ok (.getfield 7, 3) := by decide +kernel
theorem dX8_turns_123 : decode cX8_turns 123 = .ok (.sipush 419, 3) := by decide +kernel
theorem dX8_turns_126 : decode cX8_turns 126 = .ok (.iaload, 1) := by decide +kernel
theorem dX8_turns_127 : decode cX8_turns 127 = .ok (.if_icmp .ge 33, 3) := by decide +kernel
theorem dX8_turns_130 : decode cX8_turns 130 = .ok (.aload_n 0, 1) := by decide +kernel
theorem dX8_turns_131 : decode cX8_turns 131 = .ok (.getfield 7, 3) := by decide +kernel
theorem dX8_turns_134 : decode cX8_turns 134 = .ok (.sipush 419, 3) := by decide +kernel
theorem dX8_turns_137 : decode cX8_turns 137 = .ok (.iload 5, 2) := by decide +kernel
theorem dX8_turns_139 : decode cX8_turns 139 = .ok (.iadd, 1) := by decide +kernel
theorem dX8_turns_140 : decode cX8_turns 140 = .ok (.aload_n 0, 1) := by decide +kernel
theorem dX8_turns_141 : decode cX8_turns 141 = .ok (.getfield 7, 3) := by decide +kernel
theorem dX8_turns_144 : decode cX8_turns 144 = .ok (.sipush 419, 3) := by decide +kernel
theorem dX8_turns_147 : decode cX8_turns 147 = .ok (.iload 5, 2) := by decide +kernel
theorem dX8_turns_149 : decode cX8_turns 149 = .ok (.iadd, 1) := by decide +kernel
theorem dX8_turns_150 : decode cX8_turns 150 = .ok (.iconst 1, 1) := by decide +kernel
theorem dX8_turns_151 : decode cX8_turns 151 = .ok (.iadd, 1) := by decide +kernel
theorem dX8_turns_152 : decode cX8_turns 152 = .ok (.iaload, 1) := by decide +kernel
theorem dX8_turns_153 : decode cX8_turns 153 = .ok (.iastore, 1) := by decide +kernel
theorem dX8_turns_154 : decode cX8_turns 154 = .ok (.iinc 5 1, 3) := by decide +kernel
theorem dX8_turns_157 : decode cX8_turns 157 = .ok (.goto (-40), 3) := by decide +kernel
theorem dX8_turns_160 : decode cX8_turns 160 = .ok (.aload_n 0, 1) := by decide +kernel
theorem dX8_turns_161 : decode cX8_turns 161 = .ok (.getfield 7, 3) := by decide +kernel
theorem dX8_turns_164 : decode cX8_turns 164 = .ok (.sipush 419, 3) := by decide +kernel
theorem dX8_turns_167 : decode cX8_turns 167 = .ok (.aload_n 0, 1) := by decide +kernel
theorem dX8_turns_168 : decode cX8_turns 168 = .ok (.getfield 7, 3) := by decide +kernel
theorem dX8_turns_171 : decode cX8_turns 171 = .ok (.sipush 419, 3) := by decide +kernel
theorem dX8_turns_174 : decode cX8_turns 174 = .ok (.iaload, 1) := by decide +kernel
theorem dX8_turns_175 : decode cX8_turns 175 = .ok (.iadd, 1) := by decide +kernel
theorem dX8_turns_176 : decode cX8_turns 176 = .ok (.iload_n 3, 1) := by decide +kernel
theorem dX8_turns_177 : decode cX8_turns 177 = .ok (.iastore, 1) := by decide +kernel
theorem dX8_turns_178 : decode cX8_turns 178 = .ok (.return_, 1) := by decide +kernel
theorem dX8_goes_0 : decode cX8_goes 0 = .ok (.iconst 0, 1) := by decide +kernel
theorem dX8_goes_1 : decode cX8_goes 1 = .ok (.istore_n 3, 1) := by decide +kernel
theorem dX8_goes_2 : decode cX8_goes 2 = .ok (.iload_n 3, 1) := by decide +kernel
theorem dX8_goes_3 : decode cX8_goes 3 = .ok (.iload_n 2, 1) := by decide +kernel
theorem dX8_goes_4 : decode cX8_goes 4 = .ok (.if_icmp .ge 57, 3) := by decide +kernel
theorem dX8_goes_7 : decode cX8_goes 7 = .ok (.aload_n 0, 1) := by decide +kernel
theorem dX8_goes_8 : decode cX8_goes 8 = .ok (.iload_n 1, 1) := by decide +kernel
theorem dX8_goes_9 : decode cX8_goes 9 = .ok (.invokevirtual 154, 3) := by decide +kernel
theorem dX8_goes_12 : decode cX8_goes 12 = .ok (.istore 4, 2) := by decide +kernel
theorem dX8_goes_14 : decode cX8_goes 14 = .ok (.aload_n 0, 1) := by decide +kernel
theorem dX8_goes_15 : decode cX8_goes 15 = .ok (.iload 4, 2) := by decide +kernel
theorem dX8_goes_17 : decode cX8_goes 17 = .ok (.invokevirtual 157, 3) := by decide +kernel
theorem dX8_goes_20 : decode cX8_goes 20 = .ok (.aload_n 0, 1) := by decide +kernel
theorem dX8_goes_21 : decode cX8_goes 21 = .ok (.iload_n 1, 1) := by decide +kernel
theorem dX8_goes_22 : decode cX8_goes 22 = .ok (.iload 4, 2) := by decide +kernel
theorem dX8_goes_24 : decode cX8_goes 24 = .ok (.invokevirtual 161, 3) := by decide +kernel
theorem dX8_goes_27 : decode cX8_goes 27 = .ok (.aload_n 0, 1) := by decide +kernel
theorem dX8_goes_28 : decode cX8_goes 28 = .ok (.iload_n 1, 1) := by decide +kernel
theorem dX8_goes_29 : decode cX8_goes 29 = .ok (.invokevirtual 164, 3) := by decide +kernel
theorem dX8_goes_32 : decode cX8_goes 32 = .ok (.aload_n 0, 1) := by decide +kernel
theorem dX8_goes_33 : decode cX8_goes 33 = .ok (.iload_n 1, 1) := by decide +kernel
theorem dX8_goes_34 : decode cX8_goes 34 = .ok (.invokevirtual 167, 3) := by decide +kernel
theorem dX8_goes_37 : decode cX8_goes 37 = .ok (.aload_n 0, 1) := by decide +kernel
theorem dX8_goes_38 : decode cX8_goes 38 = .ok (.iload 4, 2) := by decide +kernel
theorem dX8_goes_40 : decode cX8_goes 40 = .ok (.invokevirtual 170, 3) := by decide +kernel
theorem dX8_goes_43 : decode cX8_goes 43 = .ok (.aload_n 0, 1) := by decide +kernel
theorem dX8_goes_44 : decode cX8_goes 44 = .ok (.getfield 7, 3) := by decide +kernel
theorem dX8_goes_47 : decode cX8_goes 47 = .ok (.sipush 426, 3) := by decide +kernel
theorem dX8_goes_50 : decode cX8_goes 50 = .ok (.dup2, 1) := by decide +kernel
theorem dX8_goes_51 : decode cX8_goes 51 = .ok (.iaload, 1) := by decide +kernel
theorem dX8_goes_52 : decode cX8_goes 52 = .ok (.iconst 1, 1) := by decide +kernel
theorem dX8_goes_53 : decode cX8_goes 53 = .ok (.iadd, 1) := by decide +kernel
theorem dX8_goes_54 : decode cX8_goes 54 = .ok (.iastore, 1) := by decide +kernel
theorem dX8_goes_55 : decode cX8_goes 55 = .ok (.iinc 3 1, 3) := by decide +kernel
theorem dX8_goes_58 : decode cX8_goes 58 = .ok (.goto (-56), 3) := by decide +kernel
theorem dX8_goes_61 : decode cX8_goes 61 = .ok (.aload_n 0, 1) := by decide +kernel
theorem dX8_goes_62 : decode cX8_goes 62 = .ok (.getfield 7, 3) := by decide +kernel
theorem dX8_goes_65 : decode cX8_goes 65 = .ok (.sipush 426, 3) := by decide +kernel
theorem dX8_goes_68 : decode cX8_goes 68 = .ok (.iaload, 1) := by decide +kernel
theorem dX8_goes_69 : decode cX8_goes 69 = .ok (.ireturn, 1) := by decide +kernel
theorem dX8_isRun_0 : decode cX8_isRun 0 = .ok (.aload_n 0, 1) := by decide +kernel
theorem dX8_isRun_1 : decode cX8_isRun 1 = .ok (.iload_n 1, 1) := by decide +kernel
theorem dX8_isRun_2 : decode cX8_isRun 2 = .ok (.invokevirtual 86, 3) := by decide +kernel
theorem dX8_isRun_5 : decode cX8_isRun 5 = .ok (.ifCond .eq 17, 3) := by decide +kernel
theorem dX8_isRun_8 : decode cX8_isRun 8 = .ok (.iload_n 2, 1) := by decide +kernel
theorem dX8_isRun_9 : decode cX8_isRun 9 = .ok (.iconst 1, 1) := by decide +kernel
theorem dX8_isRun_10 : decode cX8_isRun 10 = .ok (.bipush 20, 2) := by decide +kernel
theorem dX8_isRun_12 : decode cX8_isRun 12 = .ok (.invokestatic 51, 3) := by decide +kernel
theorem dX8_isRun_15 : decode cX8_isRun 15 = .ok (.ifCond .eq 7, 3) := by decide +kernel
theorem dX8_isRun_18 : decode cX8_isRun 18 = .ok (.iconst 1, 1) := by decide +kernel
theorem dX8_isRun_19 : decode cX8_isRun 19 = .ok (.goto 4, 3) := by decide +kernel
theorem dX8_isRun_22 : decode cX8_isRun 22 = .ok (.iconst 0, 1) := by decide +kernel
theorem dX8_isRun_23 : decode cX8_isRun 23 = .ok (.ireturn, 1) := by decide +kernel
theorem dX8_runs_0 : decode cX8_runs 0 = .ok (.aload_n 0, 1) := by decide +kernel
theorem dX8_runs_1 : decode cX8_runs 1 = .ok (.iload_n 1, 1) := by decide +kernel
theorem dX8_runs_2 : decode cX8_runs 2 = .ok (.iload_n 2, 1) := by decide +kernel
theorem dX8_runs_3 : decode cX8_runs 3 = .ok (.invokevirtual 173, 3) := by decide +kernel
theorem dX8_runs_6 : decode cX8_runs 6 = .ok (.ifCond .ne 8, 3) := by decide +kernel
theorem dX8_runs_9 : decode cX8_runs 9 = .ok (.aload_n 0, 1) := by decide +kernel
theorem dX8_runs_10 : decode cX8_runs 10 = .ok (.invokevirtual 70, 3) := by decide +kernel
theorem dX8_runs_13 : decode cX8_runs 13 = .ok (.ireturn, 1) := by decide +kernel
theorem dX8_runs_14 : decode cX8_runs 14 = .ok (.aload_n 0, 1) := by decide +kernel
theorem dX8_runs_15 : decode cX8_runs 15 = .ok (.iload_n 1, 1) := by decide +kernel
theorem dX8_runs_16 : decode cX8_runs 16 = .ok (.invokevirtual 95, 3) := by decide +kernel
theorem dX8_runs_19 : decode cX8_runs 19 = .ok (.ifCond .eq 8, 3) := by decide +kernel
theorem dX8_runs_22 : decode cX8_runs 22 = .ok (.aload_n 0, 1) := by decide +kernel
theorem dX8_runs_23 : decode cX8_runs 23 = .ok (.invokevirtual 47, 3) := by decide +kernel
theorem dX8_runs_26 : decode cX8_runs 26 = .ok (.ireturn, 1) := by decide +kernel
theorem dX8_runs_27 : decode cX8_runs 27 = .ok (.aload_n 0, 1) := by decide +kernel
theorem dX8_runs_28 : decode cX8_runs 28 = .ok (.invokevirtual 73, 3) := by decide +kernel
theorem dX8_runs_31 : decode cX8_runs 31 = .ok (.aload_n 0, 1) := by decide +kernel
theorem dX8_runs_32 : decode cX8_runs 32 = .ok (.iload_n 1, 1) := by decide +kernel
theorem dX8_runs_33 : decode cX8_runs 33 = .ok (.iload_n 2, 1) := by decide +kernel
theorem dX8_runs_34 : decode cX8_runs 34 = .ok (.invokevirtual 176, 3) := by decide +kernel
theorem dX8_runs_37 : decode cX8_runs 37 = .ok (.ireturn, 1) := by decide +kernel
theorem dX8_aboutTask_0 : decode cX8_aboutTask 0 = .ok (.iload_n 2, 1) := by decide +kernel
theorem dX8_aboutTask_1 : decode cX8_aboutTask 1 = .ok (.iconst 2, 1) := by decide +kernel
theorem dX8_aboutTask_2 : decode cX8_aboutTask 2 = .ok (.if_icmp .ne 11, 3) := by decide +kernel
theorem dX8_aboutTask_5 : decode cX8_aboutTask 5 = .ok (.aload_n 0, 1) := by decide +kernel
theorem dX8_aboutTask_6 : decode cX8_aboutTask 6 = .ok (.iload_n 1, 1) := by decide +kernel
theorem dX8_aboutTask_7 : decode cX8_aboutTask 7 = .ok (.invokevirtual 154, 3) := by decide +kernel
theorem dX8_aboutTask_10 : decode cX8_aboutTask 10 = .ok (.goto 14, 3) := by decide +kernel
theorem dX8_aboutTask_13 : decode cX8_aboutTask 13 = .ok (.aload_n 0, 1) := by decide +kernel
theorem dX8_aboutTask_14 : decode cX8_aboutTask 14 = .ok (.getfield 7, 3) := by decide +kernel
theorem dX8_aboutTask_17 : decode cX8_aboutTask 17 = .ok (.iload_n 1, 1) := by decide +kernel
theorem dX8_aboutTask_18 : decode cX8_aboutTask 18 = .ok (.invokestatic 67, 3) := by decide +kernel
theorem dX8_aboutTask_21 : decode cX8_aboutTask 21 = .ok (.iload_n 2, 1) := by decide +kernel
theorem dX8_aboutTask_22 : decode cX8_aboutTask 22 = .ok (.iadd, 1) := by decide +kernel
theorem dX8_aboutTask_23 : decode cX8_aboutTask 23 = .ok (.iaload, 1) := by decide +kernel
theorem dX8_aboutTask_24 : decode cX8_aboutTask 24 = .ok (.ireturn, 1) := by decide +kernel
theorem dX8_task_0 : decode cX8_task 0 = .ok (.aload_n 0, 1) := by decide +kernel
theorem dX8_task_1 : decode cX8_task 1 = .ok (.iload_n 1, 1) := by decide +kernel
theorem dX8_task_2 : decode cX8_task 2 = .ok (.invokevirtual 86, 3) := by decide +kernel
theorem dX8_task_5 : decode cX8_task 5 = .ok (.ifCond .eq 21, 3) := by decide +kernel
theorem dX8_task_8 : decode cX8_task 8 = .ok (.iload_n 2, 1) := by decide +kernel
theorem dX8_task_9 : decode cX8_task 9 = .ok (.iconst 0, 1) := by decide +kernel
theorem dX8_task_10 : decode cX8_task 10 = .ok (.iconst 2, 1) := by decide +kernel
theorem dX8_task_11 : decode cX8_task 11 = .ok (.invokestatic 51, 3) := by decide +kernel
theorem dX8_task_14 : decode cX8_task 14 = .ok (.ifCond .eq 12, 3) := by decide +kernel
theorem dX8_task_17 : decode cX8_task 17 = .ok (.aload_n 0, 1) := by decide +kernel
theorem dX8_task_18 : decode cX8_task 18 = .ok (.iload_n 1, 1) := by decide +kernel
theorem dX8_task_19 : decode cX8_task 19 = .ok (.iload_n 2, 1) := by decide +kernel
theorem dX8_task_20 : decode cX8_task 20 = .ok (.invokevirtual 179, 3) := by decide +kernel
theorem dX8_task_23 : decode cX8_task 23 = .ok (.goto 7, 3) := by decide +kernel
theorem dX8_task_26 : decode cX8_task 26 = .ok (.aload_n 0, 1) := by decide +kernel
theorem dX8_task_27 : decode cX8_task 27 = .ok (.invokevirtual 70, 3) := by decide +kernel
theorem dX8_task_30 : decode cX8_task 30 = .ok (.ireturn, 1) := by decide +kernel
theorem dX8_placeOf_0 : decode cX8_placeOf 0 = .ok (.iconst (-1), 1) := by decide +kernel
theorem dX8_placeOf_1 : decode cX8_placeOf 1 = .ok (.istore_n 2, 1) := by decide +kernel
theorem dX8_placeOf_2 : decode cX8_placeOf 2 = .ok (.iconst 1, 1) := by decide +kernel
theorem dX8_placeOf_3 : decode cX8_placeOf 3 = .ok (.istore_n 3, 1) := by decide +kernel
theorem dX8_placeOf_4 : decode cX8_placeOf 4 = .ok (.iload_n 3, 1) := by decide +kernel
theorem dX8_placeOf_5 : decode cX8_placeOf 5 = .ok (.aload_n 0, 1) := by decide +kernel
theorem dX8_placeOf_6 : decode cX8_placeOf 6 = .ok (.getfield 7, 3) := by decide +kernel
theorem dX8_placeOf_9 : decode cX8_placeOf 9 = .ok (.sipush 419, 3) := by decide +kernel
theorem dX8_placeOf_12 : decode cX8_placeOf 12 = .ok (.iaload, 1) := by decide +kernel
theorem dX8_placeOf_13 : decode cX8_placeOf 13 = .ok (.if_icmp .gt 31, 3) := by decide +kernel
theorem dX8_placeOf_16 : decode cX8_placeOf 16 = .ok (.aload_n 0, 1) := by decide +kernel
theorem dX8_placeOf_17 : decode cX8_placeOf 17 = .ok (.getfield 7, 3) := by decide +kernel
theorem dX8_placeOf_20 : decode cX8_placeOf 20 = .ok (.sipush 419, 3) := by decide +kernel
theorem dX8_placeOf_23 : decode cX8_placeOf 23 = .ok (.iload_n 3, 1) := by decide +kernel
theorem dX8_placeOf_24 : decode cX8_placeOf 24 = .ok (.iadd, 1) := by decide +kernel
theorem dX8_placeOf_25 : decode cX8_placeOf 25 = .ok (.iaload, 1) := by decide +kernel
theorem dX8_placeOf_26 : decode cX8_placeOf 26 = .ok (.iload_n 1, 1) := by decide +kernel
theorem dX8_placeOf_27 : decode cX8_placeOf 27 = .ok (.if_icmp .ne 9, 3) := by decide +kernel
theorem dX8_placeOf_30 : decode cX8_placeOf 30 = .ok (.iload_n 3, 1) := by decide +kernel
theorem dX8_placeOf_31 : decode cX8_placeOf 31 = .ok (.iconst 1, 1) := by decide +kernel
theorem dX8_placeOf_32 : decode cX8_placeOf 32 = .ok (.isub, 1) := by decide +kernel
theorem dX8_placeOf_33 : decode cX8_placeOf 33 = .ok (.goto 4, 3) := by decide +kernel
theorem dX8_placeOf_36 : decode cX8_placeOf 36 = .ok (.iload_n 2, 1) := by decide +kernel
theorem dX8_placeOf_37 : decode cX8_placeOf 37 = .ok (.istore_n 2, 1) := by decide +kernel
theorem dX8_placeOf_38 : decode cX8_placeOf 38 = .ok (.iinc 3 1, 3) := by decide +kernel
theorem dX8_placeOf_41 : decode cX8_placeOf 41 = .ok (.goto (-37), 3) := by decide +kernel
theorem dX8_placeOf_44 : decode cX8_placeOf 44 = .ok (.iload_n 2, 1) := by decide +kernel
theorem dX8_placeOf_45 : decode cX8_placeOf 45 = .ok (.ireturn, 1) := by decide +kernel
theorem dX8_aboutGroup_0 : decode cX8_aboutGroup 0 = .ok (.iload_n 2, 1) := by decide +kernel
theorem dX8_aboutGroup_1 : decode cX8_aboutGroup 1 = .ok (.bipush 9, 2) := by decide +kernel
theorem dX8_aboutGroup_3 : decode cX8_aboutGroup 3 = .ok (.if_icmp .ne 11, 3) := by decide +kernel
theorem dX8_aboutGroup_6 : decode cX8_aboutGroup 6 = .ok (.aload_n 0, 1) := by decide +kernel
theorem dX8_aboutGroup_7 : decode cX8_aboutGroup 7 = .ok (.iload_n 1, 1) := by decide +kernel
theorem dX8_aboutGroup_8 : decode cX8_aboutGroup 8 = .ok (.invokevirtual 182, 3) := by decide +kernel
theorem dX8_aboutGroup_11 : decode cX8_aboutGroup 11 = .ok (.goto 20, 3) := by decide +kernel
theorem dX8_aboutGroup_14 : decode cX8_aboutGroup 14 = .ok (.aload_n 0, 1) := by decide +kernel
theorem dX8_aboutGroup_15 : decode cX8_aboutGroup 15 = .ok (.iload_n 1, 1) := by decide +kernel
theorem dX8_aboutGroup_16 : decode cX8_aboutGroup 16 = .ok (.iload_n 2, 1) := by decide +kernel
theorem dX8_aboutGroup_17 : decode cX8_aboutGroup 17 = .ok (.bipush 10, 2) := by decide +kernel
theorem dX8_aboutGroup_19 : decode cX8_aboutGroup 19 = .ok (.if_icmp .ne 8, 3) := by decide +kernel
theorem dX8_aboutGroup_22 : decode cX8_aboutGroup 22 = .ok (.bipush 9, 2) := by decide +kernel
theorem dX8_aboutGroup_24 : decode cX8_aboutGroup 24 = .ok (.goto 4, 3) := by decide +kernel
theorem dX8_aboutGroup_27 : decode cX8_aboutGroup 27 = .ok (.iload_n 2, 1) := by decide +kernel
theorem dX8_aboutGroup_28 : decode cX8_aboutGroup 28 = .ok (.invokevirtual 63, 3) := by decide +kernel
theorem dX8_aboutGroup_31 : decode cX8_aboutGroup 31 = .ok (.ireturn, 1) := by decide +kernel
theorem dX8_of_0 : decode cX8_of 0 = .ok (.aload_n 0, 1) := by decide +kernel
theorem dX8_of_1 : decode cX8_of 1 = .ok (.iload_n 1, 1) := by decide +kernel
theorem dX8_of_2 : decode cX8_of 2 = .ok (.invokevirtual 59, 3) := by decide +kernel
theorem dX8_of_5 : decode cX8_of 5 = .ok (.ifCond .eq 22, 3) := by decide +kernel
theorem dX8_of_8 : decode cX8_of 8 = .ok (.iload_n 2, 1) := by decide +kernel
theorem dX8_of_9 : decode cX8_of 9 = .ok (.iconst 0, 1) := by decide +kernel
theorem dX8_of_10 : decode cX8_of 10 = .ok (.bipush 10, 2) := by decide +kernel
theorem dX8_of_12 : decode cX8_of 12 = .ok (.invokestatic 51, 3) := by decide +kernel
theorem dX8_of_15 : decode cX8_of 15 = .ok (.ifCond .eq 12, 3) := by decide +kernel
theorem dX8_of_18 : decode cX8_of 18 = .ok (.aload_n 0, 1) := by decide +kernel
theorem dX8_of_19 : decode cX8_of 19 = .ok (.iload_n 1, 1) := by decide +kernel
theorem dX8_of_20 : decode cX8_of 20 = .ok (.iload_n 2, 1) := by decide +kernel
theorem dX8_of_21 : decode cX8_of 21 = .ok (.invokevirtual 185, 3) := by decide +kernel
theorem dX8_of_24 : decode cX8_of 24 = .ok (.goto 7, 3) := by decide +kernel
theorem dX8_of_27 : decode cX8_of 27 = .ok (.aload_n 0, 1) := by decide +kernel
theorem dX8_of_28 : decode cX8_of 28 = .ok (.invokevirtual 70, 3) := by decide +kernel
theorem dX8_of_31 : decode cX8_of 31 = .ok (.ireturn, 1) := by decide +kernel
theorem dX8_about_0 : decode cX8_about 0 = .ok (.aload_n 0, 1) := by decide +kernel
theorem dX8_about_1 : decode cX8_about 1 = .ok (.iload_n 1, 1) := by decide +kernel
theorem dX8_about_2 : decode cX8_about 2 = .ok (.iload_n 2, 1) := by decide +kernel
theorem dX8_about_3 : decode cX8_about 3 = .ok (.invokevirtual 188, 3) := by decide +kernel
theorem dX8_about_6 : decode cX8_about 6 = .ok (.ifCond .eq 27, 3) := by decide +kernel
theorem dX8_about_9 : decode cX8_about 9 = .ok (.iload_n 3, 1) := by decide +kernel
theorem dX8_about_10 : decode cX8_about 10 = .ok (.iconst 0, 1) := by decide +kernel
theorem dX8_about_11 : decode cX8_about 11 = .ok (.iconst 2, 1) := by decide +kernel
theorem dX8_about_12 : decode cX8_about 12 = .ok (.invokestatic 51, 3) := by decide +kernel
theorem dX8_about_15 : decode cX8_about 15 = .ok (.ifCond .eq 18, 3) := by decide +kernel
theorem dX8_about_18 : decode cX8_about 18 = .ok (.aload_n 0, 1) := by decide +kernel
theorem dX8_about_19 : decode cX8_about 19 = .ok (.getfield 7, 3) := by decide +kernel
theorem dX8_about_22 : decode cX8_about 22 = .ok (.iload_n 1, 1) := by decide +kernel
theorem dX8_about_23 : decode cX8_about 23 = .ok (.iload_n 2, 1) := by decide +kernel
theorem dX8_about_24 : decode cX8_about 24 = .ok (.invokestatic 115, 3) := by decide +kernel
theorem dX8_about_27 : decode cX8_about 27 = .ok (.iload_n 3, 1) := by decide +kernel
theorem dX8_about_28 : decode cX8_about 28 = .ok (.iadd, 1) := by decide +kernel
theorem dX8_about_29 : decode cX8_about 29 = .ok (.iaload, 1) := by decide +kernel
theorem dX8_about_30 : decode cX8_about 30 = .ok (.goto 7, 3) := by decide +kernel
theorem dX8_about_33 : decode cX8_about 33 = .ok (.aload_n 0, 1) := by decide +kernel
theorem dX8_about_34 : decode cX8_about 34 = .ok (.invokevirtual 70, 3) := by decide +kernel
theorem dX8_about_37 : decode cX8_about 37 = .ok (.ireturn, 1) := by decide +kernel
theorem dX8_sumAt_0 : decode cX8_sumAt 0 = .ok (.iconst 0, 1) := by decide +kernel
theorem dX8_sumAt_1 : decode cX8_sumAt 1 = .ok (.istore_n 3, 1) := by decide +kernel
theorem dX8_sumAt_2 : decode cX8_sumAt 2 = .ok (.iconst 0, 1) := by decide +kernel
theorem dX8_sumAt_3 : decode cX8_sumAt 3 = .ok (.istore 4, 2) := by decide +kernel
theorem dX8_sumAt_5 : decode cX8_sumAt 5 = .ok (.iload 4, 2) := by decide +kernel
theorem dX8_sumAt_7 : decode cX8_sumAt 7 = .ok (.bipush 6, 2) := by decide +kernel
theorem dX8_sumAt_9 : decode cX8_sumAt 9 = .ok (.if_icmp .ge 36, 3) := by decide +kernel
theorem dX8_sumAt_12 : decode cX8_sumAt 12 = .ok (.iload_n 3, 1) := by decide +kernel
theorem dX8_sumAt_13 : decode cX8_sumAt 13 = .ok (.iload_n 2, 1) := by decide +kernel
theorem dX8_sumAt_14 : decode cX8_sumAt 14 = .ok (.iconst (-1), 1) := by decide +kernel
theorem dX8_sumAt_15 : decode cX8_sumAt 15 = .ok (.if_icmp .eq 9, 3) := by decide +kernel
theorem dX8_sumAt_18 : decode cX8_sumAt 18 = .ok (.iload_n 2, 1) := by decide +kernel
theorem dX8_sumAt_19 : decode cX8_sumAt 19 = .ok (.iload 4, 2) := by decide +kernel
theorem dX8_sumAt_21 : decode cX8_sumAt 21 = .ok (.if_icmp .ne 15, 3) := by decide +kernel
theorem dX8_sumAt_24 : decode cX8_sumAt 24 = .ok (.aload_n 0, 1) := by decide +kernel
theorem dX8_sumAt_25 : decode cX8_sumAt 25 = .ok (.getfield 7, 3) := by decide +kernel
theorem dX8_sumAt_28 : decode cX8_sumAt 28 = .ok (.iload_n 1, 1) := by decide +kernel
theorem dX8_sumAt_29 : decode cX8_sumAt 29 = .ok (.iload 4, 2) := by decide +kernel
theorem dX8_sumAt_31 : decode cX8_sumAt 31 = .ok (.iadd, 1) := by decide +kernel
theorem dX8_sumAt_32 : decode cX8_sumAt 32 = .ok (.iaload, 1) := by decide +kernel
theorem dX8_sumAt_33 : decode cX8_sumAt 33 = .ok (.goto 4, 3) := by decide +kernel
theorem dX8_sumAt_36 : decode cX8_sumAt 36 = .ok (.iconst 0, 1) := by decide +kernel
theorem dX8_sumAt_37 : decode cX8_sumAt 37 = .ok (.iadd, 1) := by decide +kernel
theorem dX8_sumAt_38 : decode cX8_sumAt 38 = .ok (.istore_n 3, 1) := by decide +kernel
theorem dX8_sumAt_39 : decode cX8_sumAt 39 = .ok (.iinc 4 1, 3) := by decide +kernel
theorem dX8_sumAt_42 : decode cX8_sumAt 42 = .ok (.goto (-37), 3) := by decide +kernel
theorem dX8_sumAt_45 : decode cX8_sumAt 45 = .ok (.iload_n 3, 1) := by decide +kernel
theorem dX8_sumAt_46 : decode cX8_sumAt 46 = .ok (.ireturn, 1) := by decide +kernel
theorem dX8_count_0 : decode cX8_count 0 = .ok (.aload_n 0, 1) := by decide +kernel
theorem dX8_count_1 : decode cX8_count 1 = .ok (.iload_n 1, 1) := by decide +kernel
theorem dX8_count_2 : decode cX8_count 2 = .ok (.iload_n 2, 1) := by decide +kernel
theorem dX8_count_3 : decode cX8_count 3 = .ok (.invokevirtual 188, 3) := by decide +kernel
theorem dX8_count_6 : decode cX8_count 6 = .ok (.ifCond .eq 30, 3) := by decide +kernel
theorem dX8_count_9 : decode cX8_count 9 = .ok (.iload_n 3, 1) := by decide +kernel
theorem dX8_count_10 : decode cX8_count 10 = .ok (.iconst (-1), 1) := by decide +kernel
theorem dX8_count_11 : decode cX8_count 11 = .ok (.if_icmp .eq 11, 3) := by decide +kernel
theorem dX8_count_14 : decode cX8_count 14 = .ok (.aload_n 0, 1) := by decide +kernel
theorem dX8_count_15 : decode cX8_count 15 = .ok (.iload_n 3, 1) := by decide +kernel
theorem dX8_count_16 : decode cX8_count 16 = .ok (.invokevirtual 86, 3) := by decide +kernel
theorem dX8_count_19 : decode cX8_count 19 = .ok (.ifCond .eq 17, 3) := by decide +kernel
theorem dX8_count_22 : decode cX8_count 22 = .ok (.aload_n 0, 1) := by decide +kernel
theorem dX8_count_23 : decode cX8_count 23 = .ok (.iload_n 1, 1) := by decide +kernel
theorem dX8_count_24 : decode cX8_count 24 = .ok (.iload_n 2, 1) := by decide +kernel
theorem dX8_count_25 : decode cX8_count 25 = .ok (.iconst 0, 1) := by decide +kernel
theorem dX8_count_26 : decode cX8_count 26 = .ok (.invokestatic 111, 3) := by decide +kernel
theorem dX8_count_29 : decode cX8_count 29 = .ok (.iload_n 3, 1) := by decide +kernel
theorem dX8_count_30 : decode cX8_count 30 = .ok (.invokevirtual 191, 3) := by decide +kernel
theorem dX8_count_33 : decode cX8_count 33 = .ok (.goto 7, 3) := by decide +kernel
theorem dX8_count_36 : decode cX8_count 36 = .ok (.aload_n 0, 1) := by decide +kernel
theorem dX8_count_37 : decode cX8_count 37 = .ok (.invokevirtual 70, 3) := by decide +kernel
theorem dX8_count_40 : decode cX8_count 40 = .ok (.ireturn, 1) := by decide +kernel
theorem dX8_times_0 : decode cX8_times 0 = .ok (.aload_n 0, 1) := by decide +kernel
theorem dX8_times_1 : decode cX8_times 1 = .ok (.iload_n 1, 1) := by decide +kernel
theorem dX8_times_2 : decode cX8_times 2 = .ok (.invokevirtual 59, 3) := by decide +kernel
theorem dX8_times_5 : decode cX8_times 5 = .ok (.ifCond .eq 29, 3) := by decide +kernel
theorem dX8_times_8 : decode cX8_times 8 = .ok (.iload_n 2, 1) := by decide +kernel
theorem dX8_times_9 : decode cX8_times 9 = .ok (.iconst (-1), 1) := by decide +kernel
theorem dX8_times_10 : decode cX8_times 10 = .ok (.if_icmp .eq 11, 3) := by decide +kernel
theorem dX8_times_13 : decode cX8_times 13 = .ok (.aload_n 0, 1) := by decide +kernel
theorem dX8_times_14 : decode cX8_times 14 = .ok (.iload_n 2, 1) := by decide +kernel
theorem dX8_times_15 : decode cX8_times 15 = .ok (.invokevirtual 86, 3) := by decide +kernel
theorem dX8_times_18 : decode cX8_times 18 = .ok (.ifCond .eq 16, 3) := by decide +kernel
theorem dX8_times_21 : decode cX8_times 21 = .ok (.iload_n 3, 1) := by decide +kernel
theorem dX8_times_22 : decode cX8_times 22 = .ok (.iconst 0, 1) := by decide +kernel
theorem dX8_times_23 : decode cX8_times 23 = .ok (.iconst 1, 1) := by decide +kernel
theorem dX8_times_24 : decode cX8_times 24 = .ok (.invokestatic 51, 3) := by decide +kernel
theorem dX8_times_27 : decode cX8_times 27 = .ok (.ifCond .eq 7, 3) := by decide +kernel
theorem dX8_times_30 : decode cX8_times 30 = .ok (.iconst 1, 1) := by decide +kernel
theorem dX8_times_31 : decode cX8_times 31 = .ok (.goto 4, 3) := by decide +kernel
theorem dX8_times_34 : decode cX8_times 34 = .ok (.iconst 0, 1) := by decide +kernel
theorem dX8_times_35 : decode cX8_times 35 = .ok (.istore 4, 2) := by decide +kernel
theorem dX8_times_37 : decode cX8_times 37 = .ok (.iload 4, 2) := by decide +kernel
theorem dX8_times_39 : decode cX8_times 39 = .ok (.ifCond .eq 27, 3) := by decide +kernel
theorem dX8_times_42 : decode cX8_times 42 = .ok (.aload_n 0, 1) := by decide +kernel
theorem dX8_times_43 : decode cX8_times 43 = .ok (.iload_n 1, 1) := by decide +kernel
theorem dX8_times_44 : decode cX8_times 44 = .ok (.invokestatic 55, 3) := by decide +kernel
theorem dX8_times_47 : decode cX8_times 47 = .ok (.iload_n 3, 1) := by decide +kernel
theorem dX8_times_48 : decode cX8_times 48 = .ok (.ifCond .ne 8, 3) := by decide +kernel
theorem dX8_times_51 : decode cX8_times 51 = .ok (.bipush 46, 2) := by decide +kernel
theorem dX8_times_53 : decode cX8_times 53 = .ok (.goto 5, 3) := by decide +kernel
theorem dX8_times_56 : decode cX8_times 56 = .ok (.bipush 52, 2) := by decide +kernel
theorem dX8_times_58 : decode cX8_times 58 = .ok (.iadd, 1) := by decide +kernel
theorem dX8_times_59 : decode cX8_times 59 = .ok (.iload_n 2, 1) := by decide +kernel
theorem dX8_times_60 : decode cX8_times 60 = .ok (.invokevirtual 191, 3) := by decide +kernel
theorem dX8_times_63 : decode cX8_times 63 = .ok (.goto 7, 3) := by decide +kernel
theorem dX8_times_66 : decode cX8_times 66 = .ok (.aload_n 0, 1) := by decide +kernel
theorem dX8_times_67 : decode cX8_times 67 = .ok (.invokevirtual 70, 3) := by decide +kernel
theorem dX8_times_70 : decode cX8_times 70 = .ok (.ireturn, 1) := by decide +kernel
theorem dX8_scaledOf_0 : decode cX8_scaledOf 0 = .ok (.aload_n 0, 1) := by decide +kernel
theorem dX8_scaledOf_1 : decode cX8_scaledOf 1 = .ok (.iload_n 1, 1) := by decide +kernel
theorem dX8_scaledOf_2 : decode cX8_scaledOf 2 = .ok (.iload_n 2, 1) := by decide +kernel
theorem dX8_scaledOf_3 : decode cX8_scaledOf 3 = .ok (.iconst 0, 1) := by decide +kernel
theorem dX8_scaledOf_4 : decode cX8_scaledOf 4 = .ok (.invokestatic 111, 3) := by decide +kernel
theorem dX8_scaledOf_7 : decode cX8_scaledOf 7 = .ok (.iconst (-1), 1) := by decide +kernel
theorem dX8_scaledOf_8 : decode cX8_scaledOf 8 = .ok (.invokevirtual 191, 3) := by decide +kernel
theorem dX8_scaledOf_11 : decode cX8_scaledOf 11 = .ok (.istore 4, 2) := by decide +kernel
theorem dX8_scaledOf_13 : decode cX8_scaledOf 13 = .ok (.aload_n 0, 1) := by decide +kernel
theorem dX8_scaledOf_14 : decode cX8_scaledOf 14 = .ok (.iload_n 1, 1) := by decide +kernel
theorem dX8_scaledOf_15 : decode cX8_scaledOf 15 = .ok (.invokestatic 55, 3) := by decide +kernel
theorem dX8_scaledOf_18 : decode cX8_scaledOf 18 = .ok (.bipush 46, 2) := by decide +kernel
theorem dX8_scaledOf_20 : decode cX8_scaledOf 20 = .ok (.iadd, 1) := by decide +kernel
theorem dX8_scaledOf_21 : decode cX8_scaledOf 21 = .ok (.iconst (-1), 1) := by decide +kernel
theorem dX8_scaledOf_22 : decode cX8_scaledOf 22 = .ok (.invokevirtual 191, 3) := by decide +kernel
theorem dX8_scaledOf_25 : decode cX8_scaledOf 25 = .ok (.istore 5, 2) := by decide +kernel
theorem dX8_scaledOf_27 : decode cX8_scaledOf 27 = .ok (.aload_n 0, 1) := by decide +kernel
theorem dX8_scaledOf_28 : decode cX8_scaledOf 28 = .ok (.iload_n 1, 1) := by decide +kernel
theorem dX8_scaledOf_29 : decode cX8_scaledOf 29 = .ok (.invokestatic 55, 3) := by decide +kernel
theorem dX8_scaledOf_32 : decode cX8_scaledOf 32 = .ok (.bipush 52, 2) := by decide +kernel
theorem dX8_scaledOf_34 : decode cX8_scaledOf 34 = .ok (.iadd, 1) := by decide +kernel
theorem dX8_scaledOf_35 : decode cX8_scaledOf 35 = .ok (.iconst (-1), 1) := by decide +kernel
theorem dX8_scaledOf_36 : decode cX8_scaledOf 36 = .ok (.invokevirtual 191, 3) := by decide +kernel
theorem dX8_scaledOf_39 : decode cX8_scaledOf 39 = .ok (.istore 6, 2) := by decide +kernel
theorem dX8_scaledOf_41 : decode cX8_scaledOf 41 = .ok (.iload_n 3, 1) := by decide +kernel
theorem dX8_scaledOf_42 : decode cX8_scaledOf 42 = .ok (.iconst 1, 1) := by decide +kernel
theorem dX8_scaledOf_43 : decode cX8_scaledOf 43 = .ok (.if_icmp .ne 25, 3) := by decide +kernel
theorem dX8_scaledOf_46 : decode cX8_scaledOf 46 = .ok (.iload 4, 2) := by decide +kernel
theorem dX8_scaledOf_48 : decode cX8_scaledOf 48 = .ok (.iload 5, 2) := by decide +kernel
theorem dX8_scaledOf_50 : decode cX8_scaledOf 50 = .ok (.iload 6, 2) := by decide +kernel
theorem dX8_scaledOf_52 : decode cX8_scaledOf 52 = .ok (.isub, 1) := by decide +kernel
theorem dX8_scaledOf_53 : decode cX8_scaledOf 53 = .ok (.aload_n 0, 1) := by decide +kernel
theorem dX8_scaledOf_54 : decode cX8_scaledOf 54 = .ok (.getfield 7, 3) := by decide +kernel
theorem dX8_scaledOf_57 : decode cX8_scaledOf 57 = .ok (.iload_n 1, 1) := by decide +kernel
theorem dX8_scaledOf_58 : decode cX8_scaledOf 58 = .ok (.iload_n 2, 1) := by decide +kernel
theorem dX8_scaledOf_59 : decode cX8_scaledOf 59 = .ok (.invokestatic 115, 3) := by decide +kernel
theorem dX8_scaledOf_62 : decode cX8_scaledOf 62 = .ok (.iconst 1, 1) := by decide +kernel
theorem dX8_scaledOf_63 : decode cX8_scaledOf 63 = .ok (.iadd, 1) := by decide +kernel
theorem dX8_scaledOf_64 : decode cX8_scaledOf 64 = .ok (.iaload, 1) := by decide +kernel
theorem dX8_scaledOf_65 : decode cX8_scaledOf 65 = .ok (.imul, 1) := by decide +kernel
theorem dX8_scaledOf_66 : decode cX8_scaledOf 66 = .ok (.iadd, 1) := by decide +kernel
theorem dX8_scaledOf_67 : decode cX8_scaledOf 67 = .ok (.ireturn, 1) := by decide +kernel
theorem dX8_scaledOf_68 : decode cX8_scaledOf 68 = .ok (.iload 6, 2) := by decide +kernel
theorem dX8_scaledOf_70 : decode cX8_scaledOf 70 = .ok (.ifCond .ne 7, 3) := by decide +kernel
theorem dX8_scaledOf_73 : decode cX8_scaledOf 73 = .ok (.iconst (-1), 1) := by decide +kernel
theorem dX8_scaledOf_74 : decode cX8_scaledOf 74 = .ok (.goto 15, 3) := by decide +kernel
theorem dX8_scaledOf_77 : decode cX8_scaledOf 77 = .ok (.iload 4, 2) := by decide +kernel
theorem dX8_scaledOf_79 : decode cX8_scaledOf 79 = .ok (.i2l, 1) := by decide +kernel
theorem dX8_scaledOf_80 : decode cX8_scaledOf 80 = .ok (.iload 5, 2) := by decide +kernel
theorem dX8_scaledOf_82 : decode cX8_scaledOf 82 = .ok (.i2l, 1) := by decide +kernel
theorem dX8_scaledOf_83 : decode cX8_scaledOf 83 = .ok (.lmul, 1) := by decide +kernel
theorem dX8_scaledOf_84 : decode cX8_scaledOf 84 = .ok (.iload 6, 2) := by decide +kernel
theorem dX8_scaledOf_86 : decode cX8_scaledOf 86 = .ok (.i2l, 1) := by decide +kernel
theorem dX8_scaledOf_87 : decode cX8_scaledOf 87 = .ok (.ldiv, 1) := by decide +kernel
theorem dX8_scaledOf_88 : decode cX8_scaledOf 88 = .ok (.l2i, 1) := by decide +kernel
theorem dX8_scaledOf_89 : decode cX8_scaledOf 89 = .ok (.ireturn, 1) := by decide +kernel
theorem dX8_scaled_0 : decode cX8_scaled 0 = .ok (.aload_n 0, 1) := by decide +kernel
theorem dX8_scaled_1 : decode cX8_scaled 1 = .ok (.iload_n 1, 1) := by decide +kernel
theorem dX8_scaled_2 : decode cX8_scaled 2 = .ok (.iload_n 2, 1) := by decide +kernel
theorem dX8_scaled_3 : decode cX8_scaled 3 = .ok (.invokevirtual 188, 3) := by decide +kernel
theorem dX8_scaled_6 : decode cX8_scaled 6 = .ok (.ifCond .eq 22, 3) := by decide +kernel
theorem dX8_scaled_9 : decode cX8_scaled 9 = .ok (.iload_n 3, 1) := by decide +kernel
theorem dX8_scaled_10 : decode cX8_scaled 10 = .ok (.iconst 0, 1) := by decide +kernel
theorem dX8_scaled_11 : decode cX8_scaled 11 = .ok (.iconst 1, 1) := by decide +kernel
theorem dX8_scaled_12 : decode cX8_scaled 12 = .ok (.invokestatic 51, 3) := by decide +kernel
theorem dX8_scaled_15 : decode cX8_scaled 15 = .ok (.ifCond .eq 13, 3) := by decide +kernel
theorem dX8_scaled_18 : decode cX8_scaled 18 = .ok (.aload_n 0, 1) := by decide +kernel
theorem dX8_scaled_19 : decode cX8_scaled 19 = .ok (.iload_n 1, 1) := by decide +kernel
theorem dX8_scaled_20 : decode cX8_scaled 20 = .ok (.iload_n 2, 1) := by decide +kernel
theorem dX8_scaled_21 : decode cX8_scaled 21 = .ok (.iload_n 3, 1) := by decide +kernel
theorem dX8_scaled_22 : decode cX8_scaled 22 = .ok (.invokevirtual 194, 3) := by decide +kernel
theorem dX8_scaled_25 : decode cX8_scaled 25 = .ok (.goto 7, 3) := by decide +kernel
theorem dX8_scaled_28 : decode cX8_scaled 28 = .ok (.aload_n 0, 1) := by decide +kernel
theorem dX8_scaled_29 : decode cX8_scaled 29 = .ok (.invokevirtual 70, 3) := by decide +kernel
theorem dX8_scaled_32 : decode cX8_scaled 32 = .ok (.ireturn, 1) := by decide +kernel
theorem dX8_fitOf_0 : decode cX8_fitOf 0 = .ok (.aload_n 0, 1) := by decide +kernel
theorem dX8_fitOf_1 : decode cX8_fitOf 1 = .ok (.iconst 0, 1) := by decide +kernel
theorem dX8_fitOf_2 : decode cX8_fitOf 2 = .ok (.putfield 132, 3) := by decide +kernel
theorem dX8_fitOf_5 : decode cX8_fitOf 5 = .ok (.iconst 0, 1) := by decide +kernel
theorem dX8_fitOf_6 : decode cX8_fitOf 6 = .ok (.istore_n 2, 1) := by decide +kernel
theorem dX8_fitOf_7 : decode cX8_fitOf 7 = .ok (.iload_n 2, 1) := by decide +kernel
theorem dX8_fitOf_8 : decode cX8_fitOf 8 = .ok (.aload_n 0, 1) := by decide +kernel
theorem dX8_fitOf_9 : decode cX8_fitOf 9 = .ok (.getfield 7, 3) := by decide +kernel
theorem dX8_fitOf_12 : decode cX8_fitOf 12 = .ok (.bipush 70, 2) := by decide +kernel
theorem dX8_fitOf_14 : decode cX8_fitOf 14 = .ok (.iaload, 1) := by decide +kernel
theorem dX8_fitOf_15 : decode cX8_fitOf 15 = .ok (.if_icmp .ge 27, 3) := by decide +kernel
theorem dX8_fitOf_18 : decode cX8_fitOf 18 = .ok (.iload_n 1, 1) := by decide +kernel
theorem dX8_fitOf_19 : decode cX8_fitOf 19 = .ok (.iload_n 2, 1) := by decide +kernel
theorem dX8_fitOf_20 : decode cX8_fitOf 20 = .ok (.invokestatic 135, 3) := by decide +kernel
theorem dX8_fitOf_23 : decode cX8_fitOf 23 = .ok (.ifCond .eq 13, 3) := by decide +kernel
theorem dX8_fitOf_26 : decode cX8_fitOf 26 = .ok (.aload_n 0, 1) := by decide +kernel
theorem dX8_fitOf_27 : decode cX8_fitOf 27 = .ok (.iload_n 2, 1) := by decide +kernel
theorem dX8_fitOf_28 : decode cX8_fitOf 28 = .ok (.invokevirtual 148, 3) := by decide +kernel
theorem dX8_fitOf_31 : decode cX8_fitOf 31 = .ok (.ifCond .ne 5, 3) := by decide +kernel
theorem dX8_fitOf_34 : decode cX8_fitOf 34 = .ok (.iconst 0, 1) := by decide +kernel
theorem dX8_fitOf_35 : decode cX8_fitOf 35 = .ok (.ireturn, 1) := by decide +kernel
theorem dX8_fitOf_36 : decode cX8_fitOf 36 = .ok (.iinc 2 1, 3) := by decide +kernel
theorem dX8_fitOf_39 : decode cX8_fitOf 39 = .ok (.goto (-32), 3) := by decide +kernel
theorem dX8_fitOf_42 : decode cX8_fitOf 42 = .ok (.iconst 1, 1) := by decide +kernel
theorem dX8_fitOf_43 : decode cX8_fitOf 43 = .ok (.ireturn, 1) := by decide +kernel
theorem dX8_fit_0 : decode cX8_fit 0 = .ok (.iload_n 1, 1) := by decide +kernel
theorem dX8_fit_1 : decode cX8_fit 1 = .ok (.iconst 0, 1) := by decide +kernel
theorem dX8_fit_2 : decode cX8_fit 2 = .ok (.iconst 1, 1) := by decide +kernel
theorem dX8_fit_3 : decode cX8_fit 3 = .ok (.aload_n 0, 1) := by decide +kernel
theorem dX8_fit_4 : decode cX8_fit 4 = .ok (.getfield 7, 3) := by decide +kernel
theorem dX8_fit_7 : decode cX8_fit 7 = .ok (.bipush 70, 2) := by decide +kernel
theorem dX8_fit_9 : decode cX8_fit 9 = .ok (.iaload, 1) := by decide +kernel
theorem dX8_fit_10 : decode cX8_fit 10 = .ok (.ishl, 1) := by decide +kernel
theorem dX8_fit_11 : decode cX8_fit 11 = .ok (.iconst 1, 1) := by decide +kernel
theorem dX8_fit_12 : decode cX8_fit 12 = .ok (.isub, 1) := by decide +kernel
theorem dX8_fit_13 : decode cX8_fit 13 = .ok (.invokestatic 51, 3) := by decide +kernel
theorem dX8_fit_16 : decode cX8_fit 16 = .ok (.ifCond .eq 11, 3) := by decide +kernel
theorem dX8_fit_19 : decode cX8_fit 19 = .ok (.aload_n 0, 1) := by decide +kernel
theorem dX8_fit_20 : decode cX8_fit 20 = .ok (.iload_n 1, 1) := by decide +kernel
theorem dX8_fit_21 : decode cX8_fit 21 = .ok (.invokevirtual 197, 3) := by decide +kernel
theorem dX8_fit_24 : decode cX8_fit 24 = .ok (.goto 7, 3) := by decide +kernel
theorem dX8_fit_27 : decode cX8_fit 27 = .ok (.aload_n 0, 1) := by decide +kernel
theorem dX8_fit_28 : decode cX8_fit 28 = .ok (.invokevirtual 70, 3) := by decide +kernel
theorem dX8_fit_31 : decode cX8_fit 31 = .ok (.ireturn, 1) := by decide +kernel
theorem dX8_queue_0 : decode cX8_queue 0 = .ok (.iload_n 1, 1) := by decide +kernel
theorem dX8_queue_1 : decode cX8_queue 1 = .ok (.ifCond .ge 8, 3) := by decide +kernel
theorem dX8_queue_4 : decode cX8_queue 4 = .ok (.aload_n 0, 1) := by decide +kernel
theorem dX8_queue_5 : decode cX8_queue 5 = .ok (.invokevirtual 70, 3) := by decide +kernel
theorem dX8_queue_8 : decode cX8_queue 8 = .ok (.ireturn, 1) := by decide +kernel
theorem dX8_queue_9 : decode cX8_queue 9 = .ok (.iload_n 1, 1) := by decide +kernel
theorem dX8_queue_10 : decode cX8_queue 10 = .ok (.aload_n 0, 1) := by decide +kernel
theorem dX8_queue_11 : decode cX8_queue 11 = .ok (.getfield 7, 3) := by decide +kernel
theorem dX8_queue_14 : decode cX8_queue 14 = .ok (.sipush 419, 3) := by decide +kernel
theorem dX8_queue_17 : decode cX8_queue 17 = .ok (.iaload, 1) := by decide +kernel
theorem dX8_queue_18 : decode cX8_queue 18 = .ok (.if_icmp .ge 16, 3) := by decide +kernel
theorem dX8_queue_21 : decode cX8_queue 21 = .ok (.aload_n 0, 1) := by decide +kernel
theorem dX8_queue_22 : decode cX8_queue 22 = .ok (.getfield 7, 3) := by decide +kernel
theorem dX8_queue_25 : decode cX8_queue 25 = .ok (.sipush 420, 3) := by decide +kernel
theorem dX8_queue_28 : decode cX8_queue 28 = .ok (.iload_n 1, 1) := by decide +kernel
theorem dX8_queue_29 : decode cX8_queue 29 = .ok (.iadd, 1) := by decide +kernel
theorem dX8_queue_30 : decode cX8_queue 30 = .ok (.iaload, 1) := by decide +kernel
theorem dX8_queue_31 : decode cX8_queue 31 = .ok (.goto 4, 3) := by decide +kernel
theorem dX8_queue_34 : decode cX8_queue 34 = .ok (.iconst (-1), 1) := by decide +kernel
theorem dX8_queue_35 : decode cX8_queue 35 = .ok (.ireturn, 1) := by decide +kernel
theorem dX8_sample_0 : decode cX8_sample 0 = .ok (.iload_n 1, 1) := by decide +kernel
theorem dX8_sample_1 : decode cX8_sample 1 = .ok (.ifCond .lt 12, 3) := by decide +kernel
theorem dX8_sample_4 : decode cX8_sample 4 = .ok (.iload_n 2, 1) := by decide +kernel
theorem dX8_sample_5 : decode cX8_sample 5 = .ok (.iconst 0, 1) := by decide +kernel
theorem dX8_sample_6 : decode cX8_sample 6 = .ok (.iconst 2, 1) := by decide +kernel
theorem dX8_sample_7 : decode cX8_sample 7 = .ok (.invokestatic 51, 3) := by decide +kernel
theorem dX8_sample_10 : decode cX8_sample 10 = .ok (.ifCond .ne 8, 3) := by decide +kernel
theorem dX8_sample_13 : decode cX8_sample 13 = .ok (.aload_n 0, 1) := by decide +kernel
theorem dX8_sample_14 : decode cX8_sample 14 = .ok (.invokevirtual 70, 3) := by decide +kernel
theorem dX8_sample_17 : decode cX8_sample 17 = .ok (.ireturn, 1) := by decide +kernel
theorem dX8_sample_18 : decode cX8_sample 18 = .ok (.iload_n 1, 1) := by decide +kernel
theorem dX8_sample_19 : decode cX8_sample 19 = .ok (.aload_n 0, 1) := by decide +kernel
theorem dX8_sample_20 : decode cX8_sample 20 = .ok (.getfield 7, 3) := by decide +kernel
theorem dX8_sample_23 : decode cX8_sample 23 = .ok (.sipush 429, 3) := by decide +kernel
theorem dX8_sample_26 : decode cX8_sample 26 = .ok (.iaload, 1) := by decide +kernel
theorem dX8_sample_27 : decode cX8_sample 27 = .ok (.if_icmp .ge 20, 3) := by decide +kernel
theorem dX8_sample_30 : decode cX8_sample 30 = .ok (.aload_n 0, 1) := by decide +kernel
theorem dX8_sample_31 : decode cX8_sample 31 = .ok (.getfield 7, 3) := by decide +kernel
theorem dX8_sample_34 : decode cX8_sample 34 = .ok (.sipush 430, 3) := by decide +kernel
theorem dX8_sample_37 : decode cX8_sample 37 = .ok (.iconst 3, 1) := by decide +kernel
theorem dX8_sample_38 : decode cX8_sample 38 = .ok (.iload_n 1, 1) := by decide +kernel
theorem dX8_sample_39 : decode cX8_sample 39 = .ok (.imul, 1) := by decide +kernel
theorem dX8_sample_40 : decode cX8_sample 40 = .ok (.iadd, 1) := by decide +kernel
theorem dX8_sample_41 : decode cX8_sample 41 = .ok (.iload_n 2, 1) := by decide +kernel
theorem dX8_sample_42 : decode cX8_sample 42 = .ok (.iadd, 1) := by decide +kernel
theorem dX8_sample_43 : decode cX8_sample 43 = .ok (.iaload, 1) := by decide +kernel
theorem dX8_sample_44 : decode cX8_sample 44 = .ok (.goto 4, 3) := by decide +kernel
theorem dX8_sample_47 : decode cX8_sample 47 = .ok (.iconst (-1), 1) := by decide +kernel
theorem dX8_sample_48 : decode cX8_sample 48 = .ok (.ireturn, 1) := by decide +kernel
theorem dX8_onNow_0 : decode cX8_onNow 0 = .ok (.iconst 0, 1) := by decide +kernel
theorem dX8_onNow_1 : decode cX8_onNow 1 = .ok (.istore_n 1, 1) := by decide +kernel
theorem dX8_onNow_2 : decode cX8_onNow 2 = .ok (.iconst 0, 1) := by decide +kernel
theorem dX8_onNow_3 : decode cX8_onNow 3 = .ok (.istore_n 2, 1) := by decide +kernel
theorem dX8_onNow_4 : decode cX8_onNow 4 = .ok (.iload_n 2, 1) := by decide +kernel
theorem dX8_onNow_5 : decode cX8_onNow 5 = .ok (.aload_n 0, 1) := by decide +kernel
theorem dX8_onNow_6 : decode cX8_onNow 6 = .ok (.getfield 7, 3) := by decide +kernel
theorem dX8_onNow_9 : decode cX8_onNow 9 = .ok (.bipush 70, 2) := by decide +kernel
theorem dX8_onNow_11 : decode cX8_onNow 11 = .ok (.iaload, 1) := by decide +kernel
theorem dX8_onNow_12 : decode cX8_onNow 12 = .ok (.if_icmp .ge 21, 3) := by decide +kernel
theorem dX8_onNow_15 : decode cX8_onNow 15 = .ok (.iload_n 1, 1) := by decide +kernel
theorem dX8_onNow_16 : decode cX8_onNow 16 = .ok (.aload_n 0, 1) := by decide +kernel
theorem dX8_onNow_17 : decode cX8_onNow 17 = .ok (.iload_n 2, 1) := by decide +kernel
theorem dX8_onNow_18 : decode cX8_onNow 18 = .ok (.bipush 9, 2) := by decide +kernel
theorem dX8_onNow_20 : decode cX8_onNow 20 = .ok (.invokevirtual 63, 3) := by decide +kernel
theorem dX8_onNow_23 : decode cX8_onNow 23 = .ok (.iload_n 2, 1) := by decide +kernel
theorem dX8_onNow_24 : decode cX8_onNow 24 = .ok (.ishl, 1) := by decide +kernel
theorem dX8_onNow_25 : decode cX8_onNow 25 = .ok (.ior, 1) := by decide +kernel
theorem dX8_onNow_26 : decode cX8_onNow 26 = .ok (.istore_n 1, 1) := by decide +kernel
theorem dX8_onNow_27 : decode cX8_onNow 27 = .ok (.iinc 2 1, 3) := by decide +kernel
theorem dX8_onNow_30 : decode cX8_onNow 30 = .ok (.goto (-26), 3) := by decide +kernel
theorem dX8_onNow_33 : decode cX8_onNow 33 = .ok (.iload_n 1, 1) := by decide +kernel
theorem dX8_onNow_34 : decode cX8_onNow 34 = .ok (.ireturn, 1) := by decide +kernel
theorem dX8_toldOf_0 : decode cX8_toldOf 0 = .ok (.iload_n 1, 1) := by decide +kernel
theorem dX8_toldOf_1 : decode cX8_toldOf 1 = .ok (.tableswitch 111 0 7 #[47, 54, 62, 70, 79, 88, 97, 106], 47) := by decide +kernel
theorem dX8_toldOf_48 : decode cX8_toldOf 48 = .ok (.aload_n 0, 1) := by decide +kernel
theorem dX8_toldOf_49 : decode cX8_toldOf 49 = .ok (.getfield 7, 3) := by decide +kernel
theorem dX8_toldOf_52 : decode cX8_toldOf 52 = .ok (.iconst 0, 1) := by decide +kernel
theorem dX8_toldOf_53 : decode cX8_toldOf 53 = .ok (.iaload, 1) := by decide +kernel
theorem dX8_toldOf_54 : decode cX8_toldOf 54 = .ok (.ireturn, 1) := by decide +kernel
theorem dX8_toldOf_55 : decode cX8_toldOf 55 = .ok (.aload_n 0, 1) := by decide +kernel
theorem dX8_toldOf_56 : decode cX8_toldOf 56 = .ok (.getfield 7, 3) := by decide +kernel
theorem dX8_toldOf_59 : decode cX8_toldOf 59 = .ok (.bipush 9, 2) := by decide +kernel
theorem dX8_toldOf_61 : decode cX8_toldOf 61 = .ok (.iaload, 1) := by decide +kernel
theorem dX8_toldOf_62 : decode cX8_toldOf 62 = .ok (.ireturn, 1) := by decide +kernel
theorem dX8_toldOf_63 : decode cX8_toldOf 63 = .ok (.aload_n 0, 1) := by decide +kernel
theorem dX8_toldOf_64 : decode cX8_toldOf 64 = .ok (.getfield 7, 3) := by decide +kernel
theorem dX8_toldOf_67 : decode cX8_toldOf 67 = .ok (.bipush 70, 2) := by decide +kernel
theorem dX8_toldOf_69 : decode cX8_toldOf 69 = .ok (.iaload, 1) := by decide +kernel
theorem dX8_toldOf_70 : decode cX8_toldOf 70 = .ok (.ireturn, 1) := by decide +kernel
theorem dX8_toldOf_71 : decode cX8_toldOf 71 = .ok (.aload_n 0, 1) := by decide +kernel
theorem dX8_toldOf_72 : decode cX8_toldOf 72 = .ok (.getfield 7, 3) := by decide +kernel
theorem dX8_toldOf_75 : decode cX8_toldOf 75 = .ok (.sipush 426, 3) := by decide +kernel
theorem dX8_toldOf_78 : decode cX8_toldOf 78 = .ok (.iaload, 1) := by decide +kernel
theorem dX8_toldOf_79 : decode cX8_toldOf 79 = .ok (.ireturn, 1) := by decide +kernel
theorem dX8_toldOf_80 : decode cX8_toldOf 80 = .ok (.aload_n 0, 1) := by decide +kernel
theorem dX8_toldOf_81 : decode cX8_toldOf 81 = .ok (.getfield 7, 3) := by decide +kernel
theorem dX8_toldOf_84 : decode cX8_toldOf 84 = .ok (.sipush 429, 3) := by decide +kernel
theorem dX8_toldOf_87 : decode cX8_toldOf 87 = .ok (.iaload, 1) := by decide +kernel
theorem dX8_toldOf_88 : decode cX8_toldOf 88 = .ok (.ireturn, 1) := by decide +kernel
theorem dX8_toldOf_89 : decode cX8_toldOf 89 = .ok (.aload_n 0, 1) := by decide +kernel
theorem dX8_toldOf_90 : decode cX8_toldOf 90 = .ok (.getfield 7, 3) := by decide +kernel
theorem dX8_toldOf_93 : decode cX8_toldOf 93 = .ok (.sipush 466, 3) := by decide +kernel
theorem dX8_toldOf_96 : decode cX8_toldOf 96 = .ok (.iaload, 1) := by decide +kernel
theorem dX8_toldOf_97 : decode cX8_toldOf 97 = .ok (.ireturn, 1) := by decide +kernel
theorem dX8_toldOf_98 : decode cX8_toldOf 98 = .ok (.aload_n 0, 1) := by decide +kernel
theorem dX8_toldOf_99 : decode cX8_toldOf 99 = .ok (.getfield 7, 3) := by decide +kernel
theorem dX8_toldOf_102 : decode cX8_toldOf 102 = .ok (.sipush 428, 3) := by decide +kernel
theorem dX8_toldOf_105 : decode cX8_toldOf 105 = .ok (.iaload, 1) := by decide +kernel
theorem dX8_toldOf_106 : decode cX8_toldOf 106 = .ok (.ireturn, 1) := by decide +kernel
theorem dX8_toldOf_107 : decode cX8_toldOf 107 = .ok (.aload_n 0, 1) := by decide +kernel
theorem dX8_toldOf_108 : decode cX8_toldOf 108 = .ok (.invokevirtual 200, 3) := by decide +kernel
theorem dX8_toldOf_111 : decode cX8_toldOf 111 = .ok (.ireturn, 1) := by decide +kernel
theorem dX8_toldOf_112 : decode cX8_toldOf 112 = .ok (.aload_n 0, 1) := by decide +kernel
theorem dX8_toldOf_113 : decode cX8_toldOf 113 = .ok (.getfield 7, 3) := by decide +kernel
theorem dX8_toldOf_116 : decode cX8_toldOf 116 = .ok (.sipush 427, 3) := by decide +kernel
theorem dX8_toldOf_119 : decode cX8_toldOf 119 = .ok (.iaload, 1) := by decide +kernel
theorem dX8_toldOf_120 : decode cX8_toldOf 120 = .ok (.ireturn, 1) := by decide +kernel
theorem dX8_told_0 : decode cX8_told 0 = .ok (.iload_n 1, 1) := by decide +kernel
theorem dX8_told_1 : decode cX8_told 1 = .ok (.iconst 0, 1) := by decide +kernel
theorem dX8_told_2 : decode cX8_told 2 = .ok (.bipush 8, 2) := by decide +kernel
theorem dX8_told_4 : decode cX8_told 4 = .ok (.invokestatic 51, 3) := by decide +kernel
theorem dX8_told_7 : decode cX8_told 7 = .ok (.ifCond .eq 11, 3) := by decide +kernel
theorem dX8_told_10 : decode cX8_told 10 = .ok (.aload_n 0, 1) := by decide +kernel
theorem dX8_told_11 : decode cX8_told 11 = .ok (.iload_n 1, 1) := by decide +kernel
theorem dX8_told_12 : decode cX8_told 12 = .ok (.invokevirtual 203, 3) := by decide +kernel
theorem dX8_told_15 : decode cX8_told 15 = .ok (.goto 7, 3) := by decide +kernel
theorem dX8_told_18 : decode cX8_told 18 = .ok (.aload_n 0, 1) := by decide +kernel
theorem dX8_told_19 : decode cX8_told 19 = .ok (.invokevirtual 70, 3) := by decide +kernel
theorem dX8_told_22 : decode cX8_told 22 = .ok (.ireturn, 1) := by decide +kernel
theorem dX8_type_0 : decode cX8_type 0 = .ok (.iload_n 1, 1) := by decide +kernel
theorem dX8_type_1 : decode cX8_type 1 = .ok (.iconst 0, 1) := by decide +kernel
theorem dX8_type_2 : decode cX8_type 2 = .ok (.bipush 127, 2) := by decide +kernel
theorem dX8_type_4 : decode cX8_type 4 = .ok (.invokestatic 51, 3) := by decide +kernel
theorem dX8_type_7 : decode cX8_type 7 = .ok (.ifCond .ne 8, 3) := by decide +kernel
theorem dX8_type_10 : decode cX8_type 10 = .ok (.aload_n 0, 1) := by decide +kernel
theorem dX8_type_11 : decode cX8_type 11 = .ok (.invokevirtual 70, 3) := by decide +kernel
theorem dX8_type_14 : decode cX8_type 14 = .ok (.ireturn, 1) := by decide +kernel
theorem dX8_type_15 : decode cX8_type 15 = .ok (.aload_n 0, 1) := by decide +kernel
theorem dX8_type_16 : decode cX8_type 16 = .ok (.getfield 206, 3) := by decide +kernel
theorem dX8_type_19 : decode cX8_type 19 = .ok (.bipush 120, 2) := by decide +kernel
theorem dX8_type_21 : decode cX8_type 21 = .ok (.if_icmp .ne 8, 3) := by decide +kernel
theorem dX8_type_24 : decode cX8_type 24 = .ok (.aload_n 0, 1) := by decide +kernel
theorem dX8_type_25 : decode cX8_type 25 = .ok (.invokevirtual 98, 3) := by decide +kernel
theorem dX8_type_28 : decode cX8_type 28 = .ok (.ireturn, 1) := by decide +kernel
theorem dX8_type_29 : decode cX8_type 29 = .ok (.aload_n 0, 1) := by decide +kernel
theorem dX8_type_30 : decode cX8_type 30 = .ok (.getfield 22, 3) := by decide +kernel
theorem dX8_type_33 : decode cX8_type 33 = .ok (.aload_n 0, 1) := by decide +kernel
theorem dX8_type_34 : decode cX8_type 34 = .ok (.getfield 206, 3) := by decide +kernel
theorem dX8_type_37 : decode cX8_type 37 = .ok (.iload_n 1, 1) := by decide +kernel
theorem dX8_type_38 : decode cX8_type 38 = .ok (.iastore, 1) := by decide +kernel
theorem dX8_type_39 : decode cX8_type 39 = .ok (.aload_n 0, 1) := by decide +kernel
theorem dX8_type_40 : decode cX8_type 40 = .ok (.dup, 1) := by decide +kernel
theorem dX8_type_41 : decode cX8_type 41 = .ok (.getfield 206, 3) := by decide +kernel
theorem dX8_type_44 : decode cX8_type 44 = .ok (.iconst 1, 1) := by decide +kernel
theorem dX8_type_45 : decode cX8_type 45 = .ok (.iadd, 1) := by decide +kernel
theorem dX8_type_46 : decode cX8_type 46 = .ok (.putfield 206, 3) := by decide +kernel
theorem dX8_type_49 : decode cX8_type 49 = .ok (.aload_n 0, 1) := by decide +kernel
theorem dX8_type_50 : decode cX8_type 50 = .ok (.getfield 206, 3) := by decide +kernel
theorem dX8_type_53 : decode cX8_type 53 = .ok (.ireturn, 1) := by decide +kernel
theorem dX8_clear_0 : decode cX8_clear 0 = .ok (.aload_n 0, 1) := by decide +kernel
theorem dX8_clear_1 : decode cX8_clear 1 = .ok (.getfield 206, 3) := by decide +kernel
theorem dX8_clear_4 : decode cX8_clear 4 = .ok (.istore_n 1, 1) := by decide +kernel
theorem dX8_clear_5 : decode cX8_clear 5 = .ok (.aload_n 0, 1) := by decide +kernel
theorem dX8_clear_6 : decode cX8_clear 6 = .ok (.iconst 0, 1) := by decide +kernel
theorem dX8_clear_7 : decode cX8_clear 7 = .ok (.putfield 206, 3) := by decide +kernel
theorem dX8_clear_10 : decode cX8_clear 10 = .ok (.iload_n 1, 1) := by decide +kernel
theorem dX8_clear_11 : decode cX8_clear 11 = .ok (.ireturn, 1) := by decide +kernel
theorem dX8_isAt_0 : decode cX8_isAt 0 = .ok (.aload_n 0, 1) := by decide +kernel
theorem dX8_isAt_1 : decode cX8_isAt 1 = .ok (.getfield 209, 3) := by decide +kernel
theorem dX8_isAt_4 : decode cX8_isAt 4 = .ok (.aload_n 0, 1) := by decide +kernel
theorem dX8_isAt_5 : decode cX8_isAt 5 = .ok (.getfield 206, 3) := by decide +kernel
theorem dX8_isAt_8 : decode cX8_isAt 8 = .ok (.if_icmp .ge 24, 3) := by decide +kernel
theorem dX8_isAt_11 : decode cX8_isAt 11 = .ok (.aload_n 0, 1) := by decide +kernel
theorem dX8_isAt_12 : decode cX8_isAt 12 = .ok (.getfield 22, 3) := by decide +kernel
theorem dX8_isAt_15 : decode cX8_isAt 15 = .ok (.aload_n 0, 1) := by decide +kernel
theorem dX8_isAt_16 : decode cX8_isAt 16 = .ok (.getfield 209, 3) := by decide +kernel
theorem dX8_isAt_19 : decode cX8_isAt 19 = .ok (.iaload, 1) := by decide +kernel
theorem dX8_isAt_20 : decode cX8_isAt 20 = .ok (.iload_n 1, 1) := by decide +kernel
theorem dX8_isAt_21 : decode cX8_isAt 21 = .ok (.iload_n 2, 1) := by decide +kernel
theorem dX8_isAt_22 : decode cX8_isAt 22 = .ok (.invokestatic 51, 3) := by decide +kernel
theorem dX8_isAt_25 : decode cX8_isAt 25 = .ok (.ifCond .eq 7, 3) := by decide +kernel
theorem dX8_isAt_28 : decode cX8_isAt 28 = .ok (.iconst 1, 1) := by decide +kernel
theorem dX8_isAt_29 : decode cX8_isAt 29 = .ok (.goto 4, 3) := by decide +kernel
theorem dX8_isAt_32 : decode cX8_isAt 32 = .ok (.iconst 0, 1) := by decide +kernel
theorem dX8_isAt_33 : decode cX8_isAt 33 = .ok (.ireturn, 1) := by decide +kernel
theorem dX8_blanks_0 : decode cX8_blanks 0 = .ok (.aload_n 0, 1) := by decide +kernel
theorem dX8_blanks_1 : decode cX8_blanks 1 = .ok (.bipush 32, 2) := by decide +kernel
theorem dX8_blanks_3 : decode cX8_blanks 3 = .ok (.bipush 32, 2) := by decide +kernel
theorem dX8_blanks_5 : decode cX8_blanks 5 = .ok (.invokevirtual 212, 3) := by decide +kernel
theorem dX8_blanks_8 : decode cX8_blanks 8 = .ok (.ifCond .eq 16, 3) := by decide +kernel
theorem dX8_blanks_11 : decode cX8_blanks 11 = .ok (.aload_n 0, 1) := by decide +kernel
theorem dX8_blanks_12 : decode cX8_blanks 12 = .ok (.dup, 1) := by decide +kernel
theorem dX8_blanks_13 : decode cX8_blanks 13 = .ok (.getfield 209, 3) := by decide +kernel
theorem dX8_blanks_16 : decode cX8_blanks 16 = .ok (.iconst 1, 1) := by decide +kernel
theorem dX8_blanks_17 : decode cX8_blanks 17 = .ok (.iadd, 1) := by decide +kernel
theorem dX8_blanks_18 : decode cX8_blanks 18 = .ok (.putfield 209, 3) := by decide +kernel
theorem dX8_blanks_21 : decode cX8_blanks 21 = .ok (.goto (-21), 3) := by decide +kernel
theorem dX8_blanks_24 : decode cX8_blanks 24 = .ok (.return_, 1) := by decide +kernel
theorem dX8_fails_0 : decode cX8_fails 0 = .ok (.aload_n 0, 1) := by decide +kernel
theorem dX8_fails_1 : decode cX8_fails 1 = .ok (.iload_n 1, 1) := by decide +kernel
theorem dX8_fails_2 : decode cX8_fails 2 = .ok (.putfield 215, 3) := by decide +kernel
theorem dX8_fails_5 : decode cX8_fails 5 = .ok (.iconst 0, 1) := by decide +kernel
theorem dX8_fails_6 : decode cX8_fails 6 = .ok (.ireturn, 1) := by decide +kernel
theorem dX8_leastOf_0 : decode cX8_leastOf 0 = .ok (.iload_n 0, 1) := by decide +kernel
theorem dX8_leastOf_1 : decode cX8_leastOf 1 = .ok (.bipush 109, 2) := by decide +kernel
theorem dX8_leastOf_3 : decode cX8_leastOf 3 = .ok (.if_icmp .eq 9, 3) := by decide +kernel
theorem dX8_leastOf_6 : decode cX8_leastOf 6 = .ok (.iload_n 0, 1) := by decide +kernel
theorem dX8_leastOf_7 : decode cX8_leastOf 7 = .ok (.bipush 114, 2) := by decide +kernel
theorem dX8_leastOf_9 : decode cX8_leastOf 9 = .ok (.if_icmp .ne 7, 3) := by decide +kernel
theorem dX8_leastOf_12 : decode cX8_leastOf 12 = .ok (.iconst 2, 1) := by decide +kernel
theorem dX8_leastOf_13 : decode cX8_leastOf 13 = .ok (.goto 34, 3) := by decide +kernel
theorem dX8_leastOf_16 : decode cX8_leastOf 16 = .ok (.iload_n 0, 1) := by decide +kernel
theorem dX8_leastOf_17 : decode cX8_leastOf 17 = .ok (.bipush 99, 2) := by decide +kernel
theorem dX8_leastOf_19 : decode cX8_leastOf 19 = .ok (.if_icmp .ne 7, 3) := by decide +kernel
theorem dX8_leastOf_22 : decode cX8_leastOf 22 = .ok (.iconst 3, 1) := by decide +kernel
theorem dX8_leastOf_23 : decode cX8_leastOf 23 = .ok (.goto 24, 3) := by decide +kernel
theorem dX8_leastOf_26 : decode cX8_leastOf 26 = .ok (.iload_n 0, 1) := by decide +kernel
theorem dX8_leastOf_27 : decode cX8_leastOf 27 = .ok (.bipush 102, 2) := by decide +kernel
theorem dX8_leastOf_29 : decode cX8_leastOf 29 = .ok (.if_icmp .ne 7, 3) := by decide +kernel
theorem dX8_leastOf_32 : decode cX8_leastOf 32 = .ok (.iconst 1, 1) := by decide +kernel
theorem dX8_leastOf_33 : decode cX8_leastOf 33 = .ok (.goto 14, 3) := by decide +kernel
theorem dX8_leastOf_36 : decode cX8_leastOf 36 = .ok (.iload_n 0, 1) := by decide +kernel
theorem dX8_leastOf_37 : decode cX8_leastOf 37 = .ok (.bipush 103, 2) := by decide +kernel
theorem dX8_leastOf_39 : decode cX8_leastOf 39 = .ok (.if_icmp .ne 7, 3) := by decide +kernel
theorem dX8_leastOf_42 : decode cX8_leastOf 42 = .ok (.iconst 5, 1) := by decide +kernel
theorem dX8_leastOf_43 : decode cX8_leastOf 43 = .ok (.goto 4, 3) := by decide +kernel
theorem dX8_leastOf_46 : decode cX8_leastOf 46 = .ok (.iconst (-1), 1) := by decide +kernel
theorem dX8_leastOf_47 : decode cX8_leastOf 47 = .ok (.ireturn, 1) := by decide +kernel
theorem dX8_takesNumber_0 : decode cX8_takesNumber 0 = .ok (.aload_n 0, 1) := by decide +kernel
theorem dX8_takesNumber_1 : decode cX8_takesNumber 1 = .ok (.getfield 209, 3) := by decide +kernel
theorem dX8_takesNumber_4 : decode cX8_takesNumber 4 = .ok (.istore_n 2, 1) := by decide +kernel
theorem dX8_takesNumber_5 : decode cX8_takesNumber 5 = .ok (.iconst 0, 1) := by decide +kernel
theorem dX8_takesNumber_6 : decode cX8_takesNumber 6 = .ok (.istore_n 3, 1) := by decide +kernel
theorem dX8_takesNumber_7 : decode cX8_takesNumber 7 = .ok (.aload_n 0, 1) := by decide +kernel
theorem dX8_takesNumber_8 : decode cX8_takesNumber 8 = .ok (.bipush 48, 2) := by decide +kernel
theorem dX8_takesNumber_10 : decode cX8_takesNumber 10 = .ok (.bipush 57, 2) := by decide +kernel
theorem dX8_takesNumber_12 : decode cX8_takesNumber 12 = .ok (.invokevirtual 212, 3) := by decide +kernel
theorem dX8_takesNumber_15 : decode cX8_takesNumber 15 = .ok (.ifCond .eq 53, 3) := by decide +kernel
theorem dX8_takesNumber_18 : decode cX8_takesNumber 18 = .ok (.aload_n 0, 1) := by decide +kernel
theorem dX8_takesNumber_19 : decode cX8_takesNumber 19 = .ok (.getfield 209, 3) := by decide +kernel
theorem dX8_takesNumber_22 : decode cX8_takesNumber 22 = .ok (.iload_n 2, 1) := by decide +kernel
theorem dX8_takesNumber_23 : decode cX8_takesNumber 23 = .ok (.iconst 3, 1) := by decide +kernel
theorem dX8_takesNumber_24 : decode cX8_takesNumber 24 = .ok (.iadd, 1) := by decide +kernel
theorem dX8_takesNumber_25 : decode cX8_takesNumber 25 = .ok (.if_icmp .ne 12, 3) := by decide +kernel
theorem dX8_takesNumber_28 : decode cX8_takesNumber 28 = .ok (.aload_n 0, 1) := by decide +kernel
theorem dX8_takesNumber_29 : decode cX8_takesNumber 29 = .ok (.aload_n 0, 1) := by decide +kernel
theorem dX8_takesNumber_30 : decode cX8_takesNumber 30 = .ok (.getfield 209, 3) := by decide +kernel
theorem dX8_takesNumber_33 : decode cX8_takesNumber 33 = .ok (.invokevirtual 218, 3) := by decide +kernel
theorem dX8_takesNumber_36 : decode cX8_takesNumber 36 = .ok (.ireturn, 1) := by decide +kernel
theorem dX8_takesNumber_37 : decode cX8_takesNumber 37 = .ok (.bipush 10, 2) := by decide +kernel
theorem dX8_takesNumber_39 : decode cX8_takesNumber 39 = .ok (.iload_n 3, 1) := by decide +kernel
theorem dX8_takesNumber_40 : decode cX8_takesNumber 40 = .ok (.imul, 1) := by decide +kernel
theorem dX8_takesNumber_41 : decode cX8_takesNumber 41 = .ok (.aload_n 0, 1) := by decide +kernel
theorem dX8_takesNumber_42 : decode cX8_takesNumber 42 = .ok (.getfield 22, 3) := by decide +kernel
theorem dX8_takesNumber_45 : decode cX8_takesNumber 45 = .ok (.aload_n 0, 1) := by decide +kernel
theorem dX8_takesNumber_46 : decode cX8_takesNumber 46 = .ok (.getfield 209, 3) := by decide +kernel
theorem dX8_takesNumber_49 : decode cX8_takesNumber 49 = .ok (.iaload, 1) := by decide +kernel
theorem dX8_takesNumber_50 : decode cX8_takesNumber 50 = .ok (.iadd, 1) := by decide +kernel
theorem dX8_takesNumber_51 : decode cX8_takesNumber 51 = .ok (.bipush 48, 2) := by decide +kernel
theorem dX8_takesNumber_53 : decode cX8_takesNumber 53 = .ok (.isub, 1) := by decide +kernel
theorem dX8_takesNumber_54 : decode cX8_takesNumber 54 = .ok (.istore_n 3, 1) := by decide +kernel
theorem dX8_takesNumber_55 : decode cX8_takesNumber 55 = .ok (.aload_n 0, 1) := by decide +kernel
theorem dX8_takesNumber_56 : decode cX8_takesNumber 56 = .ok (.dup, 1) := by decide +kernel
theorem dX8_takesNumber_57 : decode cX8_takesNumber 57 = .ok (.getfield 209, 3) := by decide +kernel
theorem dX8_takesNumber_60 : decode cX8_takesNumber 60 = .ok (.iconst 1, 1) := by decide +kernel
theorem dX8_takesNumber_61 : decode cX8_takesNumber 61 = .ok (.iadd, 1) := by decide +kernel
theorem dX8_takesNumber_62 : decode cX8_takesNumber 62 = .ok (.putfield 209, 3) := by decide +kernel
theorem dX8_takesNumber_65 : decode cX8_takesNumber 65 = .ok (.goto (-58), 3) := by decide +kernel
theorem dX8_takesNumber_68 : decode cX8_takesNumber 68 = .ok (.aload_n 0, 1) := by decide +kernel
theorem dX8_takesNumber_69 : decode cX8_takesNumber 69 = .ok (.getfield 40, 3) := by decide +kernel
theorem dX8_takesNumber_72 : decode cX8_takesNumber 72 = .ok (.iload_n 1, 1) := by decide +kernel
theorem dX8_takesNumber_73 : decode cX8_takesNumber 73 = .ok (.iload_n 3, 1) := by decide +kernel
theorem dX8_takesNumber_74 : decode cX8_takesNumber 74 = .ok (.iastore, 1) := by decide +kernel
theorem dX8_takesNumber_75 : decode cX8_takesNumber 75 = .ok (.iconst 1, 1) := by decide +kernel
theorem dX8_takesNumber_76 : decode cX8_takesNumber 76 = .ok (.ireturn, 1) := by decide +kernel
theorem dX8_takesOrder_0 : decode cX8_takesOrder 0 = .ok (.aload_n 0, 1) := by decide +kernel
theorem dX8_takesOrder_1 : decode cX8_takesOrder 1 = .ok (.getfield 22, 3) := by decide +kernel
theorem dX8_takesOrder_4 : decode cX8_takesOrder 4 = .ok (.aload_n 0, 1) := by decide +kernel
theorem dX8_takesOrder_5 : decode cX8_takesOrder 5 = .ok (.getfield 209, 3) := by decide +kernel
theorem dX8_takesOrder_8 : decode cX8_takesOrder 8 = .ok (.iaload, 1) := by decide +kernel
theorem dX8_takesOrder_9 : decode cX8_takesOrder 9 = .ok (.istore_n 1, 1) := by decide +kernel
theorem dX8_takesOrder_10 : decode cX8_takesOrder 10 = .ok (.iload_n 1, 1) := by decide +kernel
theorem dX8_takesOrder_11 : decode cX8_takesOrder 11 = .ok (.invokestatic 221, 3) := by decide +kernel
theorem dX8_takesOrder_14 : decode cX8_takesOrder 14 = .ok (.istore_n 2, 1) := by decide +kernel
theorem dX8_takesOrder_15 : decode cX8_takesOrder 15 = .ok (.iload_n 2, 1) := by decide +kernel
theorem dX8_takesOrder_16 : decode cX8_takesOrder 16 = .ok (.ifCond .ge 12, 3) := by decide +kernel
theorem dX8_takesOrder_19 : decode cX8_takesOrder 19 = .ok (.aload_n 0, 1) := by decide +kernel
theorem dX8_takesOrder_20 : decode cX8_takesOrder 20 = .ok (.aload_n 0, 1) := by decide +kernel
theorem dX8_takesOrder_21 : decode cX8_takesOrder 21 = .ok (.getfield 209, 3) := by decide +kernel
theorem dX8_takesOrder_24 : decode cX8_takesOrder 24 = .ok (.invokevirtual 218, 3) := by decide +kernel
theorem dX8_takesOrder_27 : decode cX8_takesOrder 27 = .ok (.ireturn, 1) := by decide +kernel
theorem dX8_takesOrder_28 : decode cX8_takesOrder 28 = .ok (.aload_n 0, 1) := by decide +kernel
theorem dX8_takesOrder_29 : decode cX8_takesOrder 29 = .ok (.getfield 34, 3) := by decide +kernel
theorem dX8_takesOrder_32 : decode cX8_takesOrder 32 = .ok (.aload_n 0, 1) := by decide +kernel
theorem dX8_takesOrder_33 : decode cX8_takesOrder 33 = .ok (.getfield 224, 3) := by decide +kernel
theorem dX8_takesOrder_36 : decode cX8_takesOrder 36 = .ok (.iload_n 1, 1) := by decide +kernel
theorem dX8_takesOrder_37 : decode cX8_takesOrder 37 = .ok (.iastore, 1) := by decide +kernel
theorem dX8_takesOrder_38 : decode cX8_takesOrder 38 = .ok (.aload_n 0, 1) := by decide +kernel
theorem dX8_takesOrder_39 : decode cX8_takesOrder 39 = .ok (.dup, 1) := by decide +kernel
theorem dX8_takesOrder_40 : decode cX8_takesOrder 40 = .ok (.getfield 209, 3) := by decide +kernel
theorem dX8_takesOrder_43 : decode cX8_takesOrder 43 = .ok (.iconst 1, 1) := by decide +kernel
theorem dX8_takesOrder_44 : decode cX8_takesOrder 44 = .ok (.iadd, 1) := by decide +kernel
theorem dX8_takesOrder_45 : decode cX8_takesOrder 45 = .ok (.putfield 209, 3) := by decide +kernel
theorem dX8_takesOrder_48 : decode cX8_takesOrder 48 = .ok (.iload_n 1, 1) := by decide +kernel
theorem dX8_takesOrder_49 : decode cX8_takesOrder 49 = .ok (.bipush 103, 2) := by decide +kernel
theorem dX8_takesOrder_51 : decode cX8_takesOrder 51 = .ok (.if_icmp .ne 8, 3) := by decide +kernel
theorem dX8_takesOrder_54 : decode cX8_takesOrder 54 = .ok (.bipush 8, 2) := by decide +kernel
theorem dX8_takesOrder_56 : decode cX8_takesOrder 56 = .ok (.goto 4, 3) := by decide +kernel
theorem dX8_takesOrder_59 : decode cX8_takesOrder 59 = .ok (.iload_n 2, 1) := by decide +kernel
theorem dX8_takesOrder_60 : decode cX8_takesOrder 60 = .ok (.istore_n 3, 1) := by decide +kernel
theorem dX8_takesOrder_61 : decode cX8_takesOrder 61 = .ok (.iconst 0, 1) := by decide +kernel
theorem dX8_takesOrder_62 : decode cX8_takesOrder 62 = .ok (.istore 4, 2) := by decide +kernel
theorem dX8_takesOrder_64 : decode cX8_takesOrder 64 = .ok (.aload_n 0, 1) := by decide +kernel
theorem dX8_takesOrder_65 : decode cX8_takesOrder 65 = .ok (.invokevirtual 227, 3) := by decide +kernel
theorem dX8_takesOrder_68 : decode cX8_takesOrder 68 = .ok (.aload_n 0, 1) := by decide +kernel
theorem dX8_takesOrder_69 : decode cX8_takesOrder 69 = .ok (.bipush 48, 2) := by decide +kernel
theorem dX8_takesOrder_71 : decode cX8_takesOrder 71 = .ok (.bipush 57, 2) := by decide +kernel
theorem dX8_takesOrder_73 : decode cX8_takesOrder 73 = .ok (.invokevirtual 212, 3) := by decide +kernel
theorem dX8_takesOrder_76 : decode cX8_takesOrder 76 = .ok (.ifCond .eq 40, 3) := by decide +kernel
theorem dX8_takesOrder_79 : decode cX8_takesOrder 79 = .ok (.iload 4, 2) := by decide +kernel
theorem dX8_takesOrder_81 : decode cX8_takesOrder 81 = .ok (.iload_n 3, 1) := by decide +kernel
theorem dX8_takesOrder_82 : decode cX8_takesOrder 82 = .ok (.if_icmp .ge 34, 3) := by decide +kernel
theorem dX8_takesOrder_85 : decode cX8_takesOrder 85 = .ok (.aload_n 0, 1) := by decide +kernel
theorem dX8_takesOrder_86 : decode cX8_takesOrder 86 = .ok (.aload_n 0, 1) := by decide +kernel
theorem dX8_takesOrder_87 : decode cX8_takesOrder 87 = .ok (.getfield 37, 3) := by decide +kernel
theorem dX8_takesOrder_90 : decode cX8_takesOrder 90 = .ok (.aload_n 0, 1) := by decide +kernel
theorem dX8_takesOrder_91 : decode cX8_takesOrder 91 = .ok (.getfield 224, 3) := by decide +kernel
theorem dX8_takesOrder_94 : decode cX8_takesOrder 94 = .ok (.iaload, 1) := by decide +kernel
theorem dX8_takesOrder_95 : decode cX8_takesOrder 95 = .ok (.iload 4, 2) := by decide +kernel
theorem dX8_takesOrder_97 : decode cX8_takesOrder 97 = .ok (.iadd, 1) := by decide +kernel
theorem dX8_takesOrder_98 : decode cX8_takesOrder 98 = .ok (.invokevirtual 230, 3) := by decide +kernel
theorem dX8_takesOrder_101 : decode cX8_takesOrder 101 = .ok (.ifCond .ne 5, 3) := by decide +kernel
theorem dX8_takesOrder_104 : decode cX8_takesOrder 104 = .ok (.iconst 0, 1) := by decide +kernel
theorem dX8_takesOrder_105 : decode cX8_takesOrder 105 = .ok (.ireturn, 1) := by decide +kernel
theorem dX8_takesOrder_106 : decode cX8_takesOrder 106 = .ok (.iinc 4 1, 3) := by decide +kernel
theorem dX8_takesOrder_109 : decode cX8_takesOrder 109 = .ok (.aload_n 0, 1) := by decide +kernel
theorem dX8_takesOrder_110 : decode cX8_takesOrder 110 = .ok (.invokevirtual 227, 3) := by decide +kernel
theorem dX8_takesOrder_113 : decode cX8_takesOrder 113 = .ok (.goto (-45), 3) := by decide +kernel
theorem dX8_takesOrder_116 : decode cX8_takesOrder 116 = .ok (.iload 4, 2) := by decide +kernel
theorem dX8_takesOrder_118 : decode cX8_takesOrder 118 = .ok (.iload_n 2, 1) := by decide +kernel
theorem dX8_takesOrder_119 : decode cX8_takesOrder 119 = .ok (.if_icmp .lt 14, 3) := by decide +kernel
theorem dX8_takesOrder_122 : decode cX8_takesOrder 122 = .ok (.aload_n 0, 1) := by decide +kernel
theorem dX8_takesOrder_123 : decode cX8_takesOrder 123 = .ok (.bipush 59, 2) := by decide +kernel
theorem dX8_takesOrder_125 : decode cX8_takesOrder 125 = .ok (.bipush 59, 2) := by decide +kernel
theorem dX8_takesOrder_127 : decode cX8_takesOrder 127 = .ok (.invokevirtual 212, 3) := by decide +kernel
theorem dX8_takesOrder_130 : decode cX8_takesOrder 130 = .ok (.ifCond .ne 12, 3) := by decide +kernel
theorem dX8_takesOrder_133 : decode cX8_takesOrder 133 = .ok (.aload_n 0, 1) := by decide +kernel
theorem dX8_takesOrder_134 : decode cX8_takesOrder 134 = .ok (.aload_n 0, 1) := by decide +kernel
theorem dX8_takesOrder_135 : decode cX8_takesOrder 135 = .ok (.getfield 209, 3) := by decide +kernel
theorem dX8_takesOrder_138 : decode cX8_takesOrder 138 = .ok (.invokevirtual 218, 3) := by decide +kernel
theorem dX8_takesOrder_141 : decode cX8_takesOrder 141 = .ok (.ireturn, 1) := by decide +kernel
theorem dX8_takesOrder_142 : decode cX8_takesOrder 142 = .ok (.aload_n 0, 1) := by decide +kernel
theorem dX8_takesOrder_143 : decode cX8_takesOrder 143 = .ok (.dup, 1) := by decide +kernel
theorem dX8_takesOrder_144 : decode cX8_takesOrder 144 = .ok (.getfield 209, 3) := by decide +kernel
theorem dX8_takesOrder_147 : decode cX8_takesOrder 147 = .ok (.iconst 1, 1) := by decide +kernel
theorem dX8_takesOrder_148 : decode cX8_takesOrder 148 = .ok (.iadd, 1) := by decide +kernel
theorem dX8_takesOrder_149 : decode cX8_takesOrder 149 = .ok (.putfield 209, 3) := by decide +kernel
theorem dX8_takesOrder_152 : decode cX8_takesOrder 152 = .ok (.aload_n 0, 1) := by decide +kernel
theorem dX8_takesOrder_153 : decode cX8_takesOrder 153 = .ok (.dup, 1) := by decide +kernel
theorem dX8_takesOrder_154 : decode cX8_takesOrder 154 = .ok (.getfield 224, 3) := by decide +kernel
theorem dX8_takesOrder_157 : decode cX8_takesOrder 157 = .ok (.iconst 1, 1) := by decide +kernel
theorem dX8_takesOrder_158 : decode cX8_takesOrder 158 = .ok (.iadd, 1) := by decide +kernel
theorem dX8_takesOrder_159 : decode cX8_takesOrder 159 = .ok (.putfield 224, 3) := by decide +kernel
theorem dX8_takesOrder_162 : decode cX8_takesOrder 162 = .ok (.aload_n 0, 1) := by decide +kernel
theorem dX8_takesOrder_163 : decode cX8_takesOrder 163 = .ok (.getfield 37, 3) := by decide +kernel
theorem dX8_takesOrder_166 : decode cX8_takesOrder 166 = .ok (.aload_n 0, 1) := by decide +kernel
theorem dX8_takesOrder_167 : decode cX8_takesOrder 167 = .ok (.getfield 224, 3) := by decide +kernel
theorem dX8_takesOrder_170 : decode cX8_takesOrder 170 = .ok (.aload_n 0, 1) := by decide +kernel
theorem dX8_takesOrder_171 : decode cX8_takesOrder 171 = .ok (.getfield 37, 3) := by decide +kernel
theorem dX8_takesOrder_174 : decode cX8_takesOrder 174 = .ok (.aload_n 0, 1) := by decide +kernel
theorem dX8_takesOrder_175 : decode cX8_takesOrder 175 = .ok (.getfield 224, 3) := by decide +kernel
theorem dX8_takesOrder_178 : decode cX8_takesOrder 178 = .ok (.iconst 1, 1) := by decide +kernel
theorem dX8_takesOrder_179 : decode cX8_takesOrder 179 = .ok (.isub, 1) := by decide +kernel
theorem dX8_takesOrder_180 : decode cX8_takesOrder 180 = .ok (.iaload, 1) := by decide +kernel
theorem dX8_takesOrder_181 : decode cX8_takesOrder 181 = .ok (.iload 4, 2) := by decide +kernel
theorem dX8_takesOrder_183 : decode cX8_takesOrder 183 = .ok (.iadd, 1) := by decide +kernel
theorem dX8_takesOrder_184 : decode cX8_takesOrder 184 = .ok (.iastore, 1) := by decide +kernel
theorem dX8_takesOrder_185 : decode cX8_takesOrder 185 = .ok (.iconst 1, 1) := by decide +kernel
theorem dX8_takesOrder_186 : decode cX8_takesOrder 186 = .ok (.ireturn, 1) := by decide +kernel
theorem dX8_isRead_0 : decode cX8_isRead 0 = .ok (.aload_n 0, 1) := by decide +kernel
theorem dX8_isRead_1 : decode cX8_isRead 1 = .ok (.iconst 0, 1) := by decide +kernel
theorem dX8_isRead_2 : decode cX8_isRead 2 = .ok (.putfield 209, 3) := by decide +kernel
theorem dX8_isRead_5 : decode cX8_isRead 5 = .ok (.aload_n 0, 1) := by decide +kernel
theorem dX8_isRead_6 : decode cX8_isRead 6 = .ok (.iconst 0, 1) := by decide +kernel
theorem dX8_isRead_7 : decode cX8_isRead 7 = .ok (.putfield 224, 3) := by decide +kernel
theorem dX8_isRead_10 : decode cX8_isRead 10 = .ok (.aload_n 0, 1) := by decide +kernel
theorem dX8_isRead_11 : decode cX8_isRead 11 = .ok (.getfield 37, 3) := by decide +kernel
theorem dX8_isRead_14 : decode cX8_isRead 14 = .ok (.iconst 0, 1) := by decide +kernel
theorem dX8_isRead_15 : decode cX8_isRead 15 = .ok (.iconst 0, 1) := by decide +kernel
theorem dX8_isRead_16 : decode cX8_isRead 16 = .ok (.iastore, 1) := by decide +kernel
theorem dX8_isRead_17 : decode cX8_isRead 17 = .ok (.aload_n 0, 1) := by decide +kernel
theorem dX8_isRead_18 : decode cX8_isRead 18 = .ok (.invokevirtual 227, 3) := by decide +kernel
theorem dX8_isRead_21 : decode cX8_isRead 21 = .ok (.aload_n 0, 1) := by decide +kernel
theorem dX8_isRead_22 : decode cX8_isRead 22 = .ok (.getfield 209, 3) := by decide +kernel
theorem dX8_isRead_25 : decode cX8_isRead 25 = .ok (.aload_n 0, 1) := by decide +kernel
theorem dX8_isRead_26 : decode cX8_isRead 26 = .ok (.getfield 206, 3) := by decide +kernel
theorem dX8_isRead_29 : decode cX8_isRead 29 = .ok (.if_icmp .ge 19, 3) := by decide +kernel
theorem dX8_isRead_32 : decode cX8_isRead 32 = .ok (.aload_n 0, 1) := by decide +kernel
theorem dX8_isRead_33 : decode cX8_isRead 33 = .ok (.invokevirtual 233, 3) := by decide +kernel
theorem dX8_isRead_36 : decode cX8_isRead 36 = .ok (.ifCond .ne 5, 3) := by decide +kernel
theorem dX8_isRead_39 : decode cX8_isRead 39 = .ok (.iconst 0, 1) := by decide +kernel
theorem dX8_isRead_40 : decode cX8_isRead 40 = .ok (.ireturn, 1) := by decide +kernel
theorem dX8_isRead_41 : decode cX8_isRead 41 = .ok (.aload_n 0, 1) := by decide +kernel
theorem dX8_isRead_42 : decode cX8_isRead 42 = .ok (.invokevirtual 227, 3) := by decide +kernel
theorem dX8_isRead_45 : decode cX8_isRead 45 = .ok (.goto (-24), 3) := by decide +kernel
theorem dX8_isRead_48 : decode cX8_isRead 48 = .ok (.aload_n 0, 1) := by decide +kernel
theorem dX8_isRead_49 : decode cX8_isRead 49 = .ok (.getfield 224, 3) := by decide +kernel
theorem dX8_isRead_52 : decode cX8_isRead 52 = .ok (.ifCond .gt 14, 3) := by decide +kernel
theorem dX8_isRead_55 : decode cX8_isRead 55 = .ok (.aload_n 0, 1) := by decide +kernel
theorem dX8_isRead_56 : decode cX8_isRead 56 = .ok (.aload_n 0, 1) := by decide +kernel
theorem dX8_isRead_57 : decode cX8_isRead 57 = .ok (.getfield 206, 3) := by decide +kernel
theorem dX8_isRead_60 : decode cX8_isRead 60 = .ok (.invokevirtual 218, 3) := by decide +kernel
theorem dX8_isRead_63 : decode cX8_isRead 63 = .ok (.ifCond .eq 7, 3) := by decide +kernel
theorem dX8_isRead_66 : decode cX8_isRead 66 = .ok (.iconst 1, 1) := by decide +kernel
theorem dX8_isRead_67 : decode cX8_isRead 67 = .ok (.goto 4, 3) := by decide +kernel
theorem dX8_isRead_70 : decode cX8_isRead 70 = .ok (.iconst 0, 1) := by decide +kernel
theorem dX8_isRead_71 : decode cX8_isRead 71 = .ok (.ireturn, 1) := by decide +kernel
theorem dX8_puts_0 : decode cX8_puts 0 = .ok (.iload_n 1, 1) := by decide +kernel
theorem dX8_puts_1 : decode cX8_puts 1 = .ok (.ifCond .eq 10, 3) := by decide +kernel
theorem dX8_puts_4 : decode cX8_puts 4 = .ok (.aload_n 0, 1) := by decide +kernel
theorem dX8_puts_5 : decode cX8_puts 5 = .ok (.getfield 7, 3) := by decide +kernel
theorem dX8_puts_8 : decode cX8_puts 8 = .ok (.iload_n 2, 1) := by decide +kernel
theorem dX8_puts_9 : decode cX8_puts 9 = .ok (.iload_n 3, 1) := by decide +kernel
theorem dX8_puts_10 : decode cX8_puts 10 = .ok (.iastore, 1) := by decide +kernel
theorem dX8_puts_11 : decode cX8_puts 11 = .ok (.iload_n 1, 1) := by decide +kernel
theorem dX8_puts_12 : decode cX8_puts 12 = .ok (.ireturn, 1) := by decide +kernel
theorem dX8_groupTold_0 : decode cX8_groupTold 0 = .ok (.aload_n 0, 1) := by decide +kernel
theorem dX8_groupTold_1 : decode cX8_groupTold 1 = .ok (.aload_n 0, 1) := by decide +kernel
theorem dX8_groupTold_2 : decode cX8_groupTold 2 = .ok (.getfield 40, 3) := by decide +kernel
theorem dX8_groupTold_5 : decode cX8_groupTold 5 = .ok (.iload_n 1, 1) := by decide +kernel
theorem dX8_groupTold_6 : decode cX8_groupTold 6 = .ok (.iaload, 1) := by decide +kernel
theorem dX8_groupTold_7 : decode cX8_groupTold 7 = .ok (.aload_n 0, 1) := by decide +kernel
theorem dX8_groupTold_8 : decode cX8_groupTold 8 = .ok (.getfield 40, 3) := by decide +kernel
theorem dX8_groupTold_11 : decode cX8_groupTold 11 = .ok (.iload_n 1, 1) := by decide +kernel
theorem dX8_groupTold_12 : decode cX8_groupTold 12 = .ok (.iconst 1, 1) := by decide +kernel
theorem dX8_groupTold_13 : decode cX8_groupTold 13 = .ok (.iadd, 1) := by decide +kernel
theorem dX8_groupTold_14 : decode cX8_groupTold 14 = .ok (.iaload, 1) := by decide +kernel
theorem dX8_groupTold_15 : decode cX8_groupTold 15 = .ok (.aload_n 0, 1) := by decide +kernel
theorem dX8_groupTold_16 : decode cX8_groupTold 16 = .ok (.getfield 40, 3) := by decide +kernel
theorem dX8_groupTold_19 : decode cX8_groupTold 19 = .ok (.iload_n 1, 1) := by decide +kernel
theorem dX8_groupTold_20 : decode cX8_groupTold 20 = .ok (.iconst 2, 1) := by decide +kernel
theorem dX8_groupTold_21 : decode cX8_groupTold 21 = .ok (.iadd, 1) := by decide +kernel
theorem dX8_groupTold_22 : decode cX8_groupTold 22 = .ok (.iaload, 1) := by decide +kernel
theorem dX8_groupTold_23 : decode cX8_groupTold 23 = .ok (.aload_n 0, 1) := by decide +kernel
theorem dX8_groupTold_24 : decode cX8_groupTold 24 = .ok (.getfield 40, 3) := by decide +kernel
theorem dX8_groupTold_27 : decode cX8_groupTold 27 = .ok (.iload_n 1, 1) := by decide +kernel
theorem dX8_groupTold_28 : decode cX8_groupTold 28 = .ok (.iconst 3, 1) := by decide +kernel
theorem dX8_groupTold_29 : decode cX8_groupTold 29 = .ok (.iadd, 1) := by decide +kernel
theorem dX8_groupTold_30 : decode cX8_groupTold 30 = .ok (.iaload, 1) := by decide +kernel
theorem dX8_groupTold_31 : decode cX8_groupTold 31 = .ok (.aload_n 0, 1) := by decide +kernel
theorem dX8_groupTold_32 : decode cX8_groupTold 32 = .ok (.getfield 40, 3) := by decide +kernel
theorem dX8_groupTold_35 : decode cX8_groupTold 35 = .ok (.iload_n 1, 1) := by decide +kernel
theorem dX8_groupTold_36 : decode cX8_groupTold 36 = .ok (.iconst 4, 1) := by decide +kernel
theorem dX8_groupTold_37 : decode cX8_groupTold 37 = .ok (.iadd, 1) := by decide +kernel
theorem dX8_groupTold_38 : decode cX8_groupTold 38 = .ok (.iaload, 1) := by decide +kernel
theorem dX8_groupTold_39 : decode cX8_groupTold 39 = .ok (.invokevirtual 121, 3) := by decide +kernel
theorem dX8_groupTold_42 : decode cX8_groupTold 42 = .ok (.ifCond .eq 15, 3) := by decide +kernel
theorem dX8_groupTold_45 : decode cX8_groupTold 45 = .ok (.aload_n 0, 1) := by decide +kernel
theorem dX8_groupTold_46 : decode cX8_groupTold 46 = .ok (.getfield 7, 3) := by decide +kernel
theorem dX8_groupTold_49 : decode cX8_groupTold 49 = .ok (.bipush 70, 2) := by decide +kernel
theorem dX8_groupTold_51 : decode cX8_groupTold 51 = .ok (.iaload, 1) := by decide +kernel
theorem dX8_groupTold_52 : decode cX8_groupTold 52 = .ok (.bipush 6, 2) := by decide +kernel
theorem dX8_groupTold_54 : decode cX8_groupTold 54 = .ok (.if_icmp .ne 5, 3) := by decide +kernel
theorem dX8_groupTold_57 : decode cX8_groupTold 57 = .ok (.iconst 0, 1) := by decide +kernel
theorem dX8_groupTold_58 : decode cX8_groupTold 58 = .ok (.ireturn, 1) := by decide +kernel
theorem dX8_groupTold_59 : decode cX8_groupTold 59 = .ok (.aload_n 0, 1) := by decide +kernel
theorem dX8_groupTold_60 : decode cX8_groupTold 60 = .ok (.aload_n 0, 1) := by decide +kernel
theorem dX8_groupTold_61 : decode cX8_groupTold 61 = .ok (.getfield 40, 3) := by decide +kernel
theorem dX8_groupTold_64 : decode cX8_groupTold 64 = .ok (.iload_n 1, 1) := by decide +kernel
theorem dX8_groupTold_65 : decode cX8_groupTold 65 = .ok (.iaload, 1) := by decide +kernel
theorem dX8_groupTold_66 : decode cX8_groupTold 66 = .ok (.aload_n 0, 1) := by decide +kernel
theorem dX8_groupTold_67 : decode cX8_groupTold 67 = .ok (.getfield 40, 3) := by decide +kernel
theorem dX8_groupTold_70 : decode cX8_groupTold 70 = .ok (.iload_n 1, 1) := by decide +kernel
theorem dX8_groupTold_71 : decode cX8_groupTold 71 = .ok (.iconst 1, 1) := by decide +kernel
theorem dX8_groupTold_72 : decode cX8_groupTold 72 = .ok (.iadd, 1) := by decide +kernel
theorem dX8_groupTold_73 : decode cX8_groupTold 73 = .ok (.iaload, 1) := by decide +kernel
theorem dX8_groupTold_74 : decode cX8_groupTold 74 = .ok (.aload_n 0, 1) := by decide +kernel
theorem dX8_groupTold_75 : decode cX8_groupTold 75 = .ok (.getfield 40, 3) := by decide +kernel
theorem dX8_groupTold_78 : decode cX8_groupTold 78 = .ok (.iload_n 1, 1) := by decide +kernel
theorem dX8_groupTold_79 : decode cX8_groupTold 79 = .ok (.iconst 2, 1) := by decide +kernel
theorem dX8_groupTold_80 : decode cX8_groupTold 80 = .ok (.iadd, 1) := by decide +kernel
theorem dX8_groupTold_81 : decode cX8_groupTold 81 = .ok (.iaload, 1) := by decide +kernel
theorem dX8_groupTold_82 : decode cX8_groupTold 82 = .ok (.aload_n 0, 1) := by decide +kernel
theorem dX8_groupTold_83 : decode cX8_groupTold 83 = .ok (.getfield 40, 3) := by decide +kernel
theorem dX8_groupTold_86 : decode cX8_groupTold 86 = .ok (.iload_n 1, 1) := by decide +kernel
theorem dX8_groupTold_87 : decode cX8_groupTold 87 = .ok (.iconst 3, 1) := by decide +kernel
theorem dX8_groupTold_88 : decode cX8_groupTold 88 = .ok (.iadd, 1) := by decide +kernel
theorem dX8_groupTold_89 : decode cX8_groupTold 89 = .ok (.iaload, 1) := by decide +kernel
theorem dX8_groupTold_90 : decode cX8_groupTold 90 = .ok (.aload_n 0, 1) := by decide +kernel
theorem dX8_groupTold_91 : decode cX8_groupTold 91 = .ok (.getfield 40, 3) := by decide +kernel
theorem dX8_groupTold_94 : decode cX8_groupTold 94 = .ok (.iload_n 1, 1) := by decide +kernel
theorem dX8_groupTold_95 : decode cX8_groupTold 95 = .ok (.iconst 4, 1) := by decide +kernel
theorem dX8_groupTold_96 : decode cX8_groupTold 96 = .ok (.iadd, 1) := by decide +kernel
theorem dX8_groupTold_97 : decode cX8_groupTold 97 = .ok (.iaload, 1) := by decide +kernel
theorem dX8_groupTold_98 : decode cX8_groupTold 98 = .ok (.invokevirtual 125, 3) := by decide +kernel
theorem dX8_groupTold_101 : decode cX8_groupTold 101 = .ok (.istore_n 3, 1) := by decide +kernel
theorem dX8_groupTold_102 : decode cX8_groupTold 102 = .ok (.iload_n 1, 1) := by decide +kernel
theorem dX8_groupTold_103 : decode cX8_groupTold 103 = .ok (.iconst 5, 1) := by decide +kernel
theorem dX8_groupTold_104 : decode cX8_groupTold 104 = .ok (.iadd, 1) := by decide +kernel
theorem dX8_groupTold_105 : decode cX8_groupTold 105 = .ok (.istore 4, 2) := by decide +kernel
theorem dX8_groupTold_107 : decode cX8_groupTold 107 = .ok (.iload 4, 2) := by decide +kernel
theorem dX8_groupTold_109 : decode cX8_groupTold 109 = .ok (.iload_n 2, 1) := by decide +kernel
theorem dX8_groupTold_110 : decode cX8_groupTold 110 = .ok (.if_icmp .ge 52, 3) := by decide +kernel
theorem dX8_groupTold_113 : decode cX8_groupTold 113 = .ok (.aload_n 0, 1) := by decide +kernel
theorem dX8_groupTold_114 : decode cX8_groupTold 114 = .ok (.getfield 40, 3) := by decide +kernel
theorem dX8_groupTold_117 : decode cX8_groupTold 117 = .ok (.iload 4, 2) := by decide +kernel
theorem dX8_groupTold_119 : decode cX8_groupTold 119 = .ok (.iaload, 1) := by decide +kernel
theorem dX8_groupTold_120 : decode cX8_groupTold 120 = .ok (.invokestatic 79, 3) := by decide +kernel
theorem dX8_groupTold_123 : decode cX8_groupTold 123 = .ok (.ifCond .ne 5, 3) := by decide +kernel
theorem dX8_groupTold_126 : decode cX8_groupTold 126 = .ok (.iconst 0, 1) := by decide +kernel
theorem dX8_groupTold_127 : decode cX8_groupTold 127 = .ok (.ireturn, 1) := by decide +kernel
theorem dX8_groupTold_128 : decode cX8_groupTold 128 = .ok (.aload_n 0, 1) := by decide +kernel
theorem dX8_groupTold_129 : decode cX8_groupTold 129 = .ok (.iload_n 3, 1) := by decide +kernel
theorem dX8_groupTold_130 : decode cX8_groupTold 130 = .ok (.aload_n 0, 1) := by decide +kernel
theorem dX8_groupTold_131 : decode cX8_groupTold 131 = .ok (.getfield 40, 3) := by decide +kernel
theorem dX8_groupTold_134 : decode cX8_groupTold 134 = .ok (.iload 4, 2) := by decide +kernel
theorem dX8_groupTold_136 : decode cX8_groupTold 136 = .ok (.iaload, 1) := by decide +kernel
theorem dX8_groupTold_137 : decode cX8_groupTold 137 = .ok (.invokevirtual 118, 3) := by decide +kernel
theorem dX8_groupTold_140 : decode cX8_groupTold 140 = .ok (.istore 5, 2) := by decide +kernel
theorem dX8_groupTold_142 : decode cX8_groupTold 142 = .ok (.aload_n 0, 1) := by decide +kernel
theorem dX8_groupTold_143 : decode cX8_groupTold 143 = .ok (.getfield 7, 3) := by decide +kernel
theorem dX8_groupTold_146 : decode cX8_groupTold 146 = .ok (.iload_n 3, 1) := by decide +kernel
theorem dX8_groupTold_147 : decode cX8_groupTold 147 = .ok (.iload 5, 2) := by decide +kernel
theorem dX8_groupTold_149 : decode cX8_groupTold 149 = .ok (.invokestatic 115, 3) := by decide +kernel
theorem dX8_groupTold_152 : decode cX8_groupTold 152 = .ok (.iconst 2, 1) := by decide +kernel
theorem dX8_groupTold_153 : decode cX8_groupTold 153 = .ok (.iadd, 1) := by decide +kernel
theorem dX8_groupTold_154 : decode cX8_groupTold 154 = .ok (.iconst (-1), 1) := by decide +kernel
theorem dX8_groupTold_155 : decode cX8_groupTold 155 = .ok (.iastore, 1) := by decide +kernel
theorem dX8_groupTold_156 : decode cX8_groupTold 156 = .ok (.iinc 4 1, 3) := by decide +kernel
theorem dX8_groupTold_159 : decode cX8_groupTold 159 = .ok (.goto (-52), 3) := by decide +kernel
theorem dX8_groupTold_162 : decode cX8_groupTold 162 = .ok (.iconst 1, 1) := by decide +kernel
theorem dX8_groupTold_163 : decode cX8_groupTold 163 = .ok (.ireturn, 1) := by decide +kernel
theorem dX8_obeys_0 : decode cX8_obeys 0 = .ok (.aload_n 0, 1) := by decide +kernel
theorem dX8_obeys_1 : decode cX8_obeys 1 = .ok (.getfield 37, 3) := by decide +kernel
theorem dX8_obeys_4 : decode cX8_obeys 4 = .ok (.iload_n 1, 1) := by decide +kernel
theorem dX8_obeys_5 : decode cX8_obeys 5 = .ok (.iaload, 1) := by decide +kernel
theorem dX8_obeys_6 : decode cX8_obeys 6 = .ok (.istore_n 2, 1) := by decide +kernel
theorem dX8_obeys_7 : decode cX8_obeys 7 = .ok (.aload_n 0, 1) := by decide +kernel
theorem dX8_obeys_8 : decode cX8_obeys 8 = .ok (.getfield 40, 3) := by decide +kernel
theorem dX8_obeys_11 : decode cX8_obeys 11 = .ok (.iload_n 2, 1) := by decide +kernel
theorem dX8_obeys_12 : decode cX8_obeys 12 = .ok (.iaload, 1) := by decide +kernel
theorem dX8_obeys_13 : decode cX8_obeys 13 = .ok (.istore_n 3, 1) := by decide +kernel
theorem dX8_obeys_14 : decode cX8_obeys 14 = .ok (.aload_n 0, 1) := by decide +kernel
theorem dX8_obeys_15 : decode cX8_obeys 15 = .ok (.getfield 40, 3) := by decide +kernel
theorem dX8_obeys_18 : decode cX8_obeys 18 = .ok (.iload_n 2, 1) := by decide +kernel
theorem dX8_obeys_19 : decode cX8_obeys 19 = .ok (.iconst 1, 1) := by decide +kernel
theorem dX8_obeys_20 : decode cX8_obeys 20 = .ok (.iadd, 1) := by decide +kernel
theorem dX8_obeys_21 : decode cX8_obeys 21 = .ok (.iaload, 1) := by decide +kernel
theorem dX8_obeys_22 : decode cX8_obeys 22 = .ok (.istore 4, 2) := by decide +kernel
theorem dX8_obeys_24 : decode cX8_obeys 24 = .ok (.aload_n 0, 1) := by decide +kernel
theorem dX8_obeys_25 : decode cX8_obeys 25 = .ok (.getfield 34, 3) := by decide +kernel
theorem dX8_obeys_28 : decode cX8_obeys 28 = .ok (.iload_n 1, 1) := by decide +kernel
theorem dX8_obeys_29 : decode cX8_obeys 29 = .ok (.iaload, 1) := by decide +kernel
theorem dX8_obeys_30 : decode cX8_obeys 30 = .ok (.lookupswitch 177 #[(99, 71), (102, 121), (103, 163), (109, 42)], 42) := by decide +kernel
theorem dX8_obeys_72 : decode cX8_obeys 72 = .ok (.iload_n 3, 1) := by decide +kernel
theorem dX8_obeys_73 : decode cX8_obeys 73 = .ok (.iload 4, 2) := by decide +kernel
theorem dX8_obeys_75 : decode cX8_obeys 75 = .ok (.invokestatic 82, 3) := by decide +kernel
theorem dX8_obeys_78 : decode cX8_obeys 78 = .ok (.istore 5, 2) := by decide +kernel
theorem dX8_obeys_80 : decode cX8_obeys 80 = .ok (.aload_n 0, 1) := by decide +kernel
theorem dX8_obeys_81 : decode cX8_obeys 81 = .ok (.iload 5, 2) := by decide +kernel
theorem dX8_obeys_83 : decode cX8_obeys 83 = .ok (.iload 5, 2) := by decide +kernel
theorem dX8_obeys_85 : decode cX8_obeys 85 = .ok (.ifCond .eq 9, 3) := by decide +kernel
theorem dX8_obeys_88 : decode cX8_obeys 88 = .ok (.iconst 1, 1) := by decide +kernel
theorem dX8_obeys_89 : decode cX8_obeys 89 = .ok (.iload_n 3, 1) := by decide +kernel
theorem dX8_obeys_90 : decode cX8_obeys 90 = .ok (.iadd, 1) := by decide +kernel
theorem dX8_obeys_91 : decode cX8_obeys 91 = .ok (.goto 4, 3) := by decide +kernel
theorem dX8_obeys_94 : decode cX8_obeys 94 = .ok (.iconst 0, 1) := by decide +kernel
theorem dX8_obeys_95 : decode cX8_obeys 95 = .ok (.iload 4, 2) := by decide +kernel
theorem dX8_obeys_97 : decode cX8_obeys 97 = .ok (.invokevirtual 236, 3) := by decide +kernel
theorem dX8_obeys_100 : decode cX8_obeys 100 = .ok (.ireturn, 1) := by decide +kernel
theorem dX8_obeys_101 : decode cX8_obeys 101 = .ok (.aload_n 0, 1) := by decide +kernel
theorem dX8_obeys_102 : decode cX8_obeys 102 = .ok (.iload_n 3, 1) := by decide +kernel
theorem dX8_obeys_103 : decode cX8_obeys 103 = .ok (.iload 4, 2) := by decide +kernel
theorem dX8_obeys_105 : decode cX8_obeys 105 = .ok (.aload_n 0, 1) := by decide +kernel
theorem dX8_obeys_106 : decode cX8_obeys 106 = .ok (.getfield 40, 3) := by decide +kernel
theorem dX8_obeys_109 : decode cX8_obeys 109 = .ok (.iload_n 2, 1) := by decide +kernel
theorem dX8_obeys_110 : decode cX8_obeys 110 = .ok (.iconst 2, 1) := by decide +kernel
theorem dX8_obeys_111 : decode cX8_obeys 111 = .ok (.iadd, 1) := by decide +kernel
theorem dX8_obeys_112 : decode cX8_obeys 112 = .ok (.iaload, 1) := by decide +kernel
theorem dX8_obeys_113 : decode cX8_obeys 113 = .ok (.invokevirtual 89, 3) := by decide +kernel
theorem dX8_obeys_116 : decode cX8_obeys 116 = .ok (.istore 5, 2) := by decide +kernel
theorem dX8_obeys_118 : decode cX8_obeys 118 = .ok (.aload_n 0, 1) := by decide +kernel
theorem dX8_obeys_119 : decode cX8_obeys 119 = .ok (.iload 5, 2) := by decide +kernel
theorem dX8_obeys_121 : decode cX8_obeys 121 = .ok (.iload 5, 2) := by decide +kernel
theorem dX8_obeys_123 : decode cX8_obeys 123 = .ok (.ifCond .eq 15, 3) := by decide +kernel
theorem dX8_obeys_126 : decode cX8_obeys 126 = .ok (.iload_n 3, 1) := by decide +kernel
theorem dX8_obeys_127 : decode cX8_obeys 127 = .ok (.invokestatic 67, 3) := by decide +kernel
theorem dX8_obeys_130 : decode cX8_obeys 130 = .ok (.iconst 2, 1) := by decide +kernel
theorem dX8_obeys_131 : decode cX8_obeys 131 = .ok (.iadd, 1) := by decide +kernel
theorem dX8_obeys_132 : decode cX8_obeys 132 = .ok (.iload 4, 2) := by decide +kernel
theorem dX8_obeys_134 : decode cX8_obeys 134 = .ok (.iadd, 1) := by decide +kernel
theorem dX8_obeys_135 : decode cX8_obeys 135 = .ok (.goto 4, 3) := by decide +kernel
theorem dX8_obeys_138 : decode cX8_obeys 138 = .ok (.iconst 0, 1) := by decide +kernel
theorem dX8_obeys_139 : decode cX8_obeys 139 = .ok (.aload_n 0, 1) := by decide +kernel
theorem dX8_obeys_140 : decode cX8_obeys 140 = .ok (.getfield 40, 3) := by decide +kernel
theorem dX8_obeys_143 : decode cX8_obeys 143 = .ok (.iload_n 2, 1) := by decide +kernel
theorem dX8_obeys_144 : decode cX8_obeys 144 = .ok (.iconst 2, 1) := by decide +kernel
theorem dX8_obeys_145 : decode cX8_obeys 145 = .ok (.iadd, 1) := by decide +kernel
theorem dX8_obeys_146 : decode cX8_obeys 146 = .ok (.iaload, 1) := by decide +kernel
theorem dX8_obeys_147 : decode cX8_obeys 147 = .ok (.invokevirtual 236, 3) := by decide +kernel
theorem dX8_obeys_150 : decode cX8_obeys 150 = .ok (.ireturn, 1) := by decide +kernel
theorem dX8_obeys_151 : decode cX8_obeys 151 = .ok (.aload_n 0, 1) := by decide +kernel
theorem dX8_obeys_152 : decode cX8_obeys 152 = .ok (.iload_n 3, 1) := by decide +kernel
theorem dX8_obeys_153 : decode cX8_obeys 153 = .ok (.invokevirtual 86, 3) := by decide +kernel
theorem dX8_obeys_156 : decode cX8_obeys 156 = .ok (.ifCond .eq 35, 3) := by decide +kernel
theorem dX8_obeys_159 : decode cX8_obeys 159 = .ok (.aload_n 0, 1) := by decide +kernel
theorem dX8_obeys_160 : decode cX8_obeys 160 = .ok (.iload_n 3, 1) := by decide +kernel
theorem dX8_obeys_161 : decode cX8_obeys 161 = .ok (.invokevirtual 95, 3) := by decide +kernel
theorem dX8_obeys_164 : decode cX8_obeys 164 = .ok (.ifCond .ne 27, 3) := by decide +kernel
theorem dX8_obeys_167 : decode cX8_obeys 167 = .ok (.aload_n 0, 1) := by decide +kernel
theorem dX8_obeys_168 : decode cX8_obeys 168 = .ok (.getfield 7, 3) := by decide +kernel
theorem dX8_obeys_171 : decode cX8_obeys 171 = .ok (.bipush 9, 2) := by decide +kernel
theorem dX8_obeys_173 : decode cX8_obeys 173 = .ok (.iaload, 1) := by decide +kernel
theorem dX8_obeys_174 : decode cX8_obeys 174 = .ok (.bipush 6, 2) := by decide +kernel
theorem dX8_obeys_176 : decode cX8_obeys 176 = .ok (.if_icmp .ge 15, 3) := by decide +kernel
theorem dX8_obeys_179 : decode cX8_obeys 179 = .ok (.aload_n 0, 1) := by decide +kernel
theorem dX8_obeys_180 : decode cX8_obeys 180 = .ok (.iload_n 3, 1) := by decide +kernel
theorem dX8_obeys_181 : decode cX8_obeys 181 = .ok (.invokevirtual 101, 3) := by decide +kernel
theorem dX8_obeys_184 : decode cX8_obeys 184 = .ok (.ifCond .le 7, 3) := by decide +kernel
theorem dX8_obeys_187 : decode cX8_obeys 187 = .ok (.iconst 1, 1) := by decide +kernel
theorem dX8_obeys_188 : decode cX8_obeys 188 = .ok (.goto 4, 3) := by decide +kernel
theorem dX8_obeys_191 : decode cX8_obeys 191 = .ok (.iconst 0, 1) := by decide +kernel
theorem dX8_obeys_192 : decode cX8_obeys 192 = .ok (.ireturn, 1) := by decide +kernel
theorem dX8_obeys_193 : decode cX8_obeys 193 = .ok (.aload_n 0, 1) := by decide +kernel
theorem dX8_obeys_194 : decode cX8_obeys 194 = .ok (.iload_n 2, 1) := by decide +kernel
theorem dX8_obeys_195 : decode cX8_obeys 195 = .ok (.aload_n 0, 1) := by decide +kernel
theorem dX8_obeys_196 : decode cX8_obeys 196 = .ok (.getfield 37, 3) := by decide +kernel
theorem dX8_obeys_199 : decode cX8_obeys 199 = .ok (.iload_n 1, 1) := by decide +kernel
theorem dX8_obeys_200 : decode cX8_obeys 200 = .ok (.iconst 1, 1) := by decide +kernel
theorem dX8_obeys_201 : decode cX8_obeys 201 = .ok (.iadd, 1) := by decide +kernel
theorem dX8_obeys_202 : decode cX8_obeys 202 = .ok (.iaload, 1) := by decide +kernel
theorem dX8_obeys_203 : decode cX8_obeys 203 = .ok (.invokevirtual 240, 3) := by decide +kernel
theorem dX8_obeys_206 : decode cX8_obeys 206 = .ok (.ireturn, 1) := by decide +kernel
theorem dX8_obeys_207 : decode cX8_obeys 207 = .ok (.aload_n 0, 1) := by decide +kernel
theorem dX8_obeys_208 : decode cX8_obeys 208 = .ok (.iload_n 3, 1) := by decide +kernel
theorem dX8_obeys_209 : decode cX8_obeys 209 = .ok (.iload 4, 2) := by decide +kernel
theorem dX8_obeys_211 : decode cX8_obeys 211 = .ok (.invokevirtual 173, 3) := by decide +kernel
theorem dX8_obeys_214 : decode cX8_obeys 214 = .ok (.ifCond .eq 25, 3) := by decide +kernel
theorem dX8_obeys_217 : decode cX8_obeys 217 = .ok (.aload_n 0, 1) := by decide +kernel
theorem dX8_obeys_218 : decode cX8_obeys 218 = .ok (.iload_n 3, 1) := by decide +kernel
theorem dX8_obeys_219 : decode cX8_obeys 219 = .ok (.invokevirtual 95, 3) := by decide +kernel
theorem dX8_obeys_222 : decode cX8_obeys 222 = .ok (.ifCond .ne 17, 3) := by decide +kernel
theorem dX8_obeys_225 : decode cX8_obeys 225 = .ok (.aload_n 0, 1) := by decide +kernel
theorem dX8_obeys_226 : decode cX8_obeys 226 = .ok (.iload_n 3, 1) := by decide +kernel
theorem dX8_obeys_227 : decode cX8_obeys 227 = .ok (.iload 4, 2) := by decide +kernel
theorem dX8_obeys_229 : decode cX8_obeys 229 = .ok (.invokevirtual 176, 3) := by decide +kernel
theorem dX8_obeys_232 : decode cX8_obeys 232 = .ok (.ifCond .le 7, 3) := by decide +kernel
theorem dX8_obeys_235 : decode cX8_obeys 235 = .ok (.iconst 1, 1) := by decide +kernel
theorem dX8_obeys_236 : decode cX8_obeys 236 = .ok (.goto 4, 3) := by decide +kernel
theorem dX8_obeys_239 : decode cX8_obeys 239 = .ok (.iconst 0, 1) := by decide +kernel
theorem dX8_obeys_240 : decode cX8_obeys 240 = .ok (.ireturn, 1) := by decide +kernel
theorem dX8_swapsAside_0 : decode cX8_swapsAside 0 = .ok (.iconst 0, 1) := by decide +kernel
theorem dX8_swapsAside_1 : decode cX8_swapsAside 1 = .ok (.istore_n 1, 1) := by decide +kernel
theorem dX8_swapsAside_2 : decode cX8_swapsAside 2 = .ok (.iload_n 1, 1) := by decide +kernel
theorem dX8_swapsAside_3 : decode cX8_swapsAside 3 = .ok (.sipush 659, 3) := by decide +kernel
theorem dX8_swapsAside_6 : decode cX8_swapsAside 6 = .ok (.if_icmp .ge 35, 3) := by decide +kernel
theorem dX8_swapsAside_9 : decode cX8_swapsAside 9 = .ok (.aload_n 0, 1) := by decide +kernel
theorem dX8_swapsAside_10 : decode cX8_swapsAside 10 = .ok (.getfield 7, 3) := by decide +kernel
theorem dX8_swapsAside_13 : decode cX8_swapsAside 13 = .ok (.iload_n 1, 1) := by decide +kernel
theorem dX8_swapsAside_14 : decode cX8_swapsAside 14 = .ok (.iaload, 1) := by decide +kernel
theorem dX8_swapsAside_15 : decode cX8_swapsAside 15 = .ok (.istore_n 2, 1) := by decide +kernel
theorem dX8_swapsAside_16 : decode cX8_swapsAside 16 = .ok (.aload_n 0, 1) := by decide +kernel
theorem dX8_swapsAside_17 : decode cX8_swapsAside 17 = .ok (.getfield 7, 3) := by decide +kernel
theorem dX8_swapsAside_20 : decode cX8_swapsAside 20 = .ok (.iload_n 1, 1) := by decide +kernel
theorem dX8_swapsAside_21 : decode cX8_swapsAside 21 = .ok (.aload_n 0, 1) := by decide +kernel
theorem dX8_swapsAside_22 : decode cX8_swapsAside 22 = .ok (.getfield 13, 3) := by decide +kernel
theorem dX8_swapsAside_25 : decode cX8_swapsAside 25 = .ok (.iload_n 1, 1) := by decide +kernel
theorem dX8_swapsAside_26 : decode cX8_swapsAside 26 = .ok (.iaload, 1) := by decide +kernel
theorem dX8_swapsAside_27 : decode cX8_swapsAside 27 = .ok (.iastore, 1) := by decide +kernel
theorem dX8_swapsAside_28 : decode cX8_swapsAside 28 = .ok (.aload_n 0, 1) := by decide +kernel
theorem dX8_swapsAside_29 : decode cX8_swapsAside 29 = .ok (.getfield 13, 3) := by decide +kernel
theorem dX8_swapsAside_32 : decode cX8_swapsAside 32 = .ok (.iload_n 1, 1) := by decide +kernel
theorem dX8_swapsAside_33 : decode cX8_swapsAside 33 = .ok (.iload_n 2, 1) := by decide +kernel
theorem dX8_swapsAside_34 : decode cX8_swapsAside 34 = .ok (.iastore, 1) := by decide +kernel
theorem dX8_swapsAside_35 : decode cX8_swapsAside 35 = .ok (.iinc 1 1, 3) := by decide +kernel
theorem dX8_swapsAside_38 : decode cX8_swapsAside 38 = .ok (.goto (-36), 3) := by decide +kernel
theorem dX8_swapsAside_41 : decode cX8_swapsAside 41 = .ok (.return_, 1) := by decide +kernel
theorem dX8_does_0 : decode cX8_does 0 = .ok (.aload_n 0, 1) := by decide +kernel
theorem dX8_does_1 : decode cX8_does 1 = .ok (.invokevirtual 243, 3) := by decide +kernel
theorem dX8_does_4 : decode cX8_does 4 = .ok (.ifCond .ne 11, 3) := by decide +kernel
theorem dX8_does_7 : decode cX8_does 7 = .ok (.bipush (-10), 2) := by decide +kernel
theorem dX8_does_9 : decode cX8_does 9 = .ok (.aload_n 0, 1) := by decide +kernel
theorem dX8_does_10 : decode cX8_does 10 = .ok (.getfield 215, 3) := by decide +kernel
theorem dX8_does_13 : decode cX8_does 13 = .ok (.isub, 1) := by decide +kernel
theorem dX8_does_14 : decode cX8_does 14 = .ok (.ireturn, 1) := by decide +kernel
theorem dX8_does_15 : decode cX8_does 15 = .ok (.iconst 0, 1) := by decide +kernel
theorem dX8_does_16 : decode cX8_does 16 = .ok (.istore_n 1, 1) := by decide +kernel
theorem dX8_does_17 : decode cX8_does 17 = .ok (.iload_n 1, 1) := by decide +kernel
theorem dX8_does_18 : decode cX8_does 18 = .ok (.sipush 659, 3) := by decide +kernel
theorem dX8_does_21 : decode cX8_does 21 = .ok (.if_icmp .ge 21, 3) := by decide +kernel
theorem dX8_does_24 : decode cX8_does 24 = .ok (.aload_n 0, 1) := by decide +kernel
theorem dX8_does_25 : decode cX8_does 25 = .ok (.getfield 13, 3) := by decide +kernel
theorem dX8_does_28 : decode cX8_does 28 = .ok (.iload_n 1, 1) := by decide +kernel
theorem dX8_does_29 : decode cX8_does 29 = .ok (.aload_n 0, 1) := by decide +kernel
theorem dX8_does_30 : decode cX8_does 30 = .ok (.getfield 7, 3) := by decide +kernel
theorem dX8_does_33 : decode cX8_does 33 = .ok (.iload_n 1, 1) := by decide +kernel
theorem dX8_does_34 : decode cX8_does 34 = .ok (.iaload, 1) := by decide +kernel
theorem dX8_does_35 : decode cX8_does 35 = .ok (.iastore, 1) := by decide +kernel
theorem dX8_does_36 : decode cX8_does 36 = .ok (.iinc 1 1, 3) := by decide +kernel
theorem dX8_does_39 : decode cX8_does 39 = .ok (.goto (-22), 3) := by decide +kernel
theorem dX8_does_42 : decode cX8_does 42 = .ok (.iconst 0, 1) := by decide +kernel
theorem dX8_does_43 : decode cX8_does 43 = .ok (.istore_n 1, 1) := by decide +kernel
theorem dX8_does_44 : decode cX8_does 44 = .ok (.iload_n 1, 1) := by decide +kernel
theorem dX8_does_45 : decode cX8_does 45 = .ok (.aload_n 0, 1) := by decide +kernel
theorem dX8_does_46 : decode cX8_does 46 = .ok (.getfield 224, 3) := by decide +kernel
theorem dX8_does_49 : decode cX8_does 49 = .ok (.if_icmp .ge 27, 3) := by decide +kernel
theorem dX8_does_52 : decode cX8_does 52 = .ok (.aload_n 0, 1) := by decide +kernel
theorem dX8_does_53 : decode cX8_does 53 = .ok (.iload_n 1, 1) := by decide +kernel
theorem dX8_does_54 : decode cX8_does 54 = .ok (.invokevirtual 246, 3) := by decide +kernel
theorem dX8_does_57 : decode cX8_does 57 = .ok (.ifCond .ne 13, 3) := by decide +kernel
theorem dX8_does_60 : decode cX8_does 60 = .ok (.aload_n 0, 1) := by decide +kernel
theorem dX8_does_61 : decode cX8_does 61 = .ok (.invokevirtual 249, 3) := by decide +kernel
theorem dX8_does_64 : decode cX8_does 64 = .ok (.sipush (-1000), 3) := by decide +kernel
theorem dX8_does_67 : decode cX8_does 67 = .ok (.iload_n 1, 1) := by decide +kernel
theorem dX8_does_68 : decode cX8_does 68 = .ok (.isub, 1) := by decide +kernel
theorem dX8_does_69 : decode cX8_does 69 = .ok (.ireturn, 1) := by decide +kernel
theorem dX8_does_70 : decode cX8_does 70 = .ok (.iinc 1 1, 3) := by decide +kernel
theorem dX8_does_73 : decode cX8_does 73 = .ok (.goto (-29), 3) := by decide +kernel
theorem dX8_does_76 : decode cX8_does 76 = .ok (.aload_n 0, 1) := by decide +kernel
theorem dX8_does_77 : decode cX8_does 77 = .ok (.invokevirtual 249, 3) := by decide +kernel
theorem dX8_does_80 : decode cX8_does 80 = .ok (.aload_n 0, 1) := by decide +kernel
theorem dX8_does_81 : decode cX8_does 81 = .ok (.invokevirtual 73, 3) := by decide +kernel
theorem dX8_does_84 : decode cX8_does 84 = .ok (.aload_n 0, 1) := by decide +kernel
theorem dX8_does_85 : decode cX8_does 85 = .ok (.invokevirtual 249, 3) := by decide +kernel
theorem dX8_does_88 : decode cX8_does 88 = .ok (.aload_n 0, 1) := by decide +kernel
theorem dX8_does_89 : decode cX8_does 89 = .ok (.getfield 224, 3) := by decide +kernel
theorem dX8_does_92 : decode cX8_does 92 = .ok (.ireturn, 1) := by decide +kernel
theorem dX8_refusedOf_0 : decode cX8_refusedOf 0 = .ok (.iload_n 1, 1) := by decide +kernel
theorem dX8_refusedOf_1 : decode cX8_refusedOf 1 = .ok (.iconst 3, 1) := by decide +kernel
theorem dX8_refusedOf_2 : decode cX8_refusedOf 2 = .ok (.if_icmp .ge 12, 3) := by decide +kernel
theorem dX8_refusedOf_5 : decode cX8_refusedOf 5 = .ok (.aload_n 0, 1) := by decide +kernel
theorem dX8_refusedOf_6 : decode cX8_refusedOf 6 = .ok (.getfield 19, 3) := by decide +kernel
theorem dX8_refusedOf_9 : decode cX8_refusedOf 9 = .ok (.iload_n 1, 1) := by decide +kernel
theorem dX8_refusedOf_10 : decode cX8_refusedOf 10 = .ok (.iaload, 1) := by decide +kernel
theorem dX8_refusedOf_11 : decode cX8_refusedOf 11 = .ok (.goto 19, 3) := by decide +kernel
theorem dX8_refusedOf_14 : decode cX8_refusedOf 14 = .ok (.iload_n 1, 1) := by decide +kernel
theorem dX8_refusedOf_15 : decode cX8_refusedOf 15 = .ok (.iconst 3, 1) := by decide +kernel
theorem dX8_refusedOf_16 : decode cX8_refusedOf 16 = .ok (.if_icmp .ne 10, 3) := by decide +kernel
theorem dX8_refusedOf_19 : decode cX8_refusedOf 19 = .ok (.aload_n 0, 1) := by decide +kernel
theorem dX8_refusedOf_20 : decode cX8_refusedOf 20 = .ok (.getfield 206, 3) := by decide +kernel
theorem dX8_refusedOf_23 : decode cX8_refusedOf 23 = .ok (.goto 7, 3) := by decide +kernel
theorem dX8_refusedOf_26 : decode cX8_refusedOf 26 = .ok (.aload_n 0, 1) := by decide +kernel
theorem dX8_refusedOf_27 : decode cX8_refusedOf 27 = .ok (.getfield 43, 3) := by decide +kernel
theorem dX8_refusedOf_30 : decode cX8_refusedOf 30 = .ok (.ireturn, 1) := by decide +kernel
theorem dX8_refused_0 : decode cX8_refused 0 = .ok (.iload_n 1, 1) := by decide +kernel
theorem dX8_refused_1 : decode cX8_refused 1 = .ok (.iconst 0, 1) := by decide +kernel
theorem dX8_refused_2 : decode cX8_refused 2 = .ok (.iconst 4, 1) := by decide +kernel
theorem dX8_refused_3 : decode cX8_refused 3 = .ok (.invokestatic 51, 3) := by decide +kernel
theorem dX8_refused_6 : decode cX8_refused 6 = .ok (.ifCond .eq 11, 3) := by decide +kernel
theorem dX8_refused_9 : decode cX8_refused 9 = .ok (.aload_n 0, 1) := by decide +kernel
theorem dX8_refused_10 : decode cX8_refused 10 = .ok (.iload_n 1, 1) := by decide +kernel
theorem dX8_refused_11 : decode cX8_refused 11 = .ok (.invokevirtual 252, 3) := by decide +kernel
theorem dX8_refused_14 : decode cX8_refused 14 = .ok (.goto 7, 3) := by decide +kernel
theorem dX8_refused_17 : decode cX8_refused 17 = .ok (.aload_n 0, 1) := by decide +kernel
theorem dX8_refused_18 : decode cX8_refused 18 = .ok (.invokevirtual 70, 3) := by decide +kernel
theorem dX8_refused_21 : decode cX8_refused 21 = .ok (.ireturn, 1) := by decide +kernel
theorem dX8_mix_0 : decode cX8_mix 0 = .ok (.aload_n 0, 1) := by decide +kernel
theorem dX8_mix_1 : decode cX8_mix 1 = .ok (.ldc2_w 255, 3) := by decide +kernel
theorem dX8_mix_4 : decode cX8_mix 4 = .ok (.aload_n 0, 1) := by decide +kernel
theorem dX8_mix_5 : decode cX8_mix 5 = .ok (.getfield 257, 3) := by decide +kernel
theorem dX8_mix_8 : decode cX8_mix 8 = .ok (.lmul, 1) := by decide +kernel
theorem dX8_mix_9 : decode cX8_mix 9 = .ok (.lload_n 1, 1) := by decide +kernel
theorem dX8_mix_10 : decode cX8_mix 10 = .ok (.ladd, 1) := by decide +kernel
theorem dX8_mix_11 : decode cX8_mix 11 = .ok (.putfield 257, 3) := by decide +kernel
theorem dX8_mix_14 : decode cX8_mix 14 = .ok (.return_, 1) := by decide +kernel
theorem dX8_mixGroup_0 : decode cX8_mixGroup 0 = .ok (.iconst 0, 1) := by decide +kernel
theorem dX8_mixGroup_1 : decode cX8_mixGroup 1 = .ok (.istore_n 2, 1) := by decide +kernel
theorem dX8_mixGroup_2 : decode cX8_mixGroup 2 = .ok (.iload_n 2, 1) := by decide +kernel
theorem dX8_mixGroup_3 : decode cX8_mixGroup 3 = .ok (.bipush 10, 2) := by decide +kernel
theorem dX8_mixGroup_5 : decode cX8_mixGroup 5 = .ok (.if_icmp .gt 20, 3) := by decide +kernel
theorem dX8_mixGroup_8 : decode cX8_mixGroup 8 = .ok (.aload_n 0, 1) := by decide +kernel
theorem dX8_mixGroup_9 : decode cX8_mixGroup 9 = .ok (.aload_n 0, 1) := by decide +kernel
theorem dX8_mixGroup_10 : decode cX8_mixGroup 10 = .ok (.iload_n 1, 1) := by decide +kernel
theorem dX8_mixGroup_11 : decode cX8_mixGroup 11 = .ok (.iload_n 2, 1) := by decide +kernel
theorem dX8_mixGroup_12 : decode cX8_mixGroup 12 = .ok (.invokevirtual 185, 3) := by decide +kernel
theorem dX8_mixGroup_15 : decode cX8_mixGroup 15 = .ok (.i2l, 1) := by decide +kernel
theorem dX8_mixGroup_16 : decode cX8_mixGroup 16 = .ok (.invokevirtual 261, 3) := by decide +kernel
theorem dX8_mixGroup_19 : decode cX8_mixGroup 19 = .ok (.iinc 2 1, 3) := by decide +kernel
theorem dX8_mixGroup_22 : decode cX8_mixGroup 22 = .ok (.goto (-20), 3) := by decide +kernel
theorem dX8_mixGroup_25 : decode cX8_mixGroup 25 = .ok (.iconst 0, 1) := by decide +kernel
theorem dX8_mixGroup_26 : decode cX8_mixGroup 26 = .ok (.istore_n 2, 1) := by decide +kernel
theorem dX8_mixGroup_27 : decode cX8_mixGroup 27 = .ok (.iload_n 2, 1) := by decide +kernel
theorem dX8_mixGroup_28 : decode cX8_mixGroup 28 = .ok (.aload_n 0, 1) := by decide +kernel
theorem dX8_mixGroup_29 : decode cX8_mixGroup 29 = .ok (.iload_n 1, 1) := by decide +kernel
theorem dX8_mixGroup_30 : decode cX8_mixGroup 30 = .ok (.iconst 5, 1) := by decide +kernel
theorem dX8_mixGroup_31 : decode cX8_mixGroup 31 = .ok (.invokevirtual 63, 3) := by decide +kernel
theorem dX8_mixGroup_34 : decode cX8_mixGroup 34 = .ok (.if_icmp .ge 98, 3) := by decide +kernel
theorem dX8_mixGroup_37 : decode cX8_mixGroup 37 = .ok (.iconst 0, 1) := by decide +kernel
theorem dX8_mixGroup_38 : decode cX8_mixGroup 38 = .ok (.istore_n 3, 1) := by decide +kernel
theorem dX8_mixGroup_39 : decode cX8_mixGroup 39 = .ok (.iload_n 3, 1) := by decide +kernel
theorem dX8_mixGroup_40 : decode cX8_mixGroup 40 = .ok (.iconst 3, 1) := by decide +kernel
theorem dX8_mixGroup_41 : decode cX8_mixGroup 41 = .ok (.if_icmp .ge 26, 3) := by decide +kernel
theorem dX8_mixGroup_44 : decode cX8_mixGroup 44 = .ok (.aload_n 0, 1) := by decide +kernel
theorem dX8_mixGroup_45 : decode cX8_mixGroup 45 = .ok (.aload_n 0, 1) := by decide +kernel
theorem dX8_mixGroup_46 : decode cX8_mixGroup 46 = .ok (.getfield 7, 3) := by decide +kernel
theorem dX8_mixGroup_49 : decode cX8_mixGroup 49 = .ok (.iload_n 1, 1) := by decide +kernel
theorem dX8_mixGroup_50 : decode cX8_mixGroup 50 = .ok (.iload_n 2, 1) := by decide +kernel
theorem dX8_mixGroup_51 : decode cX8_mixGroup 51 = .ok (.invokestatic 115, 3) := by decide +kernel
theorem dX8_mixGroup_54 : decode cX8_mixGroup 54 = .ok (.iload_n 3, 1) := by decide +kernel
theorem dX8_mixGroup_55 : decode cX8_mixGroup 55 = .ok (.iadd, 1) := by decide +kernel
theorem dX8_mixGroup_56 : decode cX8_mixGroup 56 = .ok (.iaload, 1) := by decide +kernel
theorem dX8_mixGroup_57 : decode cX8_mixGroup 57 = .ok (.i2l, 1) := by decide +kernel
theorem dX8_mixGroup_58 : decode cX8_mixGroup 58 = .ok (.invokevirtual 261, 3) := by decide +kernel
theorem dX8_mixGroup_61 : decode cX8_mixGroup 61 = .ok (.iinc 3 1, 3) := by decide +kernel
theorem dX8_mixGroup_64 : decode cX8_mixGroup 64 = .ok (.goto (-25), 3) := by decide +kernel
theorem dX8_mixGroup_67 : decode cX8_mixGroup 67 = .ok (.iconst 0, 1) := by decide +kernel
theorem dX8_mixGroup_68 : decode cX8_mixGroup 68 = .ok (.istore_n 3, 1) := by decide +kernel
theorem dX8_mixGroup_69 : decode cX8_mixGroup 69 = .ok (.iload_n 3, 1) := by decide +kernel
theorem dX8_mixGroup_70 : decode cX8_mixGroup 70 = .ok (.aload_n 0, 1) := by decide +kernel
theorem dX8_mixGroup_71 : decode cX8_mixGroup 71 = .ok (.getfield 7, 3) := by decide +kernel
theorem dX8_mixGroup_74 : decode cX8_mixGroup 74 = .ok (.bipush 9, 2) := by decide +kernel
theorem dX8_mixGroup_76 : decode cX8_mixGroup 76 = .ok (.iaload, 1) := by decide +kernel
theorem dX8_mixGroup_77 : decode cX8_mixGroup 77 = .ok (.if_icmp .ge 25, 3) := by decide +kernel
theorem dX8_mixGroup_80 : decode cX8_mixGroup 80 = .ok (.aload_n 0, 1) := by decide +kernel
theorem dX8_mixGroup_81 : decode cX8_mixGroup 81 = .ok (.aload_n 0, 1) := by decide +kernel
theorem dX8_mixGroup_82 : decode cX8_mixGroup 82 = .ok (.getfield 7, 3) := by decide +kernel
theorem dX8_mixGroup_85 : decode cX8_mixGroup 85 = .ok (.iload_n 1, 1) := by decide +kernel
theorem dX8_mixGroup_86 : decode cX8_mixGroup 86 = .ok (.iload_n 2, 1) := by decide +kernel
theorem dX8_mixGroup_87 : decode cX8_mixGroup 87 = .ok (.iload_n 3, 1) := by decide +kernel
theorem dX8_mixGroup_88 : decode cX8_mixGroup 88 = .ok (.invokestatic 111, 3) := by decide +kernel
theorem dX8_mixGroup_91 : decode cX8_mixGroup 91 = .ok (.iaload, 1) := by decide +kernel
theorem dX8_mixGroup_92 : decode cX8_mixGroup 92 = .ok (.i2l, 1) := by decide +kernel
theorem dX8_mixGroup_93 : decode cX8_mixGroup 93 = .ok (.invokevirtual 261, 3) := by decide +kernel
theorem dX8_mixGroup_96 : decode cX8_mixGroup 96 = .ok (.iinc 3 1, 3) := by decide +kernel
theorem dX8_mixGroup_99 : decode cX8_mixGroup 99 = .ok (.goto (-30), 3) := by decide +kernel
theorem dX8_mixGroup_102 : decode cX8_mixGroup 102 = .ok (.aload_n 0, 1) := by decide +kernel
theorem dX8_mixGroup_103 : decode cX8_mixGroup 103 = .ok (.aload_n 0, 1) := by decide +kernel
theorem dX8_mixGroup_104 : decode cX8_mixGroup 104 = .ok (.iload_n 1, 1) := by decide +kernel
theorem dX8_mixGroup_105 : decode cX8_mixGroup 105 = .ok (.iload_n 2, 1) := by decide +kernel
theorem dX8_mixGroup_106 : decode cX8_mixGroup 106 = .ok (.iconst 0, 1) := by decide +kernel
theorem dX8_mixGroup_107 : decode cX8_mixGroup 107 = .ok (.invokevirtual 194, 3) := by decide +kernel
theorem dX8_mixGroup_110 : decode cX8_mixGroup 110 = .ok (.i2l, 1) := by decide +kernel
theorem dX8_mixGroup_111 : decode cX8_mixGroup 111 = .ok (.invokevirtual 261, 3) := by decide +kernel
theorem dX8_mixGroup_114 : decode cX8_mixGroup 114 = .ok (.aload_n 0, 1) := by decide +kernel
theorem dX8_mixGroup_115 : decode cX8_mixGroup 115 = .ok (.aload_n 0, 1) := by decide +kernel
theorem dX8_mixGroup_116 : decode cX8_mixGroup 116 = .ok (.iload_n 1, 1) := by decide +kernel
theorem dX8_mixGroup_117 : decode cX8_mixGroup 117 = .ok (.iload_n 2, 1) := by decide +kernel
theorem dX8_mixGroup_118 : decode cX8_mixGroup 118 = .ok (.iconst 1, 1) := by decide +kernel
theorem dX8_mixGroup_119 : decode cX8_mixGroup 119 = .ok (.invokevirtual 194, 3) := by decide +kernel
theorem dX8_mixGroup_122 : decode cX8_mixGroup 122 = .ok (.i2l, 1) := by decide +kernel
theorem dX8_mixGroup_123 : decode cX8_mixGroup 123 = .ok (.invokevirtual 261, 3) := by decide +kernel
theorem dX8_mixGroup_126 : decode cX8_mixGroup 126 = .ok (.iinc 2 1, 3) := by decide +kernel
theorem dX8_mixGroup_129 : decode cX8_mixGroup 129 = .ok (.goto (-102), 3) := by decide +kernel
theorem dX8_mixGroup_132 : decode cX8_mixGroup 132 = .ok (.iconst 0, 1) := by decide +kernel
theorem dX8_mixGroup_133 : decode cX8_mixGroup 133 = .ok (.istore_n 2, 1) := by decide +kernel
theorem dX8_mixGroup_134 : decode cX8_mixGroup 134 = .ok (.iload_n 2, 1) := by decide +kernel
theorem dX8_mixGroup_135 : decode cX8_mixGroup 135 = .ok (.aload_n 0, 1) := by decide +kernel
theorem dX8_mixGroup_136 : decode cX8_mixGroup 136 = .ok (.getfield 7, 3) := by decide +kernel
theorem dX8_mixGroup_139 : decode cX8_mixGroup 139 = .ok (.bipush 9, 2) := by decide +kernel
theorem dX8_mixGroup_141 : decode cX8_mixGroup 141 = .ok (.iaload, 1) := by decide +kernel
theorem dX8_mixGroup_142 : decode cX8_mixGroup 142 = .ok (.if_icmp .ge 37, 3) := by decide +kernel
theorem dX8_mixGroup_145 : decode cX8_mixGroup 145 = .ok (.aload_n 0, 1) := by decide +kernel
theorem dX8_mixGroup_146 : decode cX8_mixGroup 146 = .ok (.aload_n 0, 1) := by decide +kernel
theorem dX8_mixGroup_147 : decode cX8_mixGroup 147 = .ok (.iload_n 1, 1) := by decide +kernel
theorem dX8_mixGroup_148 : decode cX8_mixGroup 148 = .ok (.bipush 46, 2) := by decide +kernel
theorem dX8_mixGroup_150 : decode cX8_mixGroup 150 = .ok (.iload_n 2, 1) := by decide +kernel
theorem dX8_mixGroup_151 : decode cX8_mixGroup 151 = .ok (.iadd, 1) := by decide +kernel
theorem dX8_mixGroup_152 : decode cX8_mixGroup 152 = .ok (.invokevirtual 63, 3) := by decide +kernel
theorem dX8_mixGroup_155 : decode cX8_mixGroup 155 = .ok (.i2l, 1) := by decide +kernel
theorem dX8_mixGroup_156 : decode cX8_mixGroup 156 = .ok (.invokevirtual 261, 3) := by decide +kernel
theorem dX8_mixGroup_159 : decode cX8_mixGroup 159 = .ok (.aload_n 0, 1) := by decide +kernel
theorem dX8_mixGroup_160 : decode cX8_mixGroup 160 = .ok (.aload_n 0, 1) := by decide +kernel
theorem dX8_mixGroup_161 : decode cX8_mixGroup 161 = .ok (.iload_n 1, 1) := by decide +kernel
theorem dX8_mixGroup_162 : decode cX8_mixGroup 162 = .ok (.bipush 52, 2) := by decide +kernel
theorem dX8_mixGroup_164 : decode cX8_mixGroup 164 = .ok (.iload_n 2, 1) := by decide +kernel
theorem dX8_mixGroup_165 : decode cX8_mixGroup 165 = .ok (.iadd, 1) := by decide +kernel
theorem dX8_mixGroup_166 : decode cX8_mixGroup 166 = .ok (.invokevirtual 63, 3) := by decide +kernel
theorem dX8_mixGroup_169 : decode cX8_mixGroup 169 = .ok (.i2l, 1) := by decide +kernel
theorem dX8_mixGroup_170 : decode cX8_mixGroup 170 = .ok (.invokevirtual 261, 3) := by decide +kernel
theorem dX8_mixGroup_173 : decode cX8_mixGroup 173 = .ok (.iinc 2 1, 3) := by decide +kernel
theorem dX8_mixGroup_176 : decode cX8_mixGroup 176 = .ok (.goto (-42), 3) := by decide +kernel
theorem dX8_mixGroup_179 : decode cX8_mixGroup 179 = .ok (.return_, 1) := by decide +kernel
theorem dX8_digest_0 : decode cX8_digest 0 = .ok (.aload_n 0, 1) := by decide +kernel
theorem dX8_digest_1 : decode cX8_digest 1 = .ok (.ldc2_w 265, 3) := by decide +kernel
theorem dX8_digest_4 : decode cX8_digest 4 = .ok (.putfield 257, 3) := by decide +kernel
theorem dX8_digest_7 : decode cX8_digest 7 = .ok (.iconst 0, 1) := by decide +kernel
theorem dX8_digest_8 : decode cX8_digest 8 = .ok (.istore_n 1, 1) := by decide +kernel
theorem dX8_digest_9 : decode cX8_digest 9 = .ok (.iload_n 1, 1) := by decide +kernel
theorem dX8_digest_10 : decode cX8_digest 10 = .ok (.iconst 5, 1) := by decide +kernel
theorem dX8_digest_11 : decode cX8_digest 11 = .ok (.if_icmp .ge 19, 3) := by decide +kernel
theorem dX8_digest_14 : decode cX8_digest 14 = .ok (.aload_n 0, 1) := by decide +kernel
theorem dX8_digest_15 : decode cX8_digest 15 = .ok (.aload_n 0, 1) := by decide +kernel
theorem dX8_digest_16 : decode cX8_digest 16 = .ok (.iload_n 1, 1) := by decide +kernel
theorem dX8_digest_17 : decode cX8_digest 17 = .ok (.invokevirtual 252, 3) := by decide +kernel
theorem dX8_digest_20 : decode cX8_digest 20 = .ok (.i2l, 1) := by decide +kernel
theorem dX8_digest_21 : decode cX8_digest 21 = .ok (.invokevirtual 261, 3) := by decide +kernel
theorem dX8_digest_24 : decode cX8_digest 24 = .ok (.iinc 1 1, 3) := by decide +kernel
theorem dX8_digest_27 : decode cX8_digest 27 = .ok (.goto (-18), 3) := by decide +kernel
theorem dX8_digest_30 : decode cX8_digest 30 = .ok (.iconst 0, 1) := by decide +kernel
theorem dX8_digest_31 : decode cX8_digest 31 = .ok (.istore_n 1, 1) := by decide +kernel
theorem dX8_digest_32 : decode cX8_digest 32 = .ok (.iload_n 1, 1) := by decide +kernel
theorem dX8_digest_33 : decode cX8_digest 33 = .ok (.bipush 9, 2) := by decide +kernel
theorem dX8_digest_35 : decode cX8_digest 35 = .ok (.if_icmp .ge 19, 3) := by decide +kernel
theorem dX8_digest_38 : decode cX8_digest 38 = .ok (.aload_n 0, 1) := by decide +kernel
theorem dX8_digest_39 : decode cX8_digest 39 = .ok (.aload_n 0, 1) := by decide +kernel
theorem dX8_digest_40 : decode cX8_digest 40 = .ok (.iload_n 1, 1) := by decide +kernel
theorem dX8_digest_41 : decode cX8_digest 41 = .ok (.invokevirtual 203, 3) := by decide +kernel
theorem dX8_digest_44 : decode cX8_digest 44 = .ok (.i2l, 1) := by decide +kernel
theorem dX8_digest_45 : decode cX8_digest 45 = .ok (.invokevirtual 261, 3) := by decide +kernel
theorem dX8_digest_48 : decode cX8_digest 48 = .ok (.iinc 1 1, 3) := by decide +kernel
theorem dX8_digest_51 : decode cX8_digest 51 = .ok (.goto (-19), 3) := by decide +kernel
theorem dX8_digest_54 : decode cX8_digest 54 = .ok (.iconst 0, 1) := by decide +kernel
theorem dX8_digest_55 : decode cX8_digest 55 = .ok (.istore_n 1, 1) := by decide +kernel
theorem dX8_digest_56 : decode cX8_digest 56 = .ok (.iload_n 1, 1) := by decide +kernel
theorem dX8_digest_57 : decode cX8_digest 57 = .ok (.bipush 8, 2) := by decide +kernel
theorem dX8_digest_59 : decode cX8_digest 59 = .ok (.if_icmp .ge 22, 3) := by decide +kernel
theorem dX8_digest_62 : decode cX8_digest 62 = .ok (.aload_n 0, 1) := by decide +kernel
theorem dX8_digest_63 : decode cX8_digest 63 = .ok (.aload_n 0, 1) := by decide +kernel
theorem dX8_digest_64 : decode cX8_digest 64 = .ok (.getfield 7, 3) := by decide +kernel
theorem dX8_digest_67 : decode cX8_digest 67 = .ok (.iconst 1, 1) := by decide +kernel
theorem dX8_digest_68 : decode cX8_digest 68 = .ok (.iload_n 1, 1) := by decide +kernel
theorem dX8_digest_69 : decode cX8_digest 69 = .ok (.iadd, 1) := by decide +kernel
theorem dX8_digest_70 : decode cX8_digest 70 = .ok (.iaload, 1) := by decide +kernel
theorem dX8_digest_71 : decode cX8_digest 71 = .ok (.i2l, 1) := by decide +kernel
theorem dX8_digest_72 : decode cX8_digest 72 = .ok (.invokevirtual 261, 3) := by decide +kernel
theorem dX8_digest_75 : decode cX8_digest 75 = .ok (.iinc 1 1, 3) := by decide +kernel
theorem dX8_digest_78 : decode cX8_digest 78 = .ok (.goto (-22), 3) := by decide +kernel
theorem dX8_digest_81 : decode cX8_digest 81 = .ok (.iconst 0, 1) := by decide +kernel
theorem dX8_digest_82 : decode cX8_digest 82 = .ok (.istore_n 1, 1) := by decide +kernel
theorem dX8_digest_83 : decode cX8_digest 83 = .ok (.iload_n 1, 1) := by decide +kernel
theorem dX8_digest_84 : decode cX8_digest 84 = .ok (.aload_n 0, 1) := by decide +kernel
theorem dX8_digest_85 : decode cX8_digest 85 = .ok (.getfield 7, 3) := by decide +kernel
theorem dX8_digest_88 : decode cX8_digest 88 = .ok (.bipush 9, 2) := by decide +kernel
theorem dX8_digest_90 : decode cX8_digest 90 = .ok (.iaload, 1) := by decide +kernel
theorem dX8_digest_91 : decode cX8_digest 91 = .ok (.if_icmp .ge 58, 3) := by decide +kernel
theorem dX8_digest_94 : decode cX8_digest 94 = .ok (.iconst 0, 1) := by decide +kernel
theorem dX8_digest_95 : decode cX8_digest 95 = .ok (.istore_n 2, 1) := by decide +kernel
theorem dX8_digest_96 : decode cX8_digest 96 = .ok (.iload_n 2, 1) := by decide +kernel
theorem dX8_digest_97 : decode cX8_digest 97 = .ok (.iconst 3, 1) := by decide +kernel
theorem dX8_digest_98 : decode cX8_digest 98 = .ok (.if_icmp .ge 20, 3) := by decide +kernel
theorem dX8_digest_101 : decode cX8_digest 101 = .ok (.aload_n 0, 1) := by decide +kernel
theorem dX8_digest_102 : decode cX8_digest 102 = .ok (.aload_n 0, 1) := by decide +kernel
theorem dX8_digest_103 : decode cX8_digest 103 = .ok (.iload_n 1, 1) := by decide +kernel
theorem dX8_digest_104 : decode cX8_digest 104 = .ok (.iload_n 2, 1) := by decide +kernel
theorem dX8_digest_105 : decode cX8_digest 105 = .ok (.invokevirtual 179, 3) := by decide +kernel
theorem dX8_digest_108 : decode cX8_digest 108 = .ok (.i2l, 1) := by decide +kernel
theorem dX8_digest_109 : decode cX8_digest 109 = .ok (.invokevirtual 261, 3) := by decide +kernel
theorem dX8_digest_112 : decode cX8_digest 112 = .ok (.iinc 2 1, 3) := by decide +kernel
theorem dX8_digest_115 : decode cX8_digest 115 = .ok (.goto (-19), 3) := by decide +kernel
theorem dX8_digest_118 : decode cX8_digest 118 = .ok (.iconst 0, 1) := by decide +kernel
theorem dX8_digest_119 : decode cX8_digest 119 = .ok (.istore_n 2, 1) := by decide +kernel
theorem dX8_digest_120 : decode cX8_digest 120 = .ok (.iload_n 2, 1) := by decide +kernel
theorem dX8_digest_121 : decode cX8_digest 121 = .ok (.bipush 8, 2) := by decide +kernel
theorem dX8_digest_123 : decode cX8_digest 123 = .ok (.if_icmp .ge 20, 3) := by decide +kernel
theorem dX8_digest_126 : decode cX8_digest 126 = .ok (.aload_n 0, 1) := by decide +kernel
theorem dX8_digest_127 : decode cX8_digest 127 = .ok (.aload_n 0, 1) := by decide +kernel
theorem dX8_digest_128 : decode cX8_digest 128 = .ok (.iload_n 1, 1) := by decide +kernel
theorem dX8_digest_129 : decode cX8_digest 129 = .ok (.iload_n 2, 1) := by decide +kernel
theorem dX8_digest_130 : decode cX8_digest 130 = .ok (.invokevirtual 92, 3) := by decide +kernel
theorem dX8_digest_133 : decode cX8_digest 133 = .ok (.i2l, 1) := by decide +kernel
theorem dX8_digest_134 : decode cX8_digest 134 = .ok (.invokevirtual 261, 3) := by decide +kernel
theorem dX8_digest_137 : decode cX8_digest 137 = .ok (.iinc 2 1, 3) := by decide +kernel
theorem dX8_digest_140 : decode cX8_digest 140 = .ok (.goto (-20), 3) := by decide +kernel
theorem dX8_digest_143 : decode cX8_digest 143 = .ok (.iinc 1 1, 3) := by decide +kernel
theorem dX8_digest_146 : decode cX8_digest 146 = .ok (.goto (-63), 3) := by decide +kernel
theorem dX8_digest_149 : decode cX8_digest 149 = .ok (.iconst 0, 1) := by decide +kernel
theorem dX8_digest_150 : decode cX8_digest 150 = .ok (.istore_n 1, 1) := by decide +kernel
theorem dX8_digest_151 : decode cX8_digest 151 = .ok (.iload_n 1, 1) := by decide +kernel
theorem dX8_digest_152 : decode cX8_digest 152 = .ok (.aload_n 0, 1) := by decide +kernel
theorem dX8_digest_153 : decode cX8_digest 153 = .ok (.getfield 7, 3) := by decide +kernel
theorem dX8_digest_156 : decode cX8_digest 156 = .ok (.bipush 70, 2) := by decide +kernel
theorem dX8_digest_158 : decode cX8_digest 158 = .ok (.iaload, 1) := by decide +kernel
theorem dX8_digest_159 : decode cX8_digest 159 = .ok (.if_icmp .ge 14, 3) := by decide +kernel
theorem dX8_digest_162 : decode cX8_digest 162 = .ok (.aload_n 0, 1) := by decide +kernel
theorem dX8_digest_163 : decode cX8_digest 163 = .ok (.iload_n 1, 1) := by decide +kernel
theorem dX8_digest_164 : decode cX8_digest 164 = .ok (.invokevirtual 267, 3) := by decide +kernel
theorem dX8_digest_167 : decode cX8_digest 167 = .ok (.iinc 1 1, 3) := by decide +kernel
theorem dX8_digest_170 : decode cX8_digest 170 = .ok (.goto (-19), 3) := by decide +kernel
theorem dX8_digest_173 : decode cX8_digest 173 = .ok (.iconst 0, 1) := by decide +kernel
theorem dX8_digest_174 : decode cX8_digest 174 = .ok (.istore_n 1, 1) := by decide +kernel
theorem dX8_digest_175 : decode cX8_digest 175 = .ok (.iload_n 1, 1) := by decide +kernel
theorem dX8_digest_176 : decode cX8_digest 176 = .ok (.iconst 3, 1) := by decide +kernel
theorem dX8_digest_177 : decode cX8_digest 177 = .ok (.aload_n 0, 1) := by decide +kernel
theorem dX8_digest_178 : decode cX8_digest 178 = .ok (.getfield 7, 3) := by decide +kernel
theorem dX8_digest_181 : decode cX8_digest 181 = .ok (.sipush 429, 3) := by decide +kernel
theorem dX8_digest_184 : decode cX8_digest 184 = .ok (.iaload, 1) := by decide +kernel
theorem dX8_digest_185 : decode cX8_digest 185 = .ok (.imul, 1) := by decide +kernel
theorem dX8_digest_186 : decode cX8_digest 186 = .ok (.if_icmp .ge 24, 3) := by decide +kernel
theorem dX8_digest_189 : decode cX8_digest 189 = .ok (.aload_n 0, 1) := by decide +kernel
theorem dX8_digest_190 : decode cX8_digest 190 = .ok (.aload_n 0, 1) := by decide +kernel
theorem dX8_digest_191 : decode cX8_digest 191 = .ok (.getfield 7, 3) := by decide +kernel
theorem dX8_digest_194 : decode cX8_digest 194 = .ok (.sipush 430, 3) := by decide +kernel
theorem dX8_digest_197 : decode cX8_digest 197 = .ok (.iload_n 1, 1) := by decide +kernel
theorem dX8_digest_198 : decode cX8_digest 198 = .ok (.iadd, 1) := by decide +kernel
theorem dX8_digest_199 : decode cX8_digest 199 = .ok (.iaload, 1) := by decide +kernel
theorem dX8_digest_200 : decode cX8_digest 200 = .ok (.i2l, 1) := by decide +kernel
theorem dX8_digest_201 : decode cX8_digest 201 = .ok (.invokevirtual 261, 3) := by decide +kernel
theorem dX8_digest_204 : decode cX8_digest 204 = .ok (.iinc 1 1, 3) := by decide +kernel
theorem dX8_digest_207 : decode cX8_digest 207 = .ok (.goto (-32), 3) := by decide +kernel
theorem dX8_digest_210 : decode cX8_digest 210 = .ok (.aload_n 0, 1) := by decide +kernel
theorem dX8_digest_211 : decode cX8_digest 211 = .ok (.getfield 257, 3) := by decide +kernel
theorem dX8_digest_214 : decode cX8_digest 214 = .ok (.lreturn, 1) := by decide +kernel
theorem dL_law_0 : decode cL_law 0 = .ok (.new 7, 3) := by decide +kernel
theorem dL_law_3 : decode cL_law 3 = .ok (.dup, 1) := by decide +kernel
theorem dL_law_4 : decode cL_law 4 = .ok (.invokespecial 9, 3) := by decide +kernel
theorem dL_law_7 : decode cL_law 7 = .ok (.astore_n 1, 1) := by decide +kernel
theorem dL_law_8 : decode cL_law 8 = .ok (.new 10, 3) := by decide +kernel
theorem dL_law_11 : decode cL_law 11 = .ok (.dup, 1) := by decide +kernel
theorem dL_law_12 : decode cL_law 12 = .ok (.invokespecial 12, 3) := by decide +kernel
theorem dL_law_15 : decode cL_law 15 = .ok (.astore_n 2, 1) := by decide +kernel
theorem dL_law_16 : decode cL_law 16 = .ok (.iconst 0, 1) := by decide +kernel
theorem dL_law_17 : decode cL_law 17 = .ok (.istore_n 3, 1) := by decide +kernel
theorem dL_law_18 : decode cL_law 18 = .ok (.iload_n 3, 1) := by decide +kernel
theorem dL_law_19 : decode cL_law 19 = .ok (.aload_n 0, 1) := by decide +kernel
theorem dL_law_20 : decode cL_law 20 = .ok (.arraylength, 1) := by decide +kernel
theorem dL_law_21 : decode cL_law 21 = .ok (.bipush 6, 2) := by decide +kernel
theorem dL_law_23 : decode cL_law 23 = .ok (.isub, 1) := by decide +kernel
theorem dL_law_24 : decode cL_law 24 = .ok (.if_icmp .gt 940, 3) := by decide +kernel
theorem dL_law_27 : decode cL_law 27 = .ok (.aload_n 0, 1) := by decide +kernel
theorem dL_law_28 : decode cL_law 28 = .ok (.iload_n 3, 1) := by decide +kernel
theorem dL_law_29 : decode cL_law 29 = .ok (.iaload, 1) := by decide +kernel
theorem dL_law_30 : decode cL_law 30 = .ok (.bipush 31, 2) := by decide +kernel
theorem dL_law_32 : decode cL_law 32 = .ok (.iand, 1) := by decide +kernel
theorem dL_law_33 : decode cL_law 33 = .ok (.tableswitch 925 0 26 #[123, 146, 179, 222, 245, 268, 331, 364, 397, 420, 453, 486, 519, 552, 595, 638, 681, 724, 747, 770, 803, 826, 849, 862, 875, 888, 911], 123) := by decide +kernel
theorem dL_law_156 : decode cL_law 156 = .ok (.aload_n 1, 1) := by decide +kernel
theorem dL_law_157 : decode cL_law 157 = .ok (.aload_n 0, 1) := by decide +kernel
theorem dL_law_158 : decode cL_law 158 = .ok (.iload_n 3, 1) := by decide +kernel
theorem dL_law_159 : decode cL_law 159 = .ok (.iconst 1, 1) := by decide +kernel
theorem dL_law_160 : decode cL_law 160 = .ok (.iadd, 1) := by decide +kernel
theorem dL_law_161 : decode cL_law 161 = .ok (.iaload, 1) := by decide +kernel
theorem dL_law_162 : decode cL_law 162 = .ok (.invokevirtual 13, 3) := by decide +kernel
theorem dL_law_165 : decode cL_law 165 = .ok (.aload_n 2, 1) := by decide +kernel
theorem dL_law_166 : decode cL_law 166 = .ok (.aload_n 0, 1) := by decide +kernel
theorem dL_law_167 : decode cL_law 167 = .ok (.iload_n 3, 1) := by decide +kernel
theorem dL_law_168 : decode cL_law 168 = .ok (.iconst 1, 1) := by decide +kernel
theorem dL_law_169 : decode cL_law 169 = .ok (.iadd, 1) := by decide +kernel
theorem dL_law_170 : decode cL_law 170 = .ok (.iaload, 1) := by decide +kernel
theorem dL_law_171 : decode cL_law 171 = .ok (.invokevirtual 17, 3) := by decide +kernel
theorem dL_law_174 : decode cL_law 174 = .ok (.if_icmp .eq 784, 3) := by decide +kernel
theorem dL_law_177 : decode cL_law 177 = .ok (.iconst 0, 1) := by decide +kernel
theorem dL_law_178 : decode cL_law 178 = .ok (.ireturn, 1) := by decide +kernel
theorem dL_law_179 : decode cL_law 179 = .ok (.aload_n 1, 1) := by decide +kernel
theorem dL_law_180 : decode cL_law 180 = .ok (.aload_n 0, 1) := by decide +kernel
theorem dL_law_181 : decode cL_law 181 = .ok (.iload_n 3, 1) := by decide +kernel
theorem dL_law_182 : decode cL_law 182 = .ok (.iconst 1, 1) := by decide +kernel
theorem dL_law_183 : decode cL_law 183 = .ok (.iadd, 1) := by decide +kernel
theorem dL_law_184 : decode cL_law 184 = .ok (.iaload, 1) := by decide +kernel
theorem dL_law_185 : decode cL_law 185 = .ok (.aload_n 0, 1) := by decide +kernel
theorem dL_law_186 : decode cL_law 186 = .ok (.iload_n 3, 1) := by decide +kernel
theorem dL_law_187 : decode cL_law 187 = .ok (.iconst 2, 1) := by decide +kernel
theorem dL_law_188 : decode cL_law 188 = .ok (.iadd, 1) := by decide +kernel
theorem dL_law_189 : decode cL_law 189 = .ok (.iaload, 1) := by decide +kernel
theorem dL_law_190 : decode cL_law 190 = .ok (.invokevirtual 18, 3) := by decide +kernel
theorem dL_law_193 : decode cL_law 193 = .ok (.aload_n 2, 1) := by decide +kernel
theorem dL_law_194 : decode cL_law 194 = .ok (.aload_n 0, 1) := by decide +kernel
theorem dL_law_195 : decode cL_law 195 = .ok (.iload_n 3, 1) := by decide +kernel
theorem dL_law_196 : decode cL_law 196 = .ok (.iconst 1, 1) := by decide +kernel
theorem dL_law_197 : decode cL_law 197 = .ok (.iadd, 1) := by decide +kernel
theorem dL_law_198 : decode cL_law 198 = .ok (.iaload, 1) := by decide +kernel
theorem dL_law_199 : decode cL_law 199 = .ok (.aload_n 0, 1) := by decide +kernel
theorem dL_law_200 : decode cL_law 200 = .ok (.iload_n 3, 1) := by decide +kernel
theorem dL_law_201 : decode cL_law 201 = .ok (.iconst 2, 1) := by decide +kernel
theorem dL_law_202 : decode cL_law 202 = .ok (.iadd, 1) := by decide +kernel
theorem dL_law_203 : decode cL_law 203 = .ok (.iaload, 1) := by decide +kernel
theorem dL_law_204 : decode cL_law 204 = .ok (.invokevirtual 22, 3) := by decide +kernel
theorem dL_law_207 : decode cL_law 207 = .ok (.if_icmp .eq 751, 3) := by decide +kernel
theorem dL_law_210 : decode cL_law 210 = .ok (.iconst 0, 1) := by decide +kernel
theorem dL_law_211 : decode cL_law 211 = .ok (.ireturn, 1) := by decide +kernel
theorem dL_law_212 : decode cL_law 212 = .ok (.aload_n 1, 1) := by decide +kernel
theorem dL_law_213 : decode cL_law 213 = .ok (.aload_n 0, 1) := by decide +kernel
theorem dL_law_214 : decode cL_law 214 = .ok (.iload_n 3, 1) := by decide +kernel
theorem dL_law_215 : decode cL_law 215 = .ok (.iconst 1, 1) := by decide +kernel
theorem dL_law_216 : decode cL_law 216 = .ok (.iadd, 1) := by decide +kernel
theorem dL_law_217 : decode cL_law 217 = .ok (.iaload, 1) := by decide +kernel
theorem dL_law_218 : decode cL_law 218 = .ok (.aload_n 0, 1) := by decide +kernel
theorem dL_law_219 : decode cL_law 219 = .ok (.iload_n 3, 1) := by decide +kernel
theorem dL_law_220 : decode cL_law 220 = .ok (.iconst 2, 1) := by decide +kernel
theorem dL_law_221 : decode cL_law 221 = .ok (.iadd, 1) := by decide +kernel
theorem dL_law_222 : decode cL_law 222 = .ok (.iaload, 1) := by decide +kernel
theorem dL_law_223 : decode cL_law 223 = .ok (.aload_n 0, 1) := by decide +kernel
theorem dL_law_224 : decode cL_law 224 = .ok (.iload_n 3, 1) := by decide +kernel
theorem dL_law_225 : decode cL_law 225 = .ok (.iconst 3, 1) := by decide +kernel
theorem dL_law_226 : decode cL_law 226 = .ok (.iadd, 1) := by decide +kernel
theorem dL_law_227 : decode cL_law 227 = .ok (.iaload, 1) := by decide +kernel
theorem dL_law_228 : decode cL_law 228 = .ok (.invokevirtual 23, 3) := by decide +kernel
theorem dL_law_231 : decode cL_law 231 = .ok (.aload_n 2, 1) := by decide +kernel
theorem dL_law_232 : decode cL_law 232 = .ok (.aload_n 0, 1) := by decide +kernel
theorem dL_law_233 : decode cL_law 233 = .ok (.iload_n 3, 1) := by decide +kernel
theorem dL_law_234 : decode cL_law 234 = .ok (.iconst 1, 1) := by decide +kernel
theorem dL_law_235 : decode cL_law 235 = .ok (.iadd, 1) := by decide +kernel
theorem dL_law_236 : decode cL_law 236 = .ok (.iaload, 1) := by decide +kernel
theorem dL_law_237 : decode cL_law 237 = .ok (.aload_n 0, 1) := by decide +kernel
theorem dL_law_238 : decode cL_law 238 = .ok (.iload_n 3, 1) := by decide +kernel
theorem dL_law_239 : decode cL_law 239 = .ok (.iconst 2, 1) := by decide +kernel
theorem dL_law_240 : decode cL_law 240 = .ok (.iadd, 1) := by decide +kernel
theorem dL_law_241 : decode cL_law 241 = .ok (.iaload, 1) := by decide +kernel
theorem dL_law_242 : decode cL_law 242 = .ok (.aload_n 0, 1) := by decide +kernel
theorem dL_law_243 : decode cL_law 243 = .ok (.iload_n 3, 1) := by decide +kernel
theorem dL_law_244 : decode cL_law 244 = .ok (.iconst 3, 1) := by decide +kernel
theorem dL_law_245 : decode cL_law 245 = .ok (.iadd, 1) := by decide +kernel
theorem dL_law_246 : decode cL_law 246 = .ok (.iaload, 1) := by decide +kernel
theorem dL_law_247 : decode cL_law 247 = .ok (.invokevirtual 27, 3) := by decide +kernel
theorem dL_law_250 : decode cL_law 250 = .ok (.if_icmp .eq 708, 3) := by decide +kernel
theorem dL_law_253 : decode cL_law 253 = .ok (.iconst 0, 1) := by decide +kernel
theorem dL_law_254 : decode cL_law 254 = .ok (.ireturn, 1) := by decide +kernel
theorem dL_law_255 : decode cL_law 255 = .ok (.aload_n 1, 1) := by decide +kernel
theorem dL_law_256 : decode cL_law 256 = .ok (.aload_n 0, 1) := by decide +kernel
theorem dL_law_257 : decode cL_law 257 = .ok (.iload_n 3, 1) := by decide +kernel
theorem dL_law_258 : decode cL_law 258 = .ok (.iconst 1, 1) := by decide +kernel
theorem dL_law_259 : decode cL_law 259 = .ok (.iadd, 1) := by decide +kernel
theorem dL_law_260 : decode cL_law 260 = .ok (.iaload, 1) := by decide +kernel
theorem dL_law_261 : decode cL_law 261 = .ok (.invokevirtual 28, 3) := by decide +kernel
theorem dL_law_264 : decode cL_law 264 = .ok (.aload_n 2, 1) := by decide +kernel
theorem dL_law_265 : decode cL_law 265 = .ok (.aload_n 0, 1) := by decide +kernel
theorem dL_law_266 : decode cL_law 266 = .ok (.iload_n 3, 1) := by decide +kernel
theorem dL_law_267 : decode cL_law 267 = .ok (.iconst 1, 1) := by decide +kernel
theorem dL_law_268 : decode cL_law 268 = .ok (.iadd, 1) := by decide +kernel
theorem dL_law_269 : decode cL_law 269 = .ok (.iaload, 1) := by decide +kernel
theorem dL_law_270 : decode cL_law 270 = .ok (.invokevirtual 31, 3) := by decide +kernel
theorem dL_law_273 : decode cL_law 273 = .ok (.if_icmp .eq 685, 3) := by decide +kernel
theorem dL_law_276 : decode cL_law 276 = .ok (.iconst 0, 1) := by decide +kernel
theorem dL_law_277 : decode cL_law 277 = .ok (.ireturn, 1) := by decide +kernel
theorem dL_law_278 : decode cL_law 278 = .ok (.aload_n 1, 1) := by decide +kernel
theorem dL_law_279 : decode cL_law 279 = .ok (.aload_n 0, 1) := by decide +kernel
theorem dL_law_280 : decode cL_law 280 = .ok (.iload_n 3, 1) := by decide +kernel
theorem dL_law_281 : decode cL_law 281 = .ok (.iconst 1, 1) := by decide +kernel
theorem dL_law_282 : decode cL_law 282 = .ok (.iadd, 1) := by decide +kernel
theorem dL_law_283 : decode cL_law 283 = .ok (.iaload, 1) := by decide +kernel
theorem dL_law_284 : decode cL_law 284 = .ok (.invokevirtual 32, 3) := by decide +kernel
theorem dL_law_287 : decode cL_law 287 = .ok (.aload_n 2, 1) := by decide +kernel
theorem dL_law_288 : decode cL_law 288 = .ok (.aload_n 0, 1) := by decide +kernel
theorem dL_law_289 : decode cL_law 289 = .ok (.iload_n 3, 1) := by decide +kernel
theorem dL_law_290 : decode cL_law 290 = .ok (.iconst 1, 1) := by decide +kernel
theorem dL_law_291 : decode cL_law 291 = .ok (.iadd, 1) := by decide +kernel
theorem dL_law_292 : decode cL_law 292 = .ok (.iaload, 1) := by decide +kernel
theorem dL_law_293 : decode cL_law 293 = .ok (.invokevirtual 35, 3) := by decide +kernel
theorem dL_law_296 : decode cL_law 296 = .ok (.if_icmp .eq 662, 3) := by decide +kernel
theorem dL_law_299 : decode cL_law 299 = .ok (.iconst 0, 1) := by decide +kernel
theorem dL_law_300 : decode cL_law 300 = .ok (.ireturn, 1) := by decide +kernel
theorem dL_law_301 : decode cL_law 301 = .ok (.aload_n 1, 1) := by decide +kernel
theorem dL_law_302 : decode cL_law 302 = .ok (.aload_n 0, 1) := by decide +kernel
theorem dL_law_303 : decode cL_law 303 = .ok (.iload_n 3, 1) := by decide +kernel
theorem dL_law_304 : decode cL_law 304 = .ok (.iconst 1, 1) := by decide +kernel
theorem dL_law_305 : decode cL_law 305 = .ok (.iadd, 1) := by decide +kernel
theorem dL_law_306 : decode cL_law 306 = .ok (.iaload, 1) := by decide +kernel
theorem dL_law_307 : decode cL_law 307 = .ok (.aload_n 0, 1) := by decide +kernel
theorem dL_law_308 : decode cL_law 308 = .ok (.iload_n 3, 1) := by decide +kernel
theorem dL_law_309 : decode cL_law 309 = .ok (.iconst 2, 1) := by decide +kernel
theorem dL_law_310 : decode cL_law 310 = .ok (.iadd, 1) := by decide +kernel
theorem dL_law_311 : decode cL_law 311 = .ok (.iaload, 1) := by decide +kernel
theorem dL_law_312 : decode cL_law 312 = .ok (.aload_n 0, 1) := by decide +kernel
theorem dL_law_313 : decode cL_law 313 = .ok (.iload_n 3, 1) := by decide +kernel
theorem dL_law_314 : decode cL_law 314 = .ok (.iconst 3, 1) := by decide +kernel
theorem dL_law_315 : decode cL_law 315 = .ok (.iadd, 1) := by decide +kernel
theorem dL_law_316 : decode cL_law 316 = .ok (.iaload, 1) := by decide +kernel
theorem dL_law_317 : decode cL_law 317 = .ok (.aload_n 0, 1) := by decide +kernel
theorem dL_law_318 : decode cL_law 318 = .ok (.iload_n 3, 1) := by decide +kernel
theorem dL_law_319 : decode cL_law 319 = .ok (.iconst 4, 1) := by decide +kernel
theorem dL_law_320 : decode cL_law 320 = .ok (.iadd, 1) := by decide +kernel
theorem dL_law_321 : decode cL_law 321 = .ok (.iaload, 1) := by decide +kernel
theorem dL_law_322 : decode cL_law 322 = .ok (.aload_n 0, 1) := by decide +kernel
theorem dL_law_323 : decode cL_law 323 = .ok (.iload_n 3, 1) := by decide +kernel
theorem dL_law_324 : decode cL_law 324 = .ok (.iconst 5, 1) := by decide +kernel
theorem dL_law_325 : decode cL_law 325 = .ok (.iadd, 1) := by decide +kernel
theorem dL_law_326 : decode cL_law 326 = .ok (.iaload, 1) := by decide +kernel
theorem dL_law_327 : decode cL_law 327 = .ok (.invokevirtual 36, 3) := by decide +kernel
theorem dL_law_330 : decode cL_law 330 = .ok (.aload_n 2, 1) := by decide +kernel
theorem dL_law_331 : decode cL_law 331 = .ok (.aload_n 0, 1) := by decide +kernel
theorem dL_law_332 : decode cL_law 332 = .ok (.iload_n 3, 1) := by decide +kernel
theorem dL_law_333 : decode cL_law 333 = .ok (.iconst 1, 1) := by decide +kernel
theorem dL_law_334 : decode cL_law 334 = .ok (.iadd, 1) := by decide +kernel
theorem dL_law_335 : decode cL_law 335 = .ok (.iaload, 1) := by decide +kernel
theorem dL_law_336 : decode cL_law 336 = .ok (.aload_n 0, 1) := by decide +kernel
theorem dL_law_337 : decode cL_law 337 = .ok (.iload_n 3, 1) := by decide +kernel
theorem dL_law_338 : decode cL_law 338 = .ok (.iconst 2, 1) := by decide +kernel
theorem dL_law_339 : decode cL_law 339 = .ok (.iadd, 1) := by decide +kernel
theorem dL_law_340 : decode cL_law 340 = .ok (.iaload, 1) := by decide +kernel
theorem dL_law_341 : decode cL_law 341 = .ok (.aload_n 0, 1) := by decide +kernel
theorem dL_law_342 : decode cL_law 342 = .ok (.iload_n 3, 1) := by decide +kernel
theorem dL_law_343 : decode cL_law 343 = .ok (.iconst 3, 1) := by decide +kernel
theorem dL_law_344 : decode cL_law 344 = .ok (.iadd, 1) := by decide +kernel
theorem dL_law_345 : decode cL_law 345 = .ok (.iaload, 1) := by decide +kernel
theorem dL_law_346 : decode cL_law 346 = .ok (.aload_n 0, 1) := by decide +kernel
theorem dL_law_347 : decode cL_law 347 = .ok (.iload_n 3, 1) := by decide +kernel
theorem dL_law_348 : decode cL_law 348 = .ok (.iconst 4, 1) := by decide +kernel
theorem dL_law_349 : decode cL_law 349 = .ok (.iadd, 1) := by decide +kernel
theorem dL_law_350 : decode cL_law 350 = .ok (.iaload, 1) := by decide +kernel
theorem dL_law_351 : decode cL_law 351 = .ok (.aload_n 0, 1) := by decide +kernel
theorem dL_law_352 : decode cL_law 352 = .ok (.iload_n 3, 1) := by decide +kernel
theorem dL_law_353 : decode cL_law 353 = .ok (.iconst 5, 1) := by decide +kernel
theorem dL_law_354 : decode cL_law 354 = .ok (.iadd, 1) := by decide +kernel
theorem dL_law_355 : decode cL_law 355 = .ok (.iaload, 1) := by decide +kernel
theorem dL_law_356 : decode cL_law 356 = .ok (.invokevirtual 40, 3) := by decide +kernel
theorem dL_law_359 : decode cL_law 359 = .ok (.if_icmp .eq 599, 3) := by decide +kernel
theorem dL_law_362 : decode cL_law 362 = .ok (.iconst 0, 1) := by decide +kernel
theorem dL_law_363 : decode cL_law 363 = .ok (.ireturn, 1) := by decide +kernel
theorem dL_law_364 : decode cL_law 364 = .ok (.aload_n 1, 1) := by decide +kernel
theorem dL_law_365 : decode cL_law 365 = .ok (.aload_n 0, 1) := by decide +kernel
theorem dL_law_366 : decode cL_law 366 = .ok (.iload_n 3, 1) := by decide +kernel
theorem dL_law_367 : decode cL_law 367 = .ok (.iconst 1, 1) := by decide +kernel
theorem dL_law_368 : decode cL_law 368 = .ok (.iadd, 1) := by decide +kernel
theorem dL_law_369 : decode cL_law 369 = .ok (.iaload, 1) := by decide +kernel
theorem dL_law_370 : decode cL_law 370 = .ok (.aload_n 0, 1) := by decide +kernel
theorem dL_law_371 : decode cL_law 371 = .ok (.iload_n 3, 1) := by decide +kernel
theorem dL_law_372 : decode cL_law 372 = .ok (.iconst 2, 1) := by decide +kernel
theorem dL_law_373 : decode cL_law 373 = .ok (.iadd, 1) := by decide +kernel
theorem dL_law_374 : decode cL_law 374 = .ok (.iaload, 1) := by decide +kernel
theorem dL_law_375 : decode cL_law 375 = .ok (.invokevirtual 41, 3) := by decide +kernel
theorem dL_law_378 : decode cL_law 378 = .ok (.aload_n 2, 1) := by decide +kernel
theorem dL_law_379 : decode cL_law 379 = .ok (.aload_n 0, 1) := by decide +kernel
theorem dL_law_380 : decode cL_law 380 = .ok (.iload_n 3, 1) := by decide +kernel
theorem dL_law_381 : decode cL_law 381 = .ok (.iconst 1, 1) := by decide +kernel
theorem dL_law_382 : decode cL_law 382 = .ok (.iadd, 1) := by decide +kernel
theorem dL_law_383 : decode cL_law 383 = .ok (.iaload, 1) := by decide +kernel
theorem dL_law_384 : decode cL_law 384 = .ok (.aload_n 0, 1) := by decide +kernel
theorem dL_law_385 : decode cL_law 385 = .ok (.iload_n 3, 1) := by decide +kernel
theorem dL_law_386 : decode cL_law 386 = .ok (.iconst 2, 1) := by decide +kernel
theorem dL_law_387 : decode cL_law 387 = .ok (.iadd, 1) := by decide +kernel
theorem dL_law_388 : decode cL_law 388 = .ok (.iaload, 1) := by decide +kernel
theorem dL_law_389 : decode cL_law 389 = .ok (.invokevirtual 44, 3) := by decide +kernel
theorem dL_law_392 : decode cL_law 392 = .ok (.if_icmp .eq 566, 3) := by decide +kernel
theorem dL_law_395 : decode cL_law 395 = .ok (.iconst 0, 1) := by decide +kernel
theorem dL_law_396 : decode cL_law 396 = .ok (.ireturn, 1) := by decide +kernel
theorem dL_law_397 : decode cL_law 397 = .ok (.aload_n 1, 1) := by decide +kernel
theorem dL_law_398 : decode cL_law 398 = .ok (.aload_n 0, 1) := by decide +kernel
theorem dL_law_399 : decode cL_law 399 = .ok (.iload_n 3, 1) := by decide +kernel
theorem dL_law_400 : decode cL_law 400 = .ok (.iconst 1, 1) := by decide +kernel
theorem dL_law_401 : decode cL_law 401 = .ok (.iadd, 1) := by decide +kernel
theorem dL_law_402 : decode cL_law 402 = .ok (.iaload, 1) := by decide +kernel
theorem dL_law_403 : decode cL_law 403 = .ok (.aload_n 0, 1) := by decide +kernel
theorem dL_law_404 : decode cL_law 404 = .ok (.iload_n 3, 1) := by decide +kernel
theorem dL_law_405 : decode cL_law 405 = .ok (.iconst 2, 1) := by decide +kernel
theorem dL_law_406 : decode cL_law 406 = .ok (.iadd, 1) := by decide +kernel
theorem dL_law_407 : decode cL_law 407 = .ok (.iaload, 1) := by decide +kernel
theorem dL_law_408 : decode cL_law 408 = .ok (.invokevirtual 45, 3) := by decide +kernel
theorem dL_law_411 : decode cL_law 411 = .ok (.aload_n 2, 1) := by decide +kernel
theorem dL_law_412 : decode cL_law 412 = .ok (.aload_n 0, 1) := by decide +kernel
theorem dL_law_413 : decode cL_law 413 = .ok (.iload_n 3, 1) := by decide +kernel
theorem dL_law_414 : decode cL_law 414 = .ok (.iconst 1, 1) := by decide +kernel
theorem dL_law_415 : decode cL_law 415 = .ok (.iadd, 1) := by decide +kernel
theorem dL_law_416 : decode cL_law 416 = .ok (.iaload, 1) := by decide +kernel
theorem dL_law_417 : decode cL_law 417 = .ok (.aload_n 0, 1) := by decide +kernel
theorem dL_law_418 : decode cL_law 418 = .ok (.iload_n 3, 1) := by decide +kernel
theorem dL_law_419 : decode cL_law 419 = .ok (.iconst 2, 1) := by decide +kernel
theorem dL_law_420 : decode cL_law 420 = .ok (.iadd, 1) := by decide +kernel
theorem dL_law_421 : decode cL_law 421 = .ok (.iaload, 1) := by decide +kernel
theorem dL_law_422 : decode cL_law 422 = .ok (.invokevirtual 48, 3) := by decide +kernel
theorem dL_law_425 : decode cL_law 425 = .ok (.if_icmp .eq 533, 3) := by decide +kernel
theorem dL_law_428 : decode cL_law 428 = .ok (.iconst 0, 1) := by decide +kernel
theorem dL_law_429 : decode cL_law 429 = .ok (.ireturn, 1) := by decide +kernel
theorem dL_law_430 : decode cL_law 430 = .ok (.aload_n 1, 1) := by decide +kernel
theorem dL_law_431 : decode cL_law 431 = .ok (.aload_n 0, 1) := by decide +kernel
theorem dL_law_432 : decode cL_law 432 = .ok (.iload_n 3, 1) := by decide +kernel
theorem dL_law_433 : decode cL_law 433 = .ok (.iconst 1, 1) := by decide +kernel
theorem dL_law_434 : decode cL_law 434 = .ok (.iadd, 1) := by decide +kernel
theorem dL_law_435 : decode cL_law 435 = .ok (.iaload, 1) := by decide +kernel
theorem dL_law_436 : decode cL_law 436 = .ok (.invokevirtual 49, 3) := by decide +kernel
theorem dL_law_439 : decode cL_law 439 = .ok (.aload_n 2, 1) := by decide +kernel
theorem dL_law_440 : decode cL_law 440 = .ok (.aload_n 0, 1) := by decide +kernel
theorem dL_law_441 : decode cL_law 441 = .ok (.iload_n 3, 1) := by decide +kernel
theorem dL_law_442 : decode cL_law 442 = .ok (.iconst 1, 1) := by decide +kernel
theorem dL_law_443 : decode cL_law 443 = .ok (.iadd, 1) := by decide +kernel
theorem dL_law_444 : decode cL_law 444 = .ok (.iaload, 1) := by decide +kernel
theorem dL_law_445 : decode cL_law 445 = .ok (.invokevirtual 52, 3) := by decide +kernel
theorem dL_law_448 : decode cL_law 448 = .ok (.if_icmp .eq 510, 3) := by decide +kernel
theorem dL_law_451 : decode cL_law 451 = .ok (.iconst 0, 1) := by decide +kernel
theorem dL_law_452 : decode cL_law 452 = .ok (.ireturn, 1) := by decide +kernel
theorem dL_law_453 : decode cL_law 453 = .ok (.aload_n 1, 1) := by decide +kernel
theorem dL_law_454 : decode cL_law 454 = .ok (.aload_n 0, 1) := by decide +kernel
theorem dL_law_455 : decode cL_law 455 = .ok (.iload_n 3, 1) := by decide +kernel
theorem dL_law_456 : decode cL_law 456 = .ok (.iconst 1, 1) := by decide +kernel
theorem dL_law_457 : decode cL_law 457 = .ok (.iadd, 1) := by decide +kernel
theorem dL_law_458 : decode cL_law 458 = .ok (.iaload, 1) := by decide +kernel
theorem dL_law_459 : decode cL_law 459 = .ok (.aload_n 0, 1) := by decide +kernel
theorem dL_law_460 : decode cL_law 460 = .ok (.iload_n 3, 1) := by decide +kernel
theorem dL_law_461 : decode cL_law 461 = .ok (.iconst 2, 1) := by decide +kernel
theorem dL_law_462 : decode cL_law 462 = .ok (.iadd, 1) := by decide +kernel
theorem dL_law_463 : decode cL_law 463 = .ok (.iaload, 1) := by decide +kernel
theorem dL_law_464 : decode cL_law 464 = .ok (.invokevirtual 53, 3) := by decide +kernel
theorem dL_law_467 : decode cL_law 467 = .ok (.aload_n 2, 1) := by decide +kernel
theorem dL_law_468 : decode cL_law 468 = .ok (.aload_n 0, 1) := by decide +kernel
theorem dL_law_469 : decode cL_law 469 = .ok (.iload_n 3, 1) := by decide +kernel
theorem dL_law_470 : decode cL_law 470 = .ok (.iconst 1, 1) := by decide +kernel
theorem dL_law_471 : decode cL_law 471 = .ok (.iadd, 1) := by decide +kernel
theorem dL_law_472 : decode cL_law 472 = .ok (.iaload, 1) := by decide +kernel
theorem dL_law_473 : decode cL_law 473 = .ok (.aload_n 0, 1) := by decide +kernel
theorem dL_law_474 : decode cL_law 474 = .ok (.iload_n 3, 1) := by decide +kernel
theorem dL_law_475 : decode cL_law 475 = .ok (.iconst 2, 1) := by decide +kernel
theorem dL_law_476 : decode cL_law 476 = .ok (.iadd, 1) := by decide +kernel
theorem dL_law_477 : decode cL_law 477 = .ok (.iaload, 1) := by decide +kernel
theorem dL_law_478 : decode cL_law 478 = .ok (.invokevirtual 56, 3) := by decide +kernel
theorem dL_law_481 : decode cL_law 481 = .ok (.if_icmp .eq 477, 3) := by decide +kernel
theorem dL_law_484 : decode cL_law 484 = .ok (.iconst 0, 1) := by decide +kernel
theorem dL_law_485 : decode cL_law 485 = .ok (.ireturn, 1) := by decide +kernel
theorem dL_law_486 : decode cL_law 486 = .ok (.aload_n 1, 1) := by decide +kernel
theorem dL_law_487 : decode cL_law 487 = .ok (.aload_n 0, 1) := by decide +kernel
theorem dL_law_488 : decode cL_law 488 = .ok (.iload_n 3, 1) := by decide +kernel
theorem dL_law_489 : decode cL_law 489 = .ok (.iconst 1, 1) := by decide +kernel
theorem dL_law_490 : decode cL_law 490 = .ok (.iadd, 1) := by decide +kernel
theorem dL_law_491 : decode cL_law 491 = .ok (.iaload, 1) := by decide +kernel
theorem dL_law_492 : decode cL_law 492 = .ok (.aload_n 0, 1) := by decide +kernel
theorem dL_law_493 : decode cL_law 493 = .ok (.iload_n 3, 1) := by decide +kernel
theorem dL_law_494 : decode cL_law 494 = .ok (.iconst 2, 1) := by decide +kernel
theorem dL_law_495 : decode cL_law 495 = .ok (.iadd, 1) := by decide +kernel
theorem dL_law_496 : decode cL_law 496 = .ok (.iaload, 1) := by decide +kernel
theorem dL_law_497 : decode cL_law 497 = .ok (.invokevirtual 57, 3) := by decide +kernel
theorem dL_law_500 : decode cL_law 500 = .ok (.aload_n 2, 1) := by decide +kernel
theorem dL_law_501 : decode cL_law 501 = .ok (.aload_n 0, 1) := by decide +kernel
theorem dL_law_502 : decode cL_law 502 = .ok (.iload_n 3, 1) := by decide +kernel
theorem dL_law_503 : decode cL_law 503 = .ok (.iconst 1, 1) := by decide +kernel
theorem dL_law_504 : decode cL_law 504 = .ok (.iadd, 1) := by decide +kernel
theorem dL_law_505 : decode cL_law 505 = .ok (.iaload, 1) := by decide +kernel
theorem dL_law_506 : decode cL_law 506 = .ok (.aload_n 0, 1) := by decide +kernel
theorem dL_law_507 : decode cL_law 507 = .ok (.iload_n 3, 1) := by decide +kernel
theorem dL_law_508 : decode cL_law 508 = .ok (.iconst 2, 1) := by decide +kernel
theorem dL_law_509 : decode cL_law 509 = .ok (.iadd, 1) := by decide +kernel
theorem dL_law_510 : decode cL_law 510 = .ok (.iaload, 1) := by decide +kernel
theorem dL_law_511 : decode cL_law 511 = .ok (.invokevirtual 60, 3) := by decide +kernel
theorem dL_law_514 : decode cL_law 514 = .ok (.if_icmp .eq 444, 3) := by decide +kernel
theorem dL_law_517 : decode cL_law 517 = .ok (.iconst 0, 1) := by decide +kernel
theorem dL_law_518 : decode cL_law 518 = .ok (.ireturn, 1) := by decide +kernel
theorem dL_law_519 : decode cL_law 519 = .ok (.aload_n 1, 1) := by decide +kernel
theorem dL_law_520 : decode cL_law 520 = .ok (.aload_n 0, 1) := by decide +kernel
theorem dL_law_521 : decode cL_law 521 = .ok (.iload_n 3, 1) := by decide +kernel
theorem dL_law_522 : decode cL_law 522 = .ok (.iconst 1, 1) := by decide +kernel
theorem dL_law_523 : decode cL_law 523 = .ok (.iadd, 1) := by decide +kernel
theorem dL_law_524 : decode cL_law 524 = .ok (.iaload, 1) := by decide +kernel
theorem dL_law_525 : decode cL_law 525 = .ok (.aload_n 0, 1) := by decide +kernel
theorem dL_law_526 : decode cL_law 526 = .ok (.iload_n 3, 1) := by decide +kernel
theorem dL_law_527 : decode cL_law 527 = .ok (.iconst 2, 1) := by decide +kernel
theorem dL_law_528 : decode cL_law 528 = .ok (.iadd, 1) := by decide +kernel
theorem dL_law_529 : decode cL_law 529 = .ok (.iaload, 1) := by decide +kernel
theorem dL_law_530 : decode cL_law 530 = .ok (.invokevirtual 61, 3) := by decide +kernel
theorem dL_law_533 : decode cL_law 533 = .ok (.aload_n 2, 1) := by decide +kernel
theorem dL_law_534 : decode cL_law 534 = .ok (.aload_n 0, 1) := by decide +kernel
theorem dL_law_535 : decode cL_law 535 = .ok (.iload_n 3, 1) := by decide +kernel
theorem dL_law_536 : decode cL_law 536 = .ok (.iconst 1, 1) := by decide +kernel
theorem dL_law_537 : decode cL_law 537 = .ok (.iadd, 1) := by decide +kernel
theorem dL_law_538 : decode cL_law 538 = .ok (.iaload, 1) := by decide +kernel
theorem dL_law_539 : decode cL_law 539 = .ok (.aload_n 0, 1) := by decide +kernel
theorem dL_law_540 : decode cL_law 540 = .ok (.iload_n 3, 1) := by decide +kernel
theorem dL_law_541 : decode cL_law 541 = .ok (.iconst 2, 1) := by decide +kernel
theorem dL_law_542 : decode cL_law 542 = .ok (.iadd, 1) := by decide +kernel
theorem dL_law_543 : decode cL_law 543 = .ok (.iaload, 1) := by decide +kernel
theorem dL_law_544 : decode cL_law 544 = .ok (.invokevirtual 64, 3) := by decide +kernel
theorem dL_law_547 : decode cL_law 547 = .ok (.if_icmp .eq 411, 3) := by decide +kernel
theorem dL_law_550 : decode cL_law 550 = .ok (.iconst 0, 1) := by decide +kernel
theorem dL_law_551 : decode cL_law 551 = .ok (.ireturn, 1) := by decide +kernel
theorem dL_law_552 : decode cL_law 552 = .ok (.aload_n 1, 1) := by decide +kernel
theorem dL_law_553 : decode cL_law 553 = .ok (.aload_n 0, 1) := by decide +kernel
theorem dL_law_554 : decode cL_law 554 = .ok (.iload_n 3, 1) := by decide +kernel
theorem dL_law_555 : decode cL_law 555 = .ok (.iconst 1, 1) := by decide +kernel
theorem dL_law_556 : decode cL_law 556 = .ok (.iadd, 1) := by decide +kernel
theorem dL_law_557 : decode cL_law 557 = .ok (.iaload, 1) := by decide +kernel
theorem dL_law_558 : decode cL_law 558 = .ok (.aload_n 0, 1) := by decide +kernel
theorem dL_law_559 : decode cL_law 559 = .ok (.iload_n 3, 1) := by decide +kernel
theorem dL_law_560 : decode cL_law 560 = .ok (.iconst 2, 1) := by decide +kernel
theorem dL_law_561 : decode cL_law 561 = .ok (.iadd, 1) := by decide +kernel
theorem dL_law_562 : decode cL_law 562 = .ok (.iaload, 1) := by decide +kernel
theorem dL_law_563 : decode cL_law 563 = .ok (.invokevirtual 65, 3) := by decide +kernel
theorem dL_law_566 : decode cL_law 566 = .ok (.aload_n 2, 1) := by decide +kernel
theorem dL_law_567 : decode cL_law 567 = .ok (.aload_n 0, 1) := by decide +kernel
theorem dL_law_568 : decode cL_law 568 = .ok (.iload_n 3, 1) := by decide +kernel
theorem dL_law_569 : decode cL_law 569 = .ok (.iconst 1, 1) := by decide +kernel
theorem dL_law_570 : decode cL_law 570 = .ok (.iadd, 1) := by decide +kernel
theorem dL_law_571 : decode cL_law 571 = .ok (.iaload, 1) := by decide +kernel
theorem dL_law_572 : decode cL_law 572 = .ok (.aload_n 0, 1) := by decide +kernel
theorem dL_law_573 : decode cL_law 573 = .ok (.iload_n 3, 1) := by decide +kernel
theorem dL_law_574 : decode cL_law 574 = .ok (.iconst 2, 1) := by decide +kernel
theorem dL_law_575 : decode cL_law 575 = .ok (.iadd, 1) := by decide +kernel
theorem dL_law_576 : decode cL_law 576 = .ok (.iaload, 1) := by decide +kernel
theorem dL_law_577 : decode cL_law 577 = .ok (.invokevirtual 68, 3) := by decide +kernel
theorem dL_law_580 : decode cL_law 580 = .ok (.if_icmp .eq 378, 3) := by decide +kernel
theorem dL_law_583 : decode cL_law 583 = .ok (.iconst 0, 1) := by decide +kernel
theorem dL_law_584 : decode cL_law 584 = .ok (.ireturn, 1) := by decide +kernel
theorem dL_law_585 : decode cL_law 585 = .ok (.aload_n 1, 1) := by decide +kernel
theorem dL_law_586 : decode cL_law 586 = .ok (.aload_n 0, 1) := by decide +kernel
theorem dL_law_587 : decode cL_law 587 = .ok (.iload_n 3, 1) := by decide +kernel
theorem dL_law_588 : decode cL_law 588 = .ok (.iconst 1, 1) := by decide +kernel
theorem dL_law_589 : decode cL_law 589 = .ok (.iadd, 1) := by decide +kernel
theorem dL_law_590 : decode cL_law 590 = .ok (.iaload, 1) := by decide +kernel
theorem dL_law_591 : decode cL_law 591 = .ok (.aload_n 0, 1) := by decide +kernel
theorem dL_law_592 : decode cL_law 592 = .ok (.iload_n 3, 1) := by decide +kernel
theorem dL_law_593 : decode cL_law 593 = .ok (.iconst 2, 1) := by decide +kernel
theorem dL_law_594 : decode cL_law 594 = .ok (.iadd, 1) := by decide +kernel
theorem dL_law_595 : decode cL_law 595 = .ok (.iaload, 1) := by decide +kernel
theorem dL_law_596 : decode cL_law 596 = .ok (.aload_n 0, 1) := by decide +kernel
theorem dL_law_597 : decode cL_law 597 = .ok (.iload_n 3, 1) := by decide +kernel
theorem dL_law_598 : decode cL_law 598 = .ok (.iconst 3, 1) := by decide +kernel
theorem dL_law_599 : decode cL_law 599 = .ok (.iadd, 1) := by decide +kernel
theorem dL_law_600 : decode cL_law 600 = .ok (.iaload, 1) := by decide +kernel
theorem dL_law_601 : decode cL_law 601 = .ok (.invokevirtual 69, 3) := by decide +kernel
theorem dL_law_604 : decode cL_law 604 = .ok (.aload_n 2, 1) := by decide +kernel
theorem dL_law_605 : decode cL_law 605 = .ok (.aload_n 0, 1) := by decide +kernel
theorem dL_law_606 : decode cL_law 606 = .ok (.iload_n 3, 1) := by decide +kernel
theorem dL_law_607 : decode cL_law 607 = .ok (.iconst 1, 1) := by decide +kernel
theorem dL_law_608 : decode cL_law 608 = .ok (.iadd, 1) := by decide +kernel
theorem dL_law_609 : decode cL_law 609 = .ok (.iaload, 1) := by decide +kernel
theorem dL_law_610 : decode cL_law 610 = .ok (.aload_n 0, 1) := by decide +kernel
theorem dL_law_611 : decode cL_law 611 = .ok (.iload_n 3, 1) := by decide +kernel
theorem dL_law_612 : decode cL_law 612 = .ok (.iconst 2, 1) := by decide +kernel
theorem dL_law_613 : decode cL_law 613 = .ok (.iadd, 1) := by decide +kernel
theorem dL_law_614 : decode cL_law 614 = .ok (.iaload, 1) := by decide +kernel
theorem dL_law_615 : decode cL_law 615 = .ok (.aload_n 0, 1) := by decide +kernel
theorem dL_law_616 : decode cL_law 616 = .ok (.iload_n 3, 1) := by decide +kernel
theorem dL_law_617 : decode cL_law 617 = .ok (.iconst 3, 1) := by decide +kernel
theorem dL_law_618 : decode cL_law 618 = .ok (.iadd, 1) := by decide +kernel
theorem dL_law_619 : decode cL_law 619 = .ok (.iaload, 1) := by decide +kernel
theorem dL_law_620 : decode cL_law 620 = .ok (.invokevirtual 72, 3) := by decide +kernel
theorem dL_law_623 : decode cL_law 623 = .ok (.if_icmp .eq 335, 3) := by decide +kernel
theorem dL_law_626 : decode cL_law 626 = .ok (.iconst 0, 1) := by decide +kernel
theorem dL_law_627 : decode cL_law 627 = .ok (.ireturn, 1) := by decide +kernel
theorem dL_law_628 : decode cL_law 628 = .ok (.aload_n 1, 1) := by decide +kernel
theorem dL_law_629 : decode cL_law 629 = .ok (.aload_n 0, 1) := by decide +kernel
theorem dL_law_630 : decode cL_law 630 = .ok (.iload_n 3, 1) := by decide +kernel
theorem dL_law_631 : decode cL_law 631 = .ok (.iconst 1, 1) := by decide +kernel
theorem dL_law_632 : decode cL_law 632 = .ok (.iadd, 1) := by decide +kernel
theorem dL_law_633 : decode cL_law 633 = .ok (.iaload, 1) := by decide +kernel
theorem dL_law_634 : decode cL_law 634 = .ok (.aload_n 0, 1) := by decide +kernel
theorem dL_law_635 : decode cL_law 635 = .ok (.iload_n 3, 1) := by decide +kernel
theorem dL_law_636 : decode cL_law 636 = .ok (.iconst 2, 1) := by decide +kernel
theorem dL_law_637 : decode cL_law 637 = .ok (.iadd, 1) := by decide +kernel
theorem dL_law_638 : decode cL_law 638 = .ok (.iaload, 1) := by decide +kernel
theorem dL_law_639 : decode cL_law 639 = .ok (.aload_n 0, 1) := by decide +kernel
theorem dL_law_640 : decode cL_law 640 = .ok (.iload_n 3, 1) := by decide +kernel
theorem dL_law_641 : decode cL_law 641 = .ok (.iconst 3, 1) := by decide +kernel
theorem dL_law_642 : decode cL_law 642 = .ok (.iadd, 1) := by decide +kernel
theorem dL_law_643 : decode cL_law 643 = .ok (.iaload, 1) := by decide +kernel
theorem dL_law_644 : decode cL_law 644 = .ok (.invokevirtual 73, 3) := by decide +kernel
theorem dL_law_647 : decode cL_law 647 = .ok (.aload_n 2, 1) := by decide +kernel
theorem dL_law_648 : decode cL_law 648 = .ok (.aload_n 0, 1) := by decide +kernel
theorem dL_law_649 : decode cL_law 649 = .ok (.iload_n 3, 1) := by decide +kernel
theorem dL_law_650 : decode cL_law 650 = .ok (.iconst 1, 1) := by decide +kernel
theorem dL_law_651 : decode cL_law 651 = .ok (.iadd, 1) := by decide +kernel
theorem dL_law_652 : decode cL_law 652 = .ok (.iaload, 1) := by decide +kernel
theorem dL_law_653 : decode cL_law 653 = .ok (.aload_n 0, 1) := by decide +kernel
theorem dL_law_654 : decode cL_law 654 = .ok (.iload_n 3, 1) := by decide +kernel
theorem dL_law_655 : decode cL_law 655 = .ok (.iconst 2, 1) := by decide +kernel
theorem dL_law_656 : decode cL_law 656 = .ok (.iadd, 1) := by decide +kernel
theorem dL_law_657 : decode cL_law 657 = .ok (.iaload, 1) := by decide +kernel
theorem dL_law_658 : decode cL_law 658 = .ok (.aload_n 0, 1) := by decide +kernel
theorem dL_law_659 : decode cL_law 659 = .ok (.iload_n 3, 1) := by decide +kernel
theorem dL_law_660 : decode cL_law 660 = .ok (.iconst 3, 1) := by decide +kernel
theorem dL_law_661 : decode cL_law 661 = .ok (.iadd, 1) := by decide +kernel
theorem dL_law_662 : decode cL_law 662 = .ok (.iaload, 1) := by decide +kernel
theorem dL_law_663 : decode cL_law 663 = .ok (.invokevirtual 76, 3) := by decide +kernel
theorem dL_law_666 : decode cL_law 666 = .ok (.if_icmp .eq 292, 3) := by decide +kernel
theorem dL_law_669 : decode cL_law 669 = .ok (.iconst 0, 1) := by decide +kernel
theorem dL_law_670 : decode cL_law 670 = .ok (.ireturn, 1) := by decide +kernel
theorem dL_law_671 : decode cL_law 671 = .ok (.aload_n 1, 1) := by decide +kernel
theorem dL_law_672 : decode cL_law 672 = .ok (.aload_n 0, 1) := by decide +kernel
theorem dL_law_673 : decode cL_law 673 = .ok (.iload_n 3, 1) := by decide +kernel
theorem dL_law_674 : decode cL_law 674 = .ok (.iconst 1, 1) := by decide +kernel
theorem dL_law_675 : decode cL_law 675 = .ok (.iadd, 1) := by decide +kernel
theorem dL_law_676 : decode cL_law 676 = .ok (.iaload, 1) := by decide +kernel
theorem dL_law_677 : decode cL_law 677 = .ok (.aload_n 0, 1) := by decide +kernel
theorem dL_law_678 : decode cL_law 678 = .ok (.iload_n 3, 1) := by decide +kernel
theorem dL_law_679 : decode cL_law 679 = .ok (.iconst 2, 1) := by decide +kernel
theorem dL_law_680 : decode cL_law 680 = .ok (.iadd, 1) := by decide +kernel
theorem dL_law_681 : decode cL_law 681 = .ok (.iaload, 1) := by decide +kernel
theorem dL_law_682 : decode cL_law 682 = .ok (.aload_n 0, 1) := by decide +kernel
theorem dL_law_683 : decode cL_law 683 = .ok (.iload_n 3, 1) := by decide +kernel
theorem dL_law_684 : decode cL_law 684 = .ok (.iconst 3, 1) := by decide +kernel
theorem dL_law_685 : decode cL_law 685 = .ok (.iadd, 1) := by decide +kernel
theorem dL_law_686 : decode cL_law 686 = .ok (.iaload, 1) := by decide +kernel
theorem dL_law_687 : decode cL_law 687 = .ok (.invokevirtual 77, 3) := by decide +kernel
theorem dL_law_690 : decode cL_law 690 = .ok (.aload_n 2, 1) := by decide +kernel
theorem dL_law_691 : decode cL_law 691 = .ok (.aload_n 0, 1) := by decide +kernel
theorem dL_law_692 : decode cL_law 692 = .ok (.iload_n 3, 1) := by decide +kernel
theorem dL_law_693 : decode cL_law 693 = .ok (.iconst 1, 1) := by decide +kernel
theorem dL_law_694 : decode cL_law 694 = .ok (.iadd, 1) := by decide +kernel
theorem dL_law_695 : decode cL_law 695 = .ok (.iaload, 1) := by decide +kernel
theorem dL_law_696 : decode cL_law 696 = .ok (.aload_n 0, 1) := by decide +kernel
theorem dL_law_697 : decode cL_law 697 = .ok (.iload_n 3, 1) := by decide +kernel
theorem dL_law_698 : decode cL_law 698 = .ok (.iconst 2, 1) := by decide +kernel
theorem dL_law_699 : decode cL_law 699 = .ok (.iadd, 1) := by decide +kernel
theorem dL_law_700 : decode cL_law 700 = .ok (.iaload, 1) := by decide +kernel
theorem dL_law_701 : decode cL_law 701 = .ok (.aload_n 0, 1) := by decide +kernel
theorem dL_law_702 : decode cL_law 702 = .ok (.iload_n 3, 1) := by decide +kernel
theorem dL_law_703 : decode cL_law 703 = .ok (.iconst 3, 1) := by decide +kernel
theorem dL_law_704 : decode cL_law 704 = .ok (.iadd, 1) := by decide +kernel
theorem dL_law_705 : decode cL_law 705 = .ok (.iaload, 1) := by decide +kernel
theorem dL_law_706 : decode cL_law 706 = .ok (.invokevirtual 80, 3) := by decide +kernel
theorem dL_law_709 : decode cL_law 709 = .ok (.if_icmp .eq 249, 3) := by decide +kernel
theorem dL_law_712 : decode cL_law 712 = .ok (.iconst 0, 1) := by decide +kernel
theorem dL_law_713 : decode cL_law 713 = .ok (.ireturn, 1) := by decide +kernel
theorem dL_law_714 : decode cL_law 714 = .ok (.aload_n 1, 1) := by decide +kernel
theorem dL_law_715 : decode cL_law 715 = .ok (.aload_n 0, 1) := by decide +kernel
theorem dL_law_716 : decode cL_law 716 = .ok (.iload_n 3, 1) := by decide +kernel
theorem dL_law_717 : decode cL_law 717 = .ok (.iconst 1, 1) := by decide +kernel
theorem dL_law_718 : decode cL_law 718 = .ok (.iadd, 1) := by decide +kernel
theorem dL_law_719 : decode cL_law 719 = .ok (.iaload, 1) := by decide +kernel
theorem dL_law_720 : decode cL_law 720 = .ok (.aload_n 0, 1) := by decide +kernel
theorem dL_law_721 : decode cL_law 721 = .ok (.iload_n 3, 1) := by decide +kernel
theorem dL_law_722 : decode cL_law 722 = .ok (.iconst 2, 1) := by decide +kernel
theorem dL_law_723 : decode cL_law 723 = .ok (.iadd, 1) := by decide +kernel
theorem dL_law_724 : decode cL_law 724 = .ok (.iaload, 1) := by decide +kernel
theorem dL_law_725 : decode cL_law 725 = .ok (.aload_n 0, 1) := by decide +kernel
theorem dL_law_726 : decode cL_law 726 = .ok (.iload_n 3, 1) := by decide +kernel
theorem dL_law_727 : decode cL_law 727 = .ok (.iconst 3, 1) := by decide +kernel
theorem dL_law_728 : decode cL_law 728 = .ok (.iadd, 1) := by decide +kernel
theorem dL_law_729 : decode cL_law 729 = .ok (.iaload, 1) := by decide +kernel
theorem dL_law_730 : decode cL_law 730 = .ok (.invokevirtual 81, 3) := by decide +kernel
theorem dL_law_733 : decode cL_law 733 = .ok (.aload_n 2, 1) := by decide +kernel
theorem dL_law_734 : decode cL_law 734 = .ok (.aload_n 0, 1) := by decide +kernel
theorem dL_law_735 : decode cL_law 735 = .ok (.iload_n 3, 1) := by decide +kernel
theorem dL_law_736 : decode cL_law 736 = .ok (.iconst 1, 1) := by decide +kernel
theorem dL_law_737 : decode cL_law 737 = .ok (.iadd, 1) := by decide +kernel
theorem dL_law_738 : decode cL_law 738 = .ok (.iaload, 1) := by decide +kernel
theorem dL_law_739 : decode cL_law 739 = .ok (.aload_n 0, 1) := by decide +kernel
theorem dL_law_740 : decode cL_law 740 = .ok (.iload_n 3, 1) := by decide +kernel
theorem dL_law_741 : decode cL_law 741 = .ok (.iconst 2, 1) := by decide +kernel
theorem dL_law_742 : decode cL_law 742 = .ok (.iadd, 1) := by decide +kernel
theorem dL_law_743 : decode cL_law 743 = .ok (.iaload, 1) := by decide +kernel
theorem dL_law_744 : decode cL_law 744 = .ok (.aload_n 0, 1) := by decide +kernel
theorem dL_law_745 : decode cL_law 745 = .ok (.iload_n 3, 1) := by decide +kernel
theorem dL_law_746 : decode cL_law 746 = .ok (.iconst 3, 1) := by decide +kernel
theorem dL_law_747 : decode cL_law 747 = .ok (.iadd, 1) := by decide +kernel
theorem dL_law_748 : decode cL_law 748 = .ok (.iaload, 1) := by decide +kernel
theorem dL_law_749 : decode cL_law 749 = .ok (.invokevirtual 84, 3) := by decide +kernel
theorem dL_law_752 : decode cL_law 752 = .ok (.if_icmp .eq 206, 3) := by decide +kernel
theorem dL_law_755 : decode cL_law 755 = .ok (.iconst 0, 1) := by decide +kernel
theorem dL_law_756 : decode cL_law 756 = .ok (.ireturn, 1) := by decide +kernel
theorem dL_law_757 : decode cL_law 757 = .ok (.aload_n 1, 1) := by decide +kernel
theorem dL_law_758 : decode cL_law 758 = .ok (.aload_n 0, 1) := by decide +kernel
theorem dL_law_759 : decode cL_law 759 = .ok (.iload_n 3, 1) := by decide +kernel
theorem dL_law_760 : decode cL_law 760 = .ok (.iconst 1, 1) := by decide +kernel
theorem dL_law_761 : decode cL_law 761 = .ok (.iadd, 1) := by decide +kernel
theorem dL_law_762 : decode cL_law 762 = .ok (.iaload, 1) := by decide +kernel
theorem dL_law_763 : decode cL_law 763 = .ok (.invokevirtual 85, 3) := by decide +kernel
theorem dL_law_766 : decode cL_law 766 = .ok (.aload_n 2, 1) := by decide +kernel
theorem dL_law_767 : decode cL_law 767 = .ok (.aload_n 0, 1) := by decide +kernel
theorem dL_law_768 : decode cL_law 768 = .ok (.iload_n 3, 1) := by decide +kernel
theorem dL_law_769 : decode cL_law 769 = .ok (.iconst 1, 1) := by decide +kernel
theorem dL_law_770 : decode cL_law 770 = .ok (.iadd, 1) := by decide +kernel
theorem dL_law_771 : decode cL_law 771 = .ok (.iaload, 1) := by decide +kernel
theorem dL_law_772 : decode cL_law 772 = .ok (.invokevirtual 88, 3) := by decide +kernel
theorem dL_law_775 : decode cL_law 775 = .ok (.if_icmp .eq 183, 3) := by decide +kernel
theorem dL_law_778 : decode cL_law 778 = .ok (.iconst 0, 1) := by decide +kernel
theorem dL_law_779 : decode cL_law 779 = .ok (.ireturn, 1) := by decide +kernel
theorem dL_law_780 : decode cL_law 780 = .ok (.aload_n 1, 1) := by decide +kernel
theorem dL_law_781 : decode cL_law 781 = .ok (.aload_n 0, 1) := by decide +kernel
theorem dL_law_782 : decode cL_law 782 = .ok (.iload_n 3, 1) := by decide +kernel
theorem dL_law_783 : decode cL_law 783 = .ok (.iconst 1, 1) := by decide +kernel
theorem dL_law_784 : decode cL_law 784 = .ok (.iadd, 1) := by decide +kernel
theorem dL_law_785 : decode cL_law 785 = .ok (.iaload, 1) := by decide +kernel
theorem dL_law_786 : decode cL_law 786 = .ok (.invokevirtual 89, 3) := by decide +kernel
theorem dL_law_789 : decode cL_law 789 = .ok (.aload_n 2, 1) := by decide +kernel
theorem dL_law_790 : decode cL_law 790 = .ok (.aload_n 0, 1) := by decide +kernel
theorem dL_law_791 : decode cL_law 791 = .ok (.iload_n 3, 1) := by decide +kernel
theorem dL_law_792 : decode cL_law 792 = .ok (.iconst 1, 1) := by decide +kernel
theorem dL_law_793 : decode cL_law 793 = .ok (.iadd, 1) := by decide +kernel
theorem dL_law_794 : decode cL_law 794 = .ok (.iaload, 1) := by decide +kernel
theorem dL_law_795 : decode cL_law 795 = .ok (.invokevirtual 92, 3) := by decide +kernel
theorem dL_law_798 : decode cL_law 798 = .ok (.if_icmp .eq 160, 3) := by decide +kernel
theorem dL_law_801 : decode cL_law 801 = .ok (.iconst 0, 1) := by decide +kernel
theorem dL_law_802 : decode cL_law 802 = .ok (.ireturn, 1) := by decide +kernel
theorem dL_law_803 : decode cL_law 803 = .ok (.aload_n 1, 1) := by decide +kernel
theorem dL_law_804 : decode cL_law 804 = .ok (.aload_n 0, 1) := by decide +kernel
theorem dL_law_805 : decode cL_law 805 = .ok (.iload_n 3, 1) := by decide +kernel
theorem dL_law_806 : decode cL_law 806 = .ok (.iconst 1, 1) := by decide +kernel
theorem dL_law_807 : decode cL_law 807 = .ok (.iadd, 1) := by decide +kernel
theorem dL_law_808 : decode cL_law 808 = .ok (.iaload, 1) := by decide +kernel
theorem dL_law_809 : decode cL_law 809 = .ok (.aload_n 0, 1) := by decide +kernel
theorem dL_law_810 : decode cL_law 810 = .ok (.iload_n 3, 1) := by decide +kernel
theorem dL_law_811 : decode cL_law 811 = .ok (.iconst 2, 1) := by decide +kernel
theorem dL_law_812 : decode cL_law 812 = .ok (.iadd, 1) := by decide +kernel
theorem dL_law_813 : decode cL_law 813 = .ok (.iaload, 1) := by decide +kernel
theorem dL_law_814 : decode cL_law 814 = .ok (.invokevirtual 93, 3) := by decide +kernel
theorem dL_law_817 : decode cL_law 817 = .ok (.aload_n 2, 1) := by decide +kernel
theorem dL_law_818 : decode cL_law 818 = .ok (.aload_n 0, 1) := by decide +kernel
theorem dL_law_819 : decode cL_law 819 = .ok (.iload_n 3, 1) := by decide +kernel
theorem dL_law_820 : decode cL_law 820 = .ok (.iconst 1, 1) := by decide +kernel
theorem dL_law_821 : decode cL_law 821 = .ok (.iadd, 1) := by decide +kernel
theorem dL_law_822 : decode cL_law 822 = .ok (.iaload, 1) := by decide +kernel
theorem dL_law_823 : decode cL_law 823 = .ok (.aload_n 0, 1) := by decide +kernel
theorem dL_law_824 : decode cL_law 824 = .ok (.iload_n 3, 1) := by decide +kernel
theorem dL_law_825 : decode cL_law 825 = .ok (.iconst 2, 1) := by decide +kernel
theorem dL_law_826 : decode cL_law 826 = .ok (.iadd, 1) := by decide +kernel
theorem dL_law_827 : decode cL_law 827 = .ok (.iaload, 1) := by decide +kernel
theorem dL_law_828 : decode cL_law 828 = .ok (.invokevirtual 96, 3) := by decide +kernel
theorem dL_law_831 : decode cL_law 831 = .ok (.if_icmp .eq 127, 3) := by decide +kernel
theorem dL_law_834 : decode cL_law 834 = .ok (.iconst 0, 1) := by decide +kernel
theorem dL_law_835 : decode cL_law 835 = .ok (.ireturn, 1) := by decide +kernel
theorem dL_law_836 : decode cL_law 836 = .ok (.aload_n 1, 1) := by decide +kernel
theorem dL_law_837 : decode cL_law 837 = .ok (.aload_n 0, 1) := by decide +kernel
theorem dL_law_838 : decode cL_law 838 = .ok (.iload_n 3, 1) := by decide +kernel
theorem dL_law_839 : decode cL_law 839 = .ok (.iconst 1, 1) := by decide +kernel
theorem dL_law_840 : decode cL_law 840 = .ok (.iadd, 1) := by decide +kernel
theorem dL_law_841 : decode cL_law 841 = .ok (.iaload, 1) := by decide +kernel
theorem dL_law_842 : decode cL_law 842 = .ok (.invokevirtual 97, 3) := by decide +kernel
theorem dL_law_845 : decode cL_law 845 = .ok (.aload_n 2, 1) := by decide +kernel
theorem dL_law_846 : decode cL_law 846 = .ok (.aload_n 0, 1) := by decide +kernel
theorem dL_law_847 : decode cL_law 847 = .ok (.iload_n 3, 1) := by decide +kernel
theorem dL_law_848 : decode cL_law 848 = .ok (.iconst 1, 1) := by decide +kernel
theorem dL_law_849 : decode cL_law 849 = .ok (.iadd, 1) := by decide +kernel
theorem dL_law_850 : decode cL_law 850 = .ok (.iaload, 1) := by decide +kernel
theorem dL_law_851 : decode cL_law 851 = .ok (.invokevirtual 100, 3) := by decide +kernel
theorem dL_law_854 : decode cL_law 854 = .ok (.if_icmp .eq 104, 3) := by decide +kernel
theorem dL_law_857 : decode cL_law 857 = .ok (.iconst 0, 1) := by decide +kernel
theorem dL_law_858 : decode cL_law 858 = .ok (.ireturn, 1) := by decide +kernel
theorem dL_law_859 : decode cL_law 859 = .ok (.aload_n 1, 1) := by decide +kernel
theorem dL_law_860 : decode cL_law 860 = .ok (.aload_n 0, 1) := by decide +kernel
theorem dL_law_861 : decode cL_law 861 = .ok (.iload_n 3, 1) := by decide +kernel
theorem dL_law_862 : decode cL_law 862 = .ok (.iconst 1, 1) := by decide +kernel
theorem dL_law_863 : decode cL_law 863 = .ok (.iadd, 1) := by decide +kernel
theorem dL_law_864 : decode cL_law 864 = .ok (.iaload, 1) := by decide +kernel
theorem dL_law_865 : decode cL_law 865 = .ok (.invokevirtual 101, 3) := by decide +kernel
theorem dL_law_868 : decode cL_law 868 = .ok (.aload_n 2, 1) := by decide +kernel
theorem dL_law_869 : decode cL_law 869 = .ok (.aload_n 0, 1) := by decide +kernel
theorem dL_law_870 : decode cL_law 870 = .ok (.iload_n 3, 1) := by decide +kernel
theorem dL_law_871 : decode cL_law 871 = .ok (.iconst 1, 1) := by decide +kernel
theorem dL_law_872 : decode cL_law 872 = .ok (.iadd, 1) := by decide +kernel
theorem dL_law_873 : decode cL_law 873 = .ok (.iaload, 1) := by decide +kernel
theorem dL_law_874 : decode cL_law 874 = .ok (.invokevirtual 104, 3) := by decide +kernel
theorem dL_law_877 : decode cL_law 877 = .ok (.if_icmp .eq 81, 3) := by decide +kernel
theorem dL_law_880 : decode cL_law 880 = .ok (.iconst 0, 1) := by decide +kernel
theorem dL_law_881 : decode cL_law 881 = .ok (.ireturn, 1) := by decide +kernel
theorem dL_law_882 : decode cL_law 882 = .ok (.aload_n 1, 1) := by decide +kernel
theorem dL_law_883 : decode cL_law 883 = .ok (.invokevirtual 105, 3) := by decide +kernel
theorem dL_law_886 : decode cL_law 886 = .ok (.aload_n 2, 1) := by decide +kernel
theorem dL_law_887 : decode cL_law 887 = .ok (.invokevirtual 109, 3) := by decide +kernel
theorem dL_law_890 : decode cL_law 890 = .ok (.if_icmp .eq 68, 3) := by decide +kernel
theorem dL_law_893 : decode cL_law 893 = .ok (.iconst 0, 1) := by decide +kernel
theorem dL_law_894 : decode cL_law 894 = .ok (.ireturn, 1) := by decide +kernel
theorem dL_law_895 : decode cL_law 895 = .ok (.aload_n 1, 1) := by decide +kernel
theorem dL_law_896 : decode cL_law 896 = .ok (.invokevirtual 110, 3) := by decide +kernel
theorem dL_law_899 : decode cL_law 899 = .ok (.aload_n 2, 1) := by decide +kernel
theorem dL_law_900 : decode cL_law 900 = .ok (.invokevirtual 113, 3) := by decide +kernel
theorem dL_law_903 : decode cL_law 903 = .ok (.if_icmp .eq 55, 3) := by decide +kernel
theorem dL_law_906 : decode cL_law 906 = .ok (.iconst 0, 1) := by decide +kernel
theorem dL_law_907 : decode cL_law 907 = .ok (.ireturn, 1) := by decide +kernel
theorem dL_law_908 : decode cL_law 908 = .ok (.aload_n 1, 1) := by decide +kernel
theorem dL_law_909 : decode cL_law 909 = .ok (.invokevirtual 114, 3) := by decide +kernel
theorem dL_law_912 : decode cL_law 912 = .ok (.aload_n 2, 1) := by decide +kernel
theorem dL_law_913 : decode cL_law 913 = .ok (.invokevirtual 117, 3) := by decide +kernel
theorem dL_law_916 : decode cL_law 916 = .ok (.if_icmp .eq 42, 3) := by decide +kernel
theorem dL_law_919 : decode cL_law 919 = .ok (.iconst 0, 1) := by decide +kernel
theorem dL_law_920 : decode cL_law 920 = .ok (.ireturn, 1) := by decide +kernel
theorem dL_law_921 : decode cL_law 921 = .ok (.aload_n 1, 1) := by decide +kernel
theorem dL_law_922 : decode cL_law 922 = .ok (.aload_n 0, 1) := by decide +kernel
theorem dL_law_923 : decode cL_law 923 = .ok (.iload_n 3, 1) := by decide +kernel
theorem dL_law_924 : decode cL_law 924 = .ok (.iconst 1, 1) := by decide +kernel
theorem dL_law_925 : decode cL_law 925 = .ok (.iadd, 1) := by decide +kernel
theorem dL_law_926 : decode cL_law 926 = .ok (.iaload, 1) := by decide +kernel
theorem dL_law_927 : decode cL_law 927 = .ok (.invokevirtual 118, 3) := by decide +kernel
theorem dL_law_930 : decode cL_law 930 = .ok (.aload_n 2, 1) := by decide +kernel
theorem dL_law_931 : decode cL_law 931 = .ok (.aload_n 0, 1) := by decide +kernel
theorem dL_law_932 : decode cL_law 932 = .ok (.iload_n 3, 1) := by decide +kernel
theorem dL_law_933 : decode cL_law 933 = .ok (.iconst 1, 1) := by decide +kernel
theorem dL_law_934 : decode cL_law 934 = .ok (.iadd, 1) := by decide +kernel
theorem dL_law_935 : decode cL_law 935 = .ok (.iaload, 1) := by decide +kernel
theorem dL_law_936 : decode cL_law 936 = .ok (.invokevirtual 121, 3) := by decide +kernel
theorem dL_law_939 : decode cL_law 939 = .ok (.if_icmp .eq 19, 3) := by decide +kernel
theorem dL_law_942 : decode cL_law 942 = .ok (.iconst 0, 1) := by decide +kernel
theorem dL_law_943 : decode cL_law 943 = .ok (.ireturn, 1) := by decide +kernel
theorem dL_law_944 : decode cL_law 944 = .ok (.aload_n 1, 1) := by decide +kernel
theorem dL_law_945 : decode cL_law 945 = .ok (.invokevirtual 122, 3) := by decide +kernel
theorem dL_law_948 : decode cL_law 948 = .ok (.aload_n 2, 1) := by decide +kernel
theorem dL_law_949 : decode cL_law 949 = .ok (.invokevirtual 126, 3) := by decide +kernel
theorem dL_law_952 : decode cL_law 952 = .ok (.lcmp, 1) := by decide +kernel
theorem dL_law_953 : decode cL_law 953 = .ok (.ifCond .eq 5, 3) := by decide +kernel
theorem dL_law_956 : decode cL_law 956 = .ok (.iconst 0, 1) := by decide +kernel
theorem dL_law_957 : decode cL_law 957 = .ok (.ireturn, 1) := by decide +kernel
theorem dL_law_958 : decode cL_law 958 = .ok (.iinc 3 6, 3) := by decide +kernel
theorem dL_law_961 : decode cL_law 961 = .ok (.goto (-943), 3) := by decide +kernel
theorem dL_law_964 : decode cL_law 964 = .ok (.iconst 1, 1) := by decide +kernel
theorem dL_law_965 : decode cL_law 965 = .ok (.ireturn, 1) := by decide +kernel
end
section
-- THE WORLD: all cells of the class's object and of the reference's object, numbered in the order in which the law makes them (cell q lies at address b + q)
/-- what can change: an Int32 at each place of each cell; the one long (the reference's hash) -/
abbrev cd_Hp : Type := (Nat → Nat → Int32) × Int64
def cd_g (h : cd_Hp) (q k : Nat) : Int32 := h.1 q k
def cd_u (h : cd_Hp) (q k : Nat) (v : Int32) : cd_Hp := (fun a c => if a = q ∧ c = k then v else h.1 a c, h.2)
def cd_ul (h : cd_Hp) (v : Int64) : cd_Hp := (h.1, v)
/-- System.arraycopy of ints, from cell q place x to cell r place y, n of them -/
def cd_cp (h : cd_Hp) (q x r y n : Nat) : cd_Hp := (fun a c => if a = r ∧ y ≤ c ∧ c < y + n then h.1 q (x + (c - y)) else h.1 a c, h.2)
/-- class numbers and slots, the classes of int[], Group[], State[], the first address -/
abbrev cd_G : Type := va_G × ClassId × ClassId × ClassId × Nat
/-- the cells of a State: kind (0 .. 8: class X0 .. X8; 9: Group[]; 10: State[]; 11: int[]) and length -/
def cd_bk : List (Nat × Nat) := [(4, 0), (11, 8), (5, 0), (11, 6), (11, 6), (11, 48), (9, 0), (11, 6), (2, 0), (11, 64), (11, 64), (11, 12), (11, 12), (11, 12), (0, 0), (11, 4), (11, 4), (11, 4), (11, 24), (11, 6), (11, 6), (0, 0), (11, 4), (11, 4), (11, 4), (11, 24), (11, 6), (11, 6), (0, 0), (11, 4), (11, 4), (11, 4), (11, 24), (11, 6), (11, 6), (0, 0), (11, 4), (11, 4), (11, 4), (11, 24), (11, 6), (11, 6), (0, 0), (11, 4), (11, 4), (11, 4), (11, 24), (11, 6), (11, 6), (0, 0), (11, 4), (11, 4), (11, 4), (11, 24), (11, 6), (11, 6)]
def cd_tb : List (Nat × Nat) := [(7, 0), (3, 0), (11, 4), (11, 4)] ++ cd_bk ++ [(1, 0), (10, 0)] ++ cd_bk ++ cd_bk ++ cd_bk ++ cd_bk ++ cd_bk ++ cd_bk ++ [(6, 0), (11, 120), (11, 40), (11, 40), (11, 320), (11, 3), (8, 0), (11, 659), (11, 659), (11, 3295), (11, 3), (11, 120), (11, 4), (11, 4), (11, 4), (11, 60), (11, 61), (11, 128)]
theorem cd_tb_len : cd_tb.length = 416 := by decide +kernel
def cd_is (k q : Nat) : Prop := cd_tb[q]? = some (k, 0)
def cd_ar (n q : Nat) : Prop := cd_tb[q]? = some (11, n)
def cd_ln (q : Nat) : Nat := (cd_tb.getD q (0, 0)).2
theorem cd_is.lt {k q : Nat} (h : cd_is k q) : q < 416 := by rw [← cd_tb_len]; exact (List.getElem?_eq_some_iff.mp h).1
theorem cd_ar.lt {n q : Nat} (h : cd_ar n q) : q < 416 := by rw [← cd_tb_len]; exact (List.getElem?_eq_some_iff.mp h).1
theorem cd_ar.ln {n q : Nat} (h : cd_ar n q) : cd_ln q = n := by unfold cd_ar at h; unfold cd_ln; rw [List.getD_eq_getElem?_getD, h]; rfl
theorem cd_ar.self {n q : Nat} (h : cd_ar n q) : cd_ar (cd_ln q) q := by rw [h.ln]; exact h
def cd_fs0 (b : Nat) (h : cd_Hp) (q : Nat) : List Value := [.int (cd_g h q 0), .int (cd_g h q 1), .int (cd_g h q 2), .int (cd_g h q 3), .int (cd_g h q 4), .int (cd_g h q 5), .int (cd_g h q 6), .int (cd_g h q 7), .int (cd_g h q 8), .int (cd_g h q 9), .ref (b + (q + 1)), .ref (b + (q + 2)), .ref (b + (q + 3)), .ref (b + (q + 4)), .ref (b + (q + 5)), .ref (b + (q + 6))]
def cd_fs1 (b : Nat) (h : cd_Hp) (q : Nat) : List Value := [.int (cd_g h q 0), .int (cd_g h q 1), .ref (b + (q + 1))]
def cd_fs2 (b : Nat) (h : cd_Hp) (q : Nat) : List Value := [.int (cd_g h q 0), .int (cd_g h q 1), .int (cd_g h q 2), .ref (b + (q + 1)), .ref (b + (q + 2)), .ref (b + (q + 3)), .ref (b + (q + 4)), .ref (b + (q + 5))]
def cd_fs3 (b : Nat) (h : cd_Hp) (q : Nat) : List Value := [.int (cd_g h q 0), .int (cd_g h q 1), .ref (b + (q + 1)), .ref (b + (q + 2))]
def cd_fs4 (b : Nat) (h : cd_Hp) (q : Nat) : List Value := [.int (cd_g h q 0), .int (cd_g h q 1), .int (cd_g h q 2), .int (cd_g h q 3), .int (cd_g h q 4), .ref (b + (q + 1)), .ref (b + (q + 2)), .ref (b + (q + 6)), .ref (b + (q + 7)), .ref (b + (q + 8)), .ref (b + (1))]
def cd_fs5 (b : Nat) (h : cd_Hp) (q : Nat) : List Value := [.int (cd_g h q 0), .ref (b + (q + 1)), .ref (b + (q + 2)), .ref (b + (q + 3))]
def cd_fs6 (b : Nat) (h : cd_Hp) (q : Nat) : List Value := [.int (cd_g h q 0), .int (cd_g h q 1), .ref (b + (q + 1)), .ref (b + (q + 2)), .ref (b + (q + 3)), .ref (b + (q + 4)), .int (cd_g h q 6), .int (cd_g h q 7)]
def cd_fs7 (b : Nat) (h : cd_Hp) (q : Nat) : List Value := [.ref (b + (4)), .ref (b + (60)), .ref (b + (398)), .ref (b + (403))]
def cd_fs8 (b : Nat) (h : cd_Hp) (q : Nat) : List Value := [.ref (b + (405)), .ref (b + (406)), .ref (b + (407)), .int (cd_g h q 3), .ref (b + (408)), .ref (b + (409)), .int (cd_g h q 6), .ref (b + (410)), .ref (b + (411)), .int (cd_g h q 9), .ref (b + (412)), .ref (b + (413)), .ref (b + (414)), .ref (b + (415)), .int (cd_g h q 14), .int (cd_g h q 15), .int (cd_g h q 16), .long h.2]
def cd_en (G : cd_G) (h : cd_Hp) (q : Nat) (kn : Nat × Nat) : va_E := match kn.1 with
  | 0 => .inr (0, cd_fs0 G.2.2.2.2 h q)
  | 1 => .inr (1, cd_fs1 G.2.2.2.2 h q)
  | 2 => .inr (2, cd_fs2 G.2.2.2.2 h q)
  | 3 => .inr (3, cd_fs3 G.2.2.2.2 h q)
  | 4 => .inr (4, cd_fs4 G.2.2.2.2 h q)
  | 5 => .inr (5, cd_fs5 G.2.2.2.2 h q)
  | 6 => .inr (6, cd_fs6 G.2.2.2.2 h q)
  | 7 => .inr (7, cd_fs7 G.2.2.2.2 h q)
  | 8 => .inr (8, cd_fs8 G.2.2.2.2 h q)
  | 9 => .inl (G.2.2.1, 6, .inr (.inr (.inr (.inr (fun i => some (G.2.2.2.2 + (q + 8 + 7 * i)))))))
  | 10 => .inl (G.2.2.2.1, 6, .inr (.inr (.inr (.inr (fun i => some (G.2.2.2.2 + (q + 1 + 56 * i)))))))
  | _ => .inl (G.2.1, kn.2, .inl (fun i => cd_g h q i))
def cd_W (G : cd_G) (h : cd_Hp) : va_W := (List.range 416).map fun q => (G.2.2.2.2 + q, cd_en G h q (cd_tb.getD q (0, 0)))
theorem cd_W_get {G : cd_G} {h : cd_Hp} {q : Nat} {kn : Nat × Nat} (hk : cd_tb[q]? = some kn) : (cd_W G h)[q]? = some (G.2.2.2.2 + q, cd_en G h q kn) := by
  have hl : q < 416 := by rw [← cd_tb_len]; exact (List.getElem?_eq_some_iff.mp hk).1
  have e : cd_tb.getD q (0, 0) = kn := by rw [List.getD_eq_getElem?_getD, hk]; rfl
  unfold cd_W
  rw [List.getElem?_map, List.getElem?_range hl]
  simp only [Option.map_some, e]
theorem cd_W_lt {G : cd_G} {h : cd_Hp} {k : Nat} {x : Nat × va_E} (hx : (cd_W G h)[k]? = some x) : k < 416 ∧ x.1 = G.2.2.2.2 + k := by
  have hl : k < 416 := by
    have := (List.getElem?_eq_some_iff.mp hx).1
    simpa [cd_W] using this
  refine ⟨hl, ?_⟩
  unfold cd_W at hx
  rw [List.getElem?_map, List.getElem?_range hl] at hx
  simp only [Option.map_some] at hx
  cases hx
  rfl
/-- where a cell of ours can lie -/
abbrev cd_A (G : cd_G) : Nat → Prop := fun a => G.2.2.2.2 ≤ a
theorem cd_W_D (G : cd_G) (h : cd_Hp) : va_D (cd_A G) (cd_W G h) := by
  refine ⟨fun i j x y hi hj hxy => ?_, fun k x hk => ?_⟩
  · have h1 := (cd_W_lt hi).2
    have h2 := (cd_W_lt hj).2
    omega
  · have h1 := (cd_W_lt hk).2
    show G.2.2.2.2 ≤ x.1
    omega
theorem cd_en_congr {G : cd_G} {h h' : cd_Hp} {q : Nat} {kn : Nat × Nat} (h1 : ∀ k, cd_g h' q k = cd_g h q k) (h2 : kn.1 = 8 → h'.2 = h.2) : cd_en G h' q kn = cd_en G h q kn := by
  unfold cd_en
  split <;> rename_i hk <;> first | (simp only [cd_fs0, cd_fs1, cd_fs2, cd_fs3, cd_fs4, cd_fs5, cd_fs6, cd_fs7, h1]; done) | (simp only [cd_fs8, h1, h2 hk]; done) | rfl
theorem cd_W_set {G : cd_G} {h h' : cd_Hp} {q : Nat} {kn : Nat × Nat} {e : va_E} (hk : cd_tb[q]? = some kn) (he : e = cd_en G h' q kn) (h1 : ∀ r k, r ≠ q → cd_g h' r k = cd_g h r k) (h2 : ∀ r, r ≠ q → (cd_tb.getD r (0, 0)).1 = 8 → h'.2 = h.2) : (cd_W G h).set q (G.2.2.2.2 + q, e) = cd_W G h' := by
  subst he
  have hl : q < 416 := by rw [← cd_tb_len]; exact (List.getElem?_eq_some_iff.mp hk).1
  have e1 : cd_tb.getD q (0, 0) = kn := by rw [List.getD_eq_getElem?_getD, hk]; rfl
  apply List.ext_getElem?
  intro i
  rw [List.getElem?_set]
  by_cases hi : q = i
  · subst hi
    rw [if_pos rfl, cd_W_get (h := h') hk, if_pos (by simpa [cd_W] using hl)]
  · rw [if_neg hi]
    unfold cd_W
    rw [List.getElem?_map, List.getElem?_map]
    by_cases hl2 : i < 416
    · rw [List.getElem?_range hl2]
      simp only [Option.map_some]
      rw [cd_en_congr (h := h) (h' := h') (fun k => h1 i k (fun z => hi z.symm)) (h2 i (fun z => hi z.symm))]
    · rw [List.getElem?_eq_none (by simpa using hl2)]
theorem cd_only8 : ∀ r, r < 416 → r ≠ 404 → (cd_tb.getD r (0, 0)).1 ≠ 8 := by decide +kernel
theorem cd_g_u {h : cd_Hp} {q k : Nat} {v : Int32} : cd_g (cd_u h q k v) q k = v := by simp [cd_g, cd_u]
theorem cd_g_un {h : cd_Hp} {q k r j : Nat} {v : Int32} (hn : ¬ (r = q ∧ j = k)) : cd_g (cd_u h q k v) r j = cd_g h r j := by simp [cd_g, cd_u, hn]
/-- a row of ints is written at a place -/
theorem cd_W_ai {G : cd_G} {h : cd_Hp} {q n i : Nat} {v : Int32} (hq : cd_ar n q) : (cd_W G h).set q (G.2.2.2.2 + q, .inl (G.2.1, n, .inl (upd (fun j => cd_g h q j) i v))) = cd_W G (cd_u h q i v) := by
  refine cd_W_set (kn := (11, n)) hq ?_ (fun r k hr => cd_g_un (fun z => hr z.1)) (fun _ _ _ => rfl)
  show _ = Sum.inl (G.2.1, n, Sum.inl (fun j => cd_g (cd_u h q i v) q j))
  congr 3
  funext j
  by_cases hj : j = i
  · subst hj; rw [cd_g_u]; simp [upd]
  · rw [cd_g_un (fun z => hj z.2)]; simp [upd, hj]
/-- System.arraycopy -/
theorem cd_W_cp {G : cd_G} {h : cd_Hp} {q r n x y z : Nat} (hr : cd_ar n r) : (cd_W G h).set r (G.2.2.2.2 + r, .inl (G.2.1, n, .inl (va_cpy (fun j => cd_g h q j) (fun j => cd_g h r j) x y z))) = cd_W G (cd_cp h q x r y z) := by
  refine cd_W_set (kn := (11, n)) hr ?_ (fun a k ha => by simp [cd_g, cd_cp, ha]) (fun _ _ _ => rfl)
  show _ = Sum.inl (G.2.1, n, Sum.inl (fun j => cd_g (cd_cp h q x r y z) r j))
  congr 3
  funext j
  simp [va_cpy, cd_g, cd_cp]
theorem cd_W_p0_0 {G : cd_G} {h : cd_Hp} {q : Nat} {v : Int32} (hq : cd_is 0 q) : (cd_W G h).set q (G.2.2.2.2 + q, .inr (0, (cd_fs0 G.2.2.2.2 h q).set 0 (.int v))) = cd_W G (cd_u h q 0 v) :=
  cd_W_set (kn := (0, 0)) hq (by simp [cd_en, cd_fs0, cd_g, cd_u]) (fun r k hr => cd_g_un (fun z => hr z.1)) (fun _ _ _ => rfl)
theorem cd_W_p0_1 {G : cd_G} {h : cd_Hp} {q : Nat} {v : Int32} (hq : cd_is 0 q) : (cd_W G h).set q (G.2.2.2.2 + q, .inr (0, (cd_fs0 G.2.2.2.2 h q).set 1 (.int v))) = cd_W G (cd_u h q 1 v) :=
  cd_W_set (kn := (0, 0)) hq (by simp [cd_en, cd_fs0, cd_g, cd_u]) (fun r k hr => cd_g_un (fun z => hr z.1)) (fun _ _ _ => rfl)
theorem cd_W_p0_2 {G : cd_G} {h : cd_Hp} {q : Nat} {v : Int32} (hq : cd_is 0 q) : (cd_W G h).set q (G.2.2.2.2 + q, .inr (0, (cd_fs0 G.2.2.2.2 h q).set 2 (.int v))) = cd_W G (cd_u h q 2 v) :=
  cd_W_set (kn := (0, 0)) hq (by simp [cd_en, cd_fs0, cd_g, cd_u]) (fun r k hr => cd_g_un (fun z => hr z.1)) (fun _ _ _ => rfl)
theorem cd_W_p0_3 {G : cd_G} {h : cd_Hp} {q : Nat} {v : Int32} (hq : cd_is 0 q) : (cd_W G h).set q (G.2.2.2.2 + q, .inr (0, (cd_fs0 G.2.2.2.2 h q).set 3 (.int v))) = cd_W G (cd_u h q 3 v) :=
  cd_W_set (kn := (0, 0)) hq (by simp [cd_en, cd_fs0, cd_g, cd_u]) (fun r k hr => cd_g_un (fun z => hr z.1)) (fun _ _ _ => rfl)
theorem cd_W_p0_4 {G : cd_G} {h : cd_Hp} {q : Nat} {v : Int32} (hq : cd_is 0 q) : (cd_W G h).set q (G.2.2.2.2 + q, .inr (0, (cd_fs0 G.2.2.2.2 h q).set 4 (.int v))) = cd_W G (cd_u h q 4 v) :=
  cd_W_set (kn := (0, 0)) hq (by simp [cd_en, cd_fs0, cd_g, cd_u]) (fun r k hr => cd_g_un (fun z => hr z.1)) (fun _ _ _ => rfl)
theorem cd_W_p0_5 {G : cd_G} {h : cd_Hp} {q : Nat} {v : Int32} (hq : cd_is 0 q) : (cd_W G h).set q (G.2.2.2.2 + q, .inr (0, (cd_fs0 G.2.2.2.2 h q).set 5 (.int v))) = cd_W G (cd_u h q 5 v) :=
  cd_W_set (kn := (0, 0)) hq (by simp [cd_en, cd_fs0, cd_g, cd_u]) (fun r k hr => cd_g_un (fun z => hr z.1)) (fun _ _ _ => rfl)
theorem cd_W_p0_6 {G : cd_G} {h : cd_Hp} {q : Nat} {v : Int32} (hq : cd_is 0 q) : (cd_W G h).set q (G.2.2.2.2 + q, .inr (0, (cd_fs0 G.2.2.2.2 h q).set 6 (.int v))) = cd_W G (cd_u h q 6 v) :=
  cd_W_set (kn := (0, 0)) hq (by simp [cd_en, cd_fs0, cd_g, cd_u]) (fun r k hr => cd_g_un (fun z => hr z.1)) (fun _ _ _ => rfl)
theorem cd_W_p0_7 {G : cd_G} {h : cd_Hp} {q : Nat} {v : Int32} (hq : cd_is 0 q) : (cd_W G h).set q (G.2.2.2.2 + q, .inr (0, (cd_fs0 G.2.2.2.2 h q).set 7 (.int v))) = cd_W G (cd_u h q 7 v) :=
  cd_W_set (kn := (0, 0)) hq (by simp [cd_en, cd_fs0, cd_g, cd_u]) (fun r k hr => cd_g_un (fun z => hr z.1)) (fun _ _ _ => rfl)
theorem cd_W_p0_8 {G : cd_G} {h : cd_Hp} {q : Nat} {v : Int32} (hq : cd_is 0 q) : (cd_W G h).set q (G.2.2.2.2 + q, .inr (0, (cd_fs0 G.2.2.2.2 h q).set 8 (.int v))) = cd_W G (cd_u h q 8 v) :=
  cd_W_set (kn := (0, 0)) hq (by simp [cd_en, cd_fs0, cd_g, cd_u]) (fun r k hr => cd_g_un (fun z => hr z.1)) (fun _ _ _ => rfl)
theorem cd_W_p0_9 {G : cd_G} {h : cd_Hp} {q : Nat} {v : Int32} (hq : cd_is 0 q) : (cd_W G h).set q (G.2.2.2.2 + q, .inr (0, (cd_fs0 G.2.2.2.2 h q).set 9 (.int v))) = cd_W G (cd_u h q 9 v) :=
  cd_W_set (kn := (0, 0)) hq (by simp [cd_en, cd_fs0, cd_g, cd_u]) (fun r k hr => cd_g_un (fun z => hr z.1)) (fun _ _ _ => rfl)
theorem cd_W_p1_0 {G : cd_G} {h : cd_Hp} {q : Nat} {v : Int32} (hq : cd_is 1 q) : (cd_W G h).set q (G.2.2.2.2 + q, .inr (1, (cd_fs1 G.2.2.2.2 h q).set 0 (.int v))) = cd_W G (cd_u h q 0 v) :=
  cd_W_set (kn := (1, 0)) hq (by simp [cd_en, cd_fs1, cd_g, cd_u]) (fun r k hr => cd_g_un (fun z => hr z.1)) (fun _ _ _ => rfl)
theorem cd_W_p1_1 {G : cd_G} {h : cd_Hp} {q : Nat} {v : Int32} (hq : cd_is 1 q) : (cd_W G h).set q (G.2.2.2.2 + q, .inr (1, (cd_fs1 G.2.2.2.2 h q).set 1 (.int v))) = cd_W G (cd_u h q 1 v) :=
  cd_W_set (kn := (1, 0)) hq (by simp [cd_en, cd_fs1, cd_g, cd_u]) (fun r k hr => cd_g_un (fun z => hr z.1)) (fun _ _ _ => rfl)
theorem cd_W_p2_0 {G : cd_G} {h : cd_Hp} {q : Nat} {v : Int32} (hq : cd_is 2 q) : (cd_W G h).set q (G.2.2.2.2 + q, .inr (2, (cd_fs2 G.2.2.2.2 h q).set 0 (.int v))) = cd_W G (cd_u h q 0 v) :=
  cd_W_set (kn := (2, 0)) hq (by simp [cd_en, cd_fs2, cd_g, cd_u]) (fun r k hr => cd_g_un (fun z => hr z.1)) (fun _ _ _ => rfl)
theorem cd_W_p2_1 {G : cd_G} {h : cd_Hp} {q : Nat} {v : Int32} (hq : cd_is 2 q) : (cd_W G h).set q (G.2.2.2.2 + q, .inr (2, (cd_fs2 G.2.2.2.2 h q).set 1 (.int v))) = cd_W G (cd_u h q 1 v) :=
  cd_W_set (kn := (2, 0)) hq (by simp [cd_en, cd_fs2, cd_g, cd_u]) (fun r k hr => cd_g_un (fun z => hr z.1)) (fun _ _ _ => rfl)
theorem cd_W_p2_2 {G : cd_G} {h : cd_Hp} {q : Nat} {v : Int32} (hq : cd_is 2 q) : (cd_W G h).set q (G.2.2.2.2 + q, .inr (2, (cd_fs2 G.2.2.2.2 h q).set 2 (.int v))) = cd_W G (cd_u h q 2 v) :=
  cd_W_set (kn := (2, 0)) hq (by simp [cd_en, cd_fs2, cd_g, cd_u]) (fun r k hr => cd_g_un (fun z => hr z.1)) (fun _ _ _ => rfl)
theorem cd_W_p3_0 {G : cd_G} {h : cd_Hp} {q : Nat} {v : Int32} (hq : cd_is 3 q) : (cd_W G h).set q (G.2.2.2.2 + q, .inr (3, (cd_fs3 G.2.2.2.2 h q).set 0 (.int v))) = cd_W G (cd_u h q 0 v) :=
  cd_W_set (kn := (3, 0)) hq (by simp [cd_en, cd_fs3, cd_g, cd_u]) (fun r k hr => cd_g_un (fun z => hr z.1)) (fun _ _ _ => rfl)
theorem cd_W_p3_1 {G : cd_G} {h : cd_Hp} {q : Nat} {v : Int32} (hq : cd_is 3 q) : (cd_W G h).set q (G.2.2.2.2 + q, .inr (3, (cd_fs3 G.2.2.2.2 h q).set 1 (.int v))) = cd_W G (cd_u h q 1 v) :=
  cd_W_set (kn := (3, 0)) hq (by simp [cd_en, cd_fs3, cd_g, cd_u]) (fun r k hr => cd_g_un (fun z => hr z.1)) (fun _ _ _ => rfl)
theorem cd_W_p4_0 {G : cd_G} {h : cd_Hp} {q : Nat} {v : Int32} (hq : cd_is 4 q) : (cd_W G h).set q (G.2.2.2.2 + q, .inr (4, (cd_fs4 G.2.2.2.2 h q).set 0 (.int v))) = cd_W G (cd_u h q 0 v) :=
  cd_W_set (kn := (4, 0)) hq (by simp [cd_en, cd_fs4, cd_g, cd_u]) (fun r k hr => cd_g_un (fun z => hr z.1)) (fun _ _ _ => rfl)
theorem cd_W_p4_1 {G : cd_G} {h : cd_Hp} {q : Nat} {v : Int32} (hq : cd_is 4 q) : (cd_W G h).set q (G.2.2.2.2 + q, .inr (4, (cd_fs4 G.2.2.2.2 h q).set 1 (.int v))) = cd_W G (cd_u h q 1 v) :=
  cd_W_set (kn := (4, 0)) hq (by simp [cd_en, cd_fs4, cd_g, cd_u]) (fun r k hr => cd_g_un (fun z => hr z.1)) (fun _ _ _ => rfl)
theorem cd_W_p4_2 {G : cd_G} {h : cd_Hp} {q : Nat} {v : Int32} (hq : cd_is 4 q) : (cd_W G h).set q (G.2.2.2.2 + q, .inr (4, (cd_fs4 G.2.2.2.2 h q).set 2 (.int v))) = cd_W G (cd_u h q 2 v) :=
  cd_W_set (kn := (4, 0)) hq (by simp [cd_en, cd_fs4, cd_g, cd_u]) (fun r k hr => cd_g_un (fun z => hr z.1)) (fun _ _ _ => rfl)
theorem cd_W_p4_3 {G : cd_G} {h : cd_Hp} {q : Nat} {v : Int32} (hq : cd_is 4 q) : (cd_W G h).set q (G.2.2.2.2 + q, .inr (4, (cd_fs4 G.2.2.2.2 h q).set 3 (.int v))) = cd_W G (cd_u h q 3 v) :=
  cd_W_set (kn := (4, 0)) hq (by simp [cd_en, cd_fs4, cd_g, cd_u]) (fun r k hr => cd_g_un (fun z => hr z.1)) (fun _ _ _ => rfl)
theorem cd_W_p4_4 {G : cd_G} {h : cd_Hp} {q : Nat} {v : Int32} (hq : cd_is 4 q) : (cd_W G h).set q (G.2.2.2.2 + q, .inr (4, (cd_fs4 G.2.2.2.2 h q).set 4 (.int v))) = cd_W G (cd_u h q 4 v) :=
  cd_W_set (kn := (4, 0)) hq (by simp [cd_en, cd_fs4, cd_g, cd_u]) (fun r k hr => cd_g_un (fun z => hr z.1)) (fun _ _ _ => rfl)
theorem cd_W_p5_0 {G : cd_G} {h : cd_Hp} {q : Nat} {v : Int32} (hq : cd_is 5 q) : (cd_W G h).set q (G.2.2.2.2 + q, .inr (5, (cd_fs5 G.2.2.2.2 h q).set 0 (.int v))) = cd_W G (cd_u h q 0 v) :=
  cd_W_set (kn := (5, 0)) hq (by simp [cd_en, cd_fs5, cd_g, cd_u]) (fun r k hr => cd_g_un (fun z => hr z.1)) (fun _ _ _ => rfl)
theorem cd_W_p6_0 {G : cd_G} {h : cd_Hp} {q : Nat} {v : Int32} (hq : cd_is 6 q) : (cd_W G h).set q (G.2.2.2.2 + q, .inr (6, (cd_fs6 G.2.2.2.2 h q).set 0 (.int v))) = cd_W G (cd_u h q 0 v) :=
  cd_W_set (kn := (6, 0)) hq (by simp [cd_en, cd_fs6, cd_g, cd_u]) (fun r k hr => cd_g_un (fun z => hr z.1)) (fun _ _ _ => rfl)
theorem cd_W_p6_1 {G : cd_G} {h : cd_Hp} {q : Nat} {v : Int32} (hq : cd_is 6 q) : (cd_W G h).set q (G.2.2.2.2 + q, .inr (6, (cd_fs6 G.2.2.2.2 h q).set 1 (.int v))) = cd_W G (cd_u h q 1 v) :=
  cd_W_set (kn := (6, 0)) hq (by simp [cd_en, cd_fs6, cd_g, cd_u]) (fun r k hr => cd_g_un (fun z => hr z.1)) (fun _ _ _ => rfl)
theorem cd_W_p6_6 {G : cd_G} {h : cd_Hp} {q : Nat} {v : Int32} (hq : cd_is 6 q) : (cd_W G h).set q (G.2.2.2.2 + q, .inr (6, (cd_fs6 G.2.2.2.2 h q).set 6 (.int v))) = cd_W G (cd_u h q 6 v) :=
  cd_W_set (kn := (6, 0)) hq (by simp [cd_en, cd_fs6, cd_g, cd_u]) (fun r k hr => cd_g_un (fun z => hr z.1)) (fun _ _ _ => rfl)
theorem cd_W_p6_7 {G : cd_G} {h : cd_Hp} {q : Nat} {v : Int32} (hq : cd_is 6 q) : (cd_W G h).set q (G.2.2.2.2 + q, .inr (6, (cd_fs6 G.2.2.2.2 h q).set 7 (.int v))) = cd_W G (cd_u h q 7 v) :=
  cd_W_set (kn := (6, 0)) hq (by simp [cd_en, cd_fs6, cd_g, cd_u]) (fun r k hr => cd_g_un (fun z => hr z.1)) (fun _ _ _ => rfl)
theorem cd_W_p8_3 {G : cd_G} {h : cd_Hp} {q : Nat} {v : Int32} (hq : cd_is 8 q) : (cd_W G h).set q (G.2.2.2.2 + q, .inr (8, (cd_fs8 G.2.2.2.2 h q).set 3 (.int v))) = cd_W G (cd_u h q 3 v) :=
  cd_W_set (kn := (8, 0)) hq (by simp [cd_en, cd_fs8, cd_g, cd_u]) (fun r k hr => cd_g_un (fun z => hr z.1)) (fun _ _ _ => rfl)
theorem cd_W_p8_6 {G : cd_G} {h : cd_Hp} {q : Nat} {v : Int32} (hq : cd_is 8 q) : (cd_W G h).set q (G.2.2.2.2 + q, .inr (8, (cd_fs8 G.2.2.2.2 h q).set 6 (.int v))) = cd_W G (cd_u h q 6 v) :=
  cd_W_set (kn := (8, 0)) hq (by simp [cd_en, cd_fs8, cd_g, cd_u]) (fun r k hr => cd_g_un (fun z => hr z.1)) (fun _ _ _ => rfl)
theorem cd_W_p8_9 {G : cd_G} {h : cd_Hp} {q : Nat} {v : Int32} (hq : cd_is 8 q) : (cd_W G h).set q (G.2.2.2.2 + q, .inr (8, (cd_fs8 G.2.2.2.2 h q).set 9 (.int v))) = cd_W G (cd_u h q 9 v) :=
  cd_W_set (kn := (8, 0)) hq (by simp [cd_en, cd_fs8, cd_g, cd_u]) (fun r k hr => cd_g_un (fun z => hr z.1)) (fun _ _ _ => rfl)
theorem cd_W_p8_14 {G : cd_G} {h : cd_Hp} {q : Nat} {v : Int32} (hq : cd_is 8 q) : (cd_W G h).set q (G.2.2.2.2 + q, .inr (8, (cd_fs8 G.2.2.2.2 h q).set 14 (.int v))) = cd_W G (cd_u h q 14 v) :=
  cd_W_set (kn := (8, 0)) hq (by simp [cd_en, cd_fs8, cd_g, cd_u]) (fun r k hr => cd_g_un (fun z => hr z.1)) (fun _ _ _ => rfl)
theorem cd_W_p8_15 {G : cd_G} {h : cd_Hp} {q : Nat} {v : Int32} (hq : cd_is 8 q) : (cd_W G h).set q (G.2.2.2.2 + q, .inr (8, (cd_fs8 G.2.2.2.2 h q).set 15 (.int v))) = cd_W G (cd_u h q 15 v) :=
  cd_W_set (kn := (8, 0)) hq (by simp [cd_en, cd_fs8, cd_g, cd_u]) (fun r k hr => cd_g_un (fun z => hr z.1)) (fun _ _ _ => rfl)
theorem cd_W_p8_16 {G : cd_G} {h : cd_Hp} {q : Nat} {v : Int32} (hq : cd_is 8 q) : (cd_W G h).set q (G.2.2.2.2 + q, .inr (8, (cd_fs8 G.2.2.2.2 h q).set 16 (.int v))) = cd_W G (cd_u h q 16 v) :=
  cd_W_set (kn := (8, 0)) hq (by simp [cd_en, cd_fs8, cd_g, cd_u]) (fun r k hr => cd_g_un (fun z => hr z.1)) (fun _ _ _ => rfl)
theorem cd_W_p8_17 {G : cd_G} {h : cd_Hp} {v : Int64} : (cd_W G h).set 404 (G.2.2.2.2 + 404, .inr (8, (cd_fs8 G.2.2.2.2 h 404).set 17 (.long v))) = cd_W G (cd_ul h v) :=
  cd_W_set (kn := (8, 0)) (by decide +kernel) (by simp [cd_en, cd_fs8, cd_g, cd_ul]) (fun r k hr => rfl) (fun r hr h8 => absurd h8 (by
    by_cases hl : r < 416
    · exact cd_only8 r hl hr
    · rw [List.getD_eq_getElem?_getD, List.getElem?_eq_none (by rw [cd_tb_len]; omega)]; decide))
theorem cd_r0_10_all : ∀ q, q < 416 → cd_tb[q]? = some (0, 0) → cd_tb[q + 1]? = some (11, 4) := by decide +kernel
theorem cd_r0_10 {q : Nat} (h : cd_is 0 q) : cd_ar 4 (q + 1) := cd_r0_10_all q h.lt h
theorem cd_r0_11_all : ∀ q, q < 416 → cd_tb[q]? = some (0, 0) → cd_tb[q + 2]? = some (11, 4) := by decide +kernel
theorem cd_r0_11 {q : Nat} (h : cd_is 0 q) : cd_ar 4 (q + 2) := cd_r0_11_all q h.lt h
theorem cd_r0_12_all : ∀ q, q < 416 → cd_tb[q]? = some (0, 0) → cd_tb[q + 3]? = some (11, 4) := by decide +kernel
theorem cd_r0_12 {q : Nat} (h : cd_is 0 q) : cd_ar 4 (q + 3) := cd_r0_12_all q h.lt h
theorem cd_r0_13_all : ∀ q, q < 416 → cd_tb[q]? = some (0, 0) → cd_tb[q + 4]? = some (11, 24) := by decide +kernel
theorem cd_r0_13 {q : Nat} (h : cd_is 0 q) : cd_ar 24 (q + 4) := cd_r0_13_all q h.lt h
theorem cd_r0_14_all : ∀ q, q < 416 → cd_tb[q]? = some (0, 0) → cd_tb[q + 5]? = some (11, 6) := by decide +kernel
theorem cd_r0_14 {q : Nat} (h : cd_is 0 q) : cd_ar 6 (q + 5) := cd_r0_14_all q h.lt h
theorem cd_r0_15_all : ∀ q, q < 416 → cd_tb[q]? = some (0, 0) → cd_tb[q + 6]? = some (11, 6) := by decide +kernel
theorem cd_r0_15 {q : Nat} (h : cd_is 0 q) : cd_ar 6 (q + 6) := cd_r0_15_all q h.lt h
theorem cd_r1_2_all : ∀ q, q < 416 → cd_tb[q]? = some (1, 0) → cd_tb[q + 1]? = some (10, 0) := by decide +kernel
theorem cd_r1_2 {q : Nat} (h : cd_is 1 q) : cd_is 10 (q + 1) := cd_r1_2_all q h.lt h
theorem cd_r2_3_all : ∀ q, q < 416 → cd_tb[q]? = some (2, 0) → cd_tb[q + 1]? = some (11, 64) := by decide +kernel
theorem cd_r2_3 {q : Nat} (h : cd_is 2 q) : cd_ar 64 (q + 1) := cd_r2_3_all q h.lt h
theorem cd_r2_4_all : ∀ q, q < 416 → cd_tb[q]? = some (2, 0) → cd_tb[q + 2]? = some (11, 64) := by decide +kernel
theorem cd_r2_4 {q : Nat} (h : cd_is 2 q) : cd_ar 64 (q + 2) := cd_r2_4_all q h.lt h
theorem cd_r2_5_all : ∀ q, q < 416 → cd_tb[q]? = some (2, 0) → cd_tb[q + 3]? = some (11, 12) := by decide +kernel
theorem cd_r2_5 {q : Nat} (h : cd_is 2 q) : cd_ar 12 (q + 3) := cd_r2_5_all q h.lt h
theorem cd_r2_6_all : ∀ q, q < 416 → cd_tb[q]? = some (2, 0) → cd_tb[q + 4]? = some (11, 12) := by decide +kernel
theorem cd_r2_6 {q : Nat} (h : cd_is 2 q) : cd_ar 12 (q + 4) := cd_r2_6_all q h.lt h
theorem cd_r2_7_all : ∀ q, q < 416 → cd_tb[q]? = some (2, 0) → cd_tb[q + 5]? = some (11, 12) := by decide +kernel
theorem cd_r2_7 {q : Nat} (h : cd_is 2 q) : cd_ar 12 (q + 5) := cd_r2_7_all q h.lt h
theorem cd_r3_2_all : ∀ q, q < 416 → cd_tb[q]? = some (3, 0) → cd_tb[q + 1]? = some (11, 4) := by decide +kernel
theorem cd_r3_2 {q : Nat} (h : cd_is 3 q) : cd_ar 4 (q + 1) := cd_r3_2_all q h.lt h
theorem cd_r3_3_all : ∀ q, q < 416 → cd_tb[q]? = some (3, 0) → cd_tb[q + 2]? = some (11, 4) := by decide +kernel
theorem cd_r3_3 {q : Nat} (h : cd_is 3 q) : cd_ar 4 (q + 2) := cd_r3_3_all q h.lt h
theorem cd_r4_5_all : ∀ q, q < 416 → cd_tb[q]? = some (4, 0) → cd_tb[q + 1]? = some (11, 8) := by decide +kernel
theorem cd_r4_5 {q : Nat} (h : cd_is 4 q) : cd_ar 8 (q + 1) := cd_r4_5_all q h.lt h
theorem cd_r4_6_all : ∀ q, q < 416 → cd_tb[q]? = some (4, 0) → cd_tb[q + 2]? = some (5, 0) := by decide +kernel
theorem cd_r4_6 {q : Nat} (h : cd_is 4 q) : cd_is 5 (q + 2) := cd_r4_6_all q h.lt h
theorem cd_r4_7_all : ∀ q, q < 416 → cd_tb[q]? = some (4, 0) → cd_tb[q + 6]? = some (9, 0) := by decide +kernel
theorem cd_r4_7 {q : Nat} (h : cd_is 4 q) : cd_is 9 (q + 6) := cd_r4_7_all q h.lt h
theorem cd_r4_8_all : ∀ q, q < 416 → cd_tb[q]? = some (4, 0) → cd_tb[q + 7]? = some (11, 6) := by decide +kernel
theorem cd_r4_8 {q : Nat} (h : cd_is 4 q) : cd_ar 6 (q + 7) := cd_r4_8_all q h.lt h
theorem cd_r4_9_all : ∀ q, q < 416 → cd_tb[q]? = some (4, 0) → cd_tb[q + 8]? = some (2, 0) := by decide +kernel
theorem cd_r4_9 {q : Nat} (h : cd_is 4 q) : cd_is 2 (q + 8) := cd_r4_9_all q h.lt h
theorem cd_r4_10_all : ∀ q, q < 416 → cd_tb[q]? = some (4, 0) → cd_tb[1]? = some (3, 0) := by decide +kernel
theorem cd_r4_10 {q : Nat} (h : cd_is 4 q) : cd_is 3 (1) := cd_r4_10_all q h.lt h
theorem cd_r5_1_all : ∀ q, q < 416 → cd_tb[q]? = some (5, 0) → cd_tb[q + 1]? = some (11, 6) := by decide +kernel
theorem cd_r5_1 {q : Nat} (h : cd_is 5 q) : cd_ar 6 (q + 1) := cd_r5_1_all q h.lt h
theorem cd_r5_2_all : ∀ q, q < 416 → cd_tb[q]? = some (5, 0) → cd_tb[q + 2]? = some (11, 6) := by decide +kernel
theorem cd_r5_2 {q : Nat} (h : cd_is 5 q) : cd_ar 6 (q + 2) := cd_r5_2_all q h.lt h
theorem cd_r5_3_all : ∀ q, q < 416 → cd_tb[q]? = some (5, 0) → cd_tb[q + 3]? = some (11, 48) := by decide +kernel
theorem cd_r5_3 {q : Nat} (h : cd_is 5 q) : cd_ar 48 (q + 3) := cd_r5_3_all q h.lt h
theorem cd_r6_2_all : ∀ q, q < 416 → cd_tb[q]? = some (6, 0) → cd_tb[q + 1]? = some (11, 120) := by decide +kernel
theorem cd_r6_2 {q : Nat} (h : cd_is 6 q) : cd_ar 120 (q + 1) := cd_r6_2_all q h.lt h
theorem cd_r6_3_all : ∀ q, q < 416 → cd_tb[q]? = some (6, 0) → cd_tb[q + 2]? = some (11, 40) := by decide +kernel
theorem cd_r6_3 {q : Nat} (h : cd_is 6 q) : cd_ar 40 (q + 2) := cd_r6_3_all q h.lt h
theorem cd_r6_4_all : ∀ q, q < 416 → cd_tb[q]? = some (6, 0) → cd_tb[q + 3]? = some (11, 40) := by decide +kernel
theorem cd_r6_4 {q : Nat} (h : cd_is 6 q) : cd_ar 40 (q + 3) := cd_r6_4_all q h.lt h
theorem cd_r6_5_all : ∀ q, q < 416 → cd_tb[q]? = some (6, 0) → cd_tb[q + 4]? = some (11, 320) := by decide +kernel
theorem cd_r6_5 {q : Nat} (h : cd_is 6 q) : cd_ar 320 (q + 4) := cd_r6_5_all q h.lt h
theorem cd_r7_0_all : ∀ q, q < 416 → cd_tb[q]? = some (7, 0) → cd_tb[4]? = some (4, 0) := by decide +kernel
theorem cd_r7_0 {q : Nat} (h : cd_is 7 q) : cd_is 4 (4) := cd_r7_0_all q h.lt h
theorem cd_r7_1_all : ∀ q, q < 416 → cd_tb[q]? = some (7, 0) → cd_tb[60]? = some (1, 0) := by decide +kernel
theorem cd_r7_1 {q : Nat} (h : cd_is 7 q) : cd_is 1 (60) := cd_r7_1_all q h.lt h
theorem cd_r7_2_all : ∀ q, q < 416 → cd_tb[q]? = some (7, 0) → cd_tb[398]? = some (6, 0) := by decide +kernel
theorem cd_r7_2 {q : Nat} (h : cd_is 7 q) : cd_is 6 (398) := cd_r7_2_all q h.lt h
theorem cd_r7_3_all : ∀ q, q < 416 → cd_tb[q]? = some (7, 0) → cd_tb[403]? = some (11, 3) := by decide +kernel
theorem cd_r7_3 {q : Nat} (h : cd_is 7 q) : cd_ar 3 (403) := cd_r7_3_all q h.lt h
theorem cd_r8_0_all : ∀ q, q < 416 → cd_tb[q]? = some (8, 0) → cd_tb[405]? = some (11, 659) := by decide +kernel
theorem cd_r8_0 {q : Nat} (h : cd_is 8 q) : cd_ar 659 (405) := cd_r8_0_all q h.lt h
theorem cd_r8_1_all : ∀ q, q < 416 → cd_tb[q]? = some (8, 0) → cd_tb[406]? = some (11, 659) := by decide +kernel
theorem cd_r8_1 {q : Nat} (h : cd_is 8 q) : cd_ar 659 (406) := cd_r8_1_all q h.lt h
theorem cd_r8_2_all : ∀ q, q < 416 → cd_tb[q]? = some (8, 0) → cd_tb[407]? = some (11, 3295) := by decide +kernel
theorem cd_r8_2 {q : Nat} (h : cd_is 8 q) : cd_ar 3295 (407) := cd_r8_2_all q h.lt h
theorem cd_r8_4_all : ∀ q, q < 416 → cd_tb[q]? = some (8, 0) → cd_tb[408]? = some (11, 3) := by decide +kernel
theorem cd_r8_4 {q : Nat} (h : cd_is 8 q) : cd_ar 3 (408) := cd_r8_4_all q h.lt h
theorem cd_r8_5_all : ∀ q, q < 416 → cd_tb[q]? = some (8, 0) → cd_tb[409]? = some (11, 120) := by decide +kernel
theorem cd_r8_5 {q : Nat} (h : cd_is 8 q) : cd_ar 120 (409) := cd_r8_5_all q h.lt h
theorem cd_r8_7_all : ∀ q, q < 416 → cd_tb[q]? = some (8, 0) → cd_tb[410]? = some (11, 4) := by decide +kernel
theorem cd_r8_7 {q : Nat} (h : cd_is 8 q) : cd_ar 4 (410) := cd_r8_7_all q h.lt h
theorem cd_r8_8_all : ∀ q, q < 416 → cd_tb[q]? = some (8, 0) → cd_tb[411]? = some (11, 4) := by decide +kernel
theorem cd_r8_8 {q : Nat} (h : cd_is 8 q) : cd_ar 4 (411) := cd_r8_8_all q h.lt h
theorem cd_r8_10_all : ∀ q, q < 416 → cd_tb[q]? = some (8, 0) → cd_tb[412]? = some (11, 4) := by decide +kernel
theorem cd_r8_10 {q : Nat} (h : cd_is 8 q) : cd_ar 4 (412) := cd_r8_10_all q h.lt h
theorem cd_r8_11_all : ∀ q, q < 416 → cd_tb[q]? = some (8, 0) → cd_tb[413]? = some (11, 60) := by decide +kernel
theorem cd_r8_11 {q : Nat} (h : cd_is 8 q) : cd_ar 60 (413) := cd_r8_11_all q h.lt h
theorem cd_r8_12_all : ∀ q, q < 416 → cd_tb[q]? = some (8, 0) → cd_tb[414]? = some (11, 61) := by decide +kernel
theorem cd_r8_12 {q : Nat} (h : cd_is 8 q) : cd_ar 61 (414) := cd_r8_12_all q h.lt h
theorem cd_r8_13_all : ∀ q, q < 416 → cd_tb[q]? = some (8, 0) → cd_tb[415]? = some (11, 128) := by decide +kernel
theorem cd_r8_13 {q : Nat} (h : cd_is 8 q) : cd_ar 128 (415) := cd_r8_13_all q h.lt h
theorem cd_r9_all : ∀ q, q < 416 → cd_tb[q]? = some (9, 0) → ∀ i, i < 6 → cd_tb[q + 8 + 7 * i]? = some (0, 0) := by decide +kernel
theorem cd_r10_all : ∀ q, q < 416 → cd_tb[q]? = some (10, 0) → ∀ i, i < 6 → cd_tb[q + 1 + 56 * i]? = some (4, 0) := by decide +kernel
/-- an index that fits -/
def cd_ix (i : Int32) (n : Nat) : Bool := decide (0 ≤ i.toInt) && decide (i.toInt < (n : Int))
theorem cd_ix_in {i : Int32} {n : Nat} (h : cd_ix i n = true) : vp_in i n := by
  unfold cd_ix at h
  rw [Bool.and_eq_true, decide_eq_true_eq, decide_eq_true_eq] at h
  exact vp_in_iff.mpr h
theorem cd_ix_lt {i : Int32} {n : Nat} (h : cd_ix i n = true) : i.toNatClampNeg < n := Nat.not_le.mp fun z => cd_ix_in h (Or.inr z)
theorem cd_r9 {q : Nat} {i : Int32} (h : cd_is 9 q) (hi : cd_ix i 6 = true) : cd_is 0 (q + 8 + 7 * i.toNatClampNeg) := cd_r9_all q h.lt h _ (cd_ix_lt hi)
theorem cd_r10 {q : Nat} {i : Int32} (h : cd_is 10 q) (hi : cd_ix i 6 = true) : cd_is 4 (q + 1 + 56 * i.toNatClampNeg) := cd_r10_all q h.lt h _ (cd_ix_lt hi)
/-- 0 or 1 -/
def cd_bo (v : Int32) : Bool := decide (v = 0) || decide (v = 1)
theorem cd_bo_nar {v : Int32} (h : cd_bo v = true) : narrow .boolean (.int v) = .int v := by
  unfold cd_bo at h
  rw [Bool.or_eq_true, decide_eq_true_eq, decide_eq_true_eq] at h
  rcases h with rfl | rfl <;> rfl
theorem cd_bo_fit {v : Int32} (h : cd_bo v = true) : fits .boolean (.int v) = true := by
  unfold cd_bo at h
  rw [Bool.or_eq_true, decide_eq_true_eq, decide_eq_true_eq] at h
  rcases h with rfl | rfl <;> rfl
/-- what a copy of ints needs -/
def cd_cq (sp dp n : Int32) (n0 n1 : Nat) : Bool := !decide (sp < 0) && (!decide (dp < 0) && (!decide (n < 0) && (decide (sp.toNatClampNeg + n.toNatClampNeg ≤ n0) && decide (dp.toNatClampNeg + n.toNatClampNeg ≤ n1))))
/-- the steps of a pure function: a check, a name, a call -/
def cd_ck {α : Type} (b : Bool) (x : Option α) : Option α := if b = true then x else none
def cd_nm {α β : Type} (v : α) (f : α → β) : β := f v
def cd_b {α β : Type} (x : Option α) (f : α → Option β) : Option β := match x with | none => none | some a => f a
theorem cd_ckE {α : Type} {b : Bool} {x : Option α} {o : α} (h : cd_ck b x = some o) : b = true ∧ x = some o := by
  unfold cd_ck at h
  by_cases hb : b = true
  · rw [if_pos hb] at h; exact ⟨hb, h⟩
  · rw [if_neg hb] at h; cases h
theorem cd_nmE {α β : Type} {v : α} {f : α → β} {o : β} (h : cd_nm v f = o) : ∃ y, y = v ∧ f y = o := ⟨v, rfl, h⟩
theorem cd_bE {α β : Type} {x : Option α} {f : α → Option β} {o : β} (h : cd_b x f = some o) : ∃ a, x = some a ∧ f a = some o := by
  cases x with
  | none => cases h
  | some a => exact ⟨a, rfl, h⟩
theorem cd_tE {α : Type} {p : Prop} [Decidable p] {x y o : α} (c : p) (h : (if p then x else y) = o) : x = o := by rw [if_pos c] at h; exact h
theorem cd_fE {α : Type} {p : Prop} [Decidable p] {x y o : α} (c : ¬ p) (h : (if p then x else y) = o) : y = o := by rw [if_neg c] at h; exact h
end
section
-- THE ROWS: what is known of the tables; contracts; a row an instruction
/-- the nest mates' links -/
def cd_N (U : State) : Prop := va_Nw (.methodLinkNest RX4 59 yX7_copyRow "CounterDeals") U ∧ va_Nw (.methodLinkNest RX5 25 yX7_copyRow "CounterDeals") U ∧ va_Nw (.methodLinkNest RX0 62 yX7_copyRow "CounterDeals") U ∧ va_Nw (.methodLinkNest RX4 73 yX7_isWithin "CounterDeals") U ∧ va_Nw (.methodLinkNest RX5 29 yX7_isWithin "CounterDeals") U ∧ va_Nw (.methodLinkNest RX4 121 yX7_bit "CounterDeals") U ∧ va_Nw (.methodLinkNest RX0 66 yX7_isWithin "CounterDeals") U ∧ va_Nw (.methodLinkNest RX2 47 yX7_isWithin "CounterDeals") U ∧ va_Nw (.methodLinkNest RX6 24 yX7_isWithin "CounterDeals") U
theorem cd_N.warm {s U : State} (hW : s.WarmedH U.vm) (h : cd_N s) : cd_N U := ⟨va_Nw.warmM hW h.1, va_Nw.warmM hW h.2.1, va_Nw.warmM hW h.2.2.1, va_Nw.warmM hW h.2.2.2.1, va_Nw.warmM hW h.2.2.2.2.1, va_Nw.warmM hW h.2.2.2.2.2.1, va_Nw.warmM hW h.2.2.2.2.2.2.1, va_Nw.warmM hW h.2.2.2.2.2.2.2.1, va_Nw.warmM hW h.2.2.2.2.2.2.2.2⟩
theorem cd_nX4_59 {U : State} (h : cd_N U) : va_Nw (.methodLinkNest RX4 59 yX7_copyRow "CounterDeals") U := h.1
theorem cd_nX5_25 {U : State} (h : cd_N U) : va_Nw (.methodLinkNest RX5 25 yX7_copyRow "CounterDeals") U := h.2.1
theorem cd_nX0_62 {U : State} (h : cd_N U) : va_Nw (.methodLinkNest RX0 62 yX7_copyRow "CounterDeals") U := h.2.2.1
theorem cd_nX4_73 {U : State} (h : cd_N U) : va_Nw (.methodLinkNest RX4 73 yX7_isWithin "CounterDeals") U := h.2.2.2.1
theorem cd_nX5_29 {U : State} (h : cd_N U) : va_Nw (.methodLinkNest RX5 29 yX7_isWithin "CounterDeals") U := h.2.2.2.2.1
theorem cd_nX4_121 {U : State} (h : cd_N U) : va_Nw (.methodLinkNest RX4 121 yX7_bit "CounterDeals") U := h.2.2.2.2.2.1
theorem cd_nX0_66 {U : State} (h : cd_N U) : va_Nw (.methodLinkNest RX0 66 yX7_isWithin "CounterDeals") U := h.2.2.2.2.2.2.1
theorem cd_nX2_47 {U : State} (h : cd_N U) : va_Nw (.methodLinkNest RX2 47 yX7_isWithin "CounterDeals") U := h.2.2.2.2.2.2.2.1
theorem cd_nX6_24 {U : State} (h : cd_N U) : va_Nw (.methodLinkNest RX6 24 yX7_isWithin "CounterDeals") U := h.2.2.2.2.2.2.2.2
abbrev cd_ty (G : cd_G) : List (ClassId × FieldType) := [(G.2.1, .int), (G.2.2.1, .object RX0), (G.2.2.2.1, .object RX4)]
def cd_K (G : cd_G) (U : State) : Prop := va_K G.1 vwCl (cd_ty G) U ∧ cd_N U
theorem cd_K.warm {G : cd_G} {s U : State} (hW : s.WarmedH U.vm) (h : cd_K G s) : cd_K G U := ⟨va_K.moved hW.alike h.1, h.2.warm hW⟩
/-- the heap holds h; since H0 nothing below our cells has changed -/
def cd_Z (G : cd_G) (h : cd_Hp) (H0 H : Heap) (locs : List Loc) : Prop := va_P G.1 vwCl (cd_W G h) H ∧ va_S (cd_A G) H0 H locs
def cd_P (G : cd_G) (av : List Value) (h : cd_Hp) : Array Value → State → Prop := va_Pc av fun U => va_P G.1 vwCl (cd_W G h) U.heap ∧ cd_K G U
abbrev cd_B (G : cd_G) (h : cd_Hp) : Unit → State → Prop := fun _ t => va_P G.1 vwCl (cd_W G h) t.heap
/-- contracts: an int, a long, nothing -/
def cd_Mi (l : Launch) (G : cd_G) (y : MethodName) (ws : List Cond) (rm : Room) (av : List Value) (h : cd_Hp) (o : Int32 × cd_Hp) : Prop := Met l y ws rm (cd_P G av h) (va_Qi (fun (x : Int32) (_ : Unit) => x = o.1) (cd_B G o.2) (cd_A G)) 0 0 (cd_A G)
def cd_Ml (l : Launch) (G : cd_G) (y : MethodName) (ws : List Cond) (rm : Room) (av : List Value) (h : cd_Hp) (o : Int64 × cd_Hp) : Prop := Met l y ws rm (cd_P G av h) (va_Ql (fun (x : Int64) (_ : Unit) => x = o.1) (cd_B G o.2) (cd_A G)) 0 0 (cd_A G)
def cd_Mv (l : Launch) (G : cd_G) (y : MethodName) (ws : List Cond) (rm : Room) (av : List Value) (h : cd_Hp) (o : cd_Hp) : Prop := Met l y ws rm (cd_P G av h) (va_Qv (fun (_ : Unit) => True) (cd_B G o) (cd_A G)) 0 0 (cd_A G)
theorem cd_blind {G : cd_G} {av : List Value} {h : cd_Hp} : FrameBlind (cd_P G av h) := fun a U g mk q => by
  obtain ⟨q0, q1, q2, q3⟩ := q
  exact ⟨q0, q1, va_K.moved (u := U) (U := U.calling g mk a) (Vm.Alike.refl U.vm) q2, q3⟩
theorem cd_pre {G : cd_G} {av : List Value} {h : cd_Hp} {s : State} {H : Heap} (hK : cd_K G s) (hP : va_P G.1 vwCl (cd_W G h) H) : ∀ U : State, U.heap = H → s.WarmedH U.vm → cd_P G av h av.toArray U := fun U hU hW => ⟨rfl, by rw [hU]; exact hP, hK.warm hW⟩
theorem cd_P_lt {G : cd_G} {h : cd_Hp} {H : Heap} (hP : va_P G.1 vwCl (cd_W G h) H) : G.2.2.2.2 < H.size := (hP 0 _ (cd_W_get (q := 0) (kn := (7, 0)) (by decide +kernel))).lt
/-- the words of a method that is called -/
def cd_V (y : MethodName) (bytes : ByteArray) (maxL : Nat) (ret : Option FieldType) (n : Nat) : Prop := Cond.instanceMethod y ∈ cd_T ∧ Cond.selects y.cls y y ∈ cd_T ∧ Cond.initialized y.cls ∈ cd_T ∧ Cond.code y bytes maxL ret ∈ cd_T ∧ (y.cls ≠ "java/lang/invoke/MethodHandle" ∧ y.cls ≠ "java/lang/invoke/VarHandle" ∧ (parseMethodDescriptor y.desc).map (fun d => d.parameters.length) = some n)
def cd_Vs (y : MethodName) (bytes : ByteArray) (maxL : Nat) (ret : Option FieldType) (n : Nat) : Prop := Cond.static y ∈ cd_T ∧ Cond.initialized y.cls ∈ cd_T ∧ Cond.code y bytes maxL ret ∈ cd_T ∧ (y.cls ≠ "java/lang/invoke/MethodHandle" ∧ y.cls ≠ "java/lang/invoke/VarHandle" ∧ (parseMethodDescriptor y.desc).map (fun d => d.parameters.length) = some n)
theorem cd_goodIn {w : Cond} (h : w ∈ cd_T) : GoodIn cd_T (w :: cd_T) := fun x hx => by
  rcases List.mem_cons.mp hx with rfl | hx
  · exact ⟨h, cd_T_good h⟩
  · exact ⟨hx, cd_T_good hx⟩
theorem cd_V.cw {p : Program} {m : MethodId} {c : Code} {cc : ByteArray} {nL : Nat} {s : State} {args : Array Value} {own : String} {R rm : Room} {y : MethodName} {bytes : ByteArray} {maxL n index : Nat} {ret : Option FieldType} (hV : cd_V y bytes maxL ret n) (S : CallFix p m c cc nL s args cd_T own) (hl : Cond.methodLink own index y ∈ cd_T) (hR : rm.frames + 1 ≤ R.frames ∧ 8 + (maxL + 11) + rm.locals ≤ R.locals) (hr0 : rm.cells = 0 ∧ rm.slots = 0) : CallW R s args own y.cls index y bytes maxL ret (Cond.code y bytes maxL ret :: cd_T) rm 0 0 n := by
  obtain ⟨h1, h2, h3, h4, h5⟩ := hV
  exact ⟨callB_of n S.2.2.2.2 (cd_goodIn h4) rfl hr0.1 hr0.2 (S.2.2.2.2 _ h3) (S.2.2.2.2 _ hl) h5 hR, S.2.2.2.2 _ h1, S.2.2.2.2 _ h2⟩
theorem cd_Vs.cw {p : Program} {m : MethodId} {c : Code} {cc : ByteArray} {nL : Nat} {s : State} {args : Array Value} {own : String} {R rm : Room} {y : MethodName} {bytes : ByteArray} {maxL n index : Nat} {ret : Option FieldType} (hV : cd_Vs y bytes maxL ret n) (S : CallFix p m c cc nL s args cd_T own) (hl : Cond.methodLink own index y ∈ cd_T) (hR : rm.frames + 1 ≤ R.frames ∧ 8 + (maxL + 11) + rm.locals ≤ R.locals) (hr0 : rm.cells = 0 ∧ rm.slots = 0) : CallB R s args own index y bytes maxL ret (Cond.code y bytes maxL ret :: cd_T) rm 0 0 n ∧ (Cond.static y).before args s = true := by
  obtain ⟨h1, h3, h4, h5⟩ := hV
  exact ⟨callB_of n S.2.2.2.2 (cd_goodIn h4) rfl hr0.1 hr0.2 (S.2.2.2.2 _ h3) (S.2.2.2.2 _ hl) h5 hR, S.2.2.2.2 _ h1⟩
theorem cd_Vs.cn {p : Program} {m : MethodId} {c : Code} {cc : ByteArray} {nL : Nat} {s : State} {args : Array Value} {own host : String} {R rm : Room} {y : MethodName} {bytes : ByteArray} {maxL n index : Nat} {ret : Option FieldType} (hV : cd_Vs y bytes maxL ret n) (S : CallFix p m c cc nL s args cd_T own) (hl : va_Nw (.methodLinkNest own index y host) s) (hR : rm.frames + 1 ≤ R.frames ∧ 8 + (maxL + 11) + rm.locals ≤ R.locals) (hr0 : rm.cells = 0 ∧ rm.slots = 0) : va_CN R s args own index y host bytes maxL ret (Cond.code y bytes maxL ret :: cd_T) rm 0 0 n ∧ (Cond.static y).before args s = true ∧ True := by
  obtain ⟨h1, h3, h4, h5⟩ := hV
  exact ⟨va_cnB n S.2.2.2.2 (cd_goodIn h4) rfl hr0.1 hr0.2 hl (S.2.2.2.2 _ h3) h5 hR, S.2.2.2.2 _ h1, trivial⟩
theorem cd_en_o {G : cd_G} {h : cd_Hp} {q ci : Nat} (hci : ci < 9) : ∃ fs, cd_en G h q (ci, 0) = .inr (ci, fs) := by
  match ci, hci with
  | 0, _ => exact ⟨_, rfl⟩
  | 1, _ => exact ⟨_, rfl⟩
  | 2, _ => exact ⟨_, rfl⟩
  | 3, _ => exact ⟨_, rfl⟩
  | 4, _ => exact ⟨_, rfl⟩
  | 5, _ => exact ⟨_, rfl⟩
  | 6, _ => exact ⟨_, rfl⟩
  | 7, _ => exact ⟨_, rfl⟩
  | 8, _ => exact ⟨_, rfl⟩
  | k + 9, hk => exact absurd hk (by omega)
theorem cd_recv {G : cd_G} {h : cd_Hp} {s : State} {H : Heap} {q ci : Nat} {C : String} (hK : cd_K G s) (hP : va_P G.1 vwCl (cd_W G h) H) (hci : ci < 9) (hc : (vwCl[ci]?).map Prod.fst = some C) (hq : cd_is ci q) : ∃ cell : Cell, H[G.2.2.2.2 + q]? = some cell ∧ cell.vm.isStatics = false ∧ s.vm.findClass C = some cell.cls := by
  obtain ⟨fs, hfs⟩ := cd_en_o (G := G) (h := h) (q := q) hci
  obtain ⟨x, hx, rfl⟩ := Option.map_eq_some_iff.mp hc
  exact va_recv hK.1 hP hx ((cd_W_get (kn := (ci, 0)) hq).trans (by rw [hfs]))
section CDR
variable {p : Program} {l : Launch} {e : Env} {R : Room} {s : State} {m : MethodId} {args : Array Value} {below : List Frame} {meth : Method} {c : Code} {H : Heap} {locs : List Loc} {cells slots : Nat} {Q : State → Prop}
variable {cc : ByteArray} {pc : Nat} {ls : Array Slot} {rest : List Value} {nL : Nat} {own : String} {G : cd_G} {h h' : cd_Hp} {H0 : Heap} {q : Nat}
theorem cd_get0 (S : CallFix p m c cc nL s args cd_T own) (hK : cd_K G s) (hZ : cd_Z G h H0 H locs) (hq : cd_is 0 q) (k : Nat) {index : Nat} (hl : Cond.fieldLink own index (TX0 k).1 (TX0 k).2.1 (TX0 k).2.2.1 ∈ cd_T) {v : Value} (hv : (cd_fs0 G.2.2.2.2 h q)[k]? = some v) (hdg : decode cc pc = .ok (.getfield index, 3)) (kk : W p l e R s m args below meth c H locs cells slots Q (F0 m (pc + 3) ls (v :: rest))) : W p l e R s m args below meth c H locs cells slots Q (F0 m pc ls (.ref (G.2.2.2.2 + q) :: rest)) :=
  va_get (D := G.1) (ci := 0) (C := RX0) (T := TX0) (N := 16) S.1 S.2.1 S.2.2.2.2 cd_x0 S.2.2.2.1 hK.1 hZ.1 q (cd_W_get (kn := (0, 0)) hq) rfl k (by have z := (List.getElem?_eq_some_iff.mp hv).1; exact z) (S.2.2.2.2 _ hl) (fun _ z => z) hv hdg kk
theorem cd_put0_0 (S : CallFix p m c cc nL s args cd_T own) (hK : cd_K G s) (hZ : cd_Z G h H0 H locs) (hq : cd_is 0 q) {index : Nat} (hl : Cond.fieldLink own index (TX0 0).1 (TX0 0).2.1 (TX0 0).2.2.1 ∈ cd_T) {x : Int32} (he : h' = cd_u h q 0 x) (hdg : decode cc pc = .ok (.putfield index, 3)) (kk : ∀ (H1 : Heap) (locs1 : List Loc), cd_Z G h' H0 H1 locs1 → W p l e R s m args below meth c H1 locs1 cells slots Q (F0 m (pc + 3) ls rest)) : W p l e R s m args below meth c H locs cells slots Q (F0 m pc ls (.int x :: .ref (G.2.2.2.2 + q) :: rest)) :=
  va_put (D := G.1) (ci := 0) (C := RX0) (T := TX0) (N := 16) (ty := .int) S.1 S.2.1 S.2.2.2.2 cd_x0 tyX0 tyX0_ok nmX0 S.2.2.2.1 hK.1 hZ.1 (cd_W_D G h) hZ.2 q (cd_W_get (kn := (0, 0)) hq) rfl 0 (by decide) (S.2.2.2.2 _ hl) (fun _ z => z) rfl (tyX0_ok 0 (by decide)) (rfl) (rfl) (by decide) hdg (fun H1 locs1 z1 _ z3 => kk H1 locs1 ⟨by rw [he, ← cd_W_p0_0 hq]; exact z1, z3⟩)
theorem cd_put0_1 (S : CallFix p m c cc nL s args cd_T own) (hK : cd_K G s) (hZ : cd_Z G h H0 H locs) (hq : cd_is 0 q) {index : Nat} (hl : Cond.fieldLink own index (TX0 1).1 (TX0 1).2.1 (TX0 1).2.2.1 ∈ cd_T) {x : Int32} (he : h' = cd_u h q 1 x) (hdg : decode cc pc = .ok (.putfield index, 3)) (kk : ∀ (H1 : Heap) (locs1 : List Loc), cd_Z G h' H0 H1 locs1 → W p l e R s m args below meth c H1 locs1 cells slots Q (F0 m (pc + 3) ls rest)) : W p l e R s m args below meth c H locs cells slots Q (F0 m pc ls (.int x :: .ref (G.2.2.2.2 + q) :: rest)) :=
  va_put (D := G.1) (ci := 0) (C := RX0) (T := TX0) (N := 16) (ty := .int) S.1 S.2.1 S.2.2.2.2 cd_x0 tyX0 tyX0_ok nmX0 S.2.2.2.1 hK.1 hZ.1 (cd_W_D G h) hZ.2 q (cd_W_get (kn := (0, 0)) hq) rfl 1 (by decide) (S.2.2.2.2 _ hl) (fun _ z => z) rfl (tyX0_ok 1 (by decide)) (rfl) (rfl) (by decide) hdg (fun H1 locs1 z1 _ z3 => kk H1 locs1 ⟨by rw [he, ← cd_W_p0_1 hq]; exact z1, z3⟩)
theorem cd_put0_2 (S : CallFix p m c cc nL s args cd_T own) (hK : cd_K G s) (hZ : cd_Z G h H0 H locs) (hq : cd_is 0 q) {index : Nat} (hl : Cond.fieldLink own index (TX0 2).1 (TX0 2).2.1 (TX0 2).2.2.1 ∈ cd_T) {x : Int32} (hbo : cd_bo x = true) (he : h' = cd_u h q 2 x) (hdg : decode cc pc = .ok (.putfield index, 3)) (kk : ∀ (H1 : Heap) (locs1 : List Loc), cd_Z G h' H0 H1 locs1 → W p l e R s m args below meth c H1 locs1 cells slots Q (F0 m (pc + 3) ls rest)) : W p l e R s m args below meth c H locs cells slots Q (F0 m pc ls (.int x :: .ref (G.2.2.2.2 + q) :: rest)) :=
  va_put (D := G.1) (ci := 0) (C := RX0) (T := TX0) (N := 16) (ty := .boolean) S.1 S.2.1 S.2.2.2.2 cd_x0 tyX0 tyX0_ok nmX0 S.2.2.2.1 hK.1 hZ.1 (cd_W_D G h) hZ.2 q (cd_W_get (kn := (0, 0)) hq) rfl 2 (by decide) (S.2.2.2.2 _ hl) (fun _ z => z) rfl (tyX0_ok 2 (by decide)) (cd_bo_nar hbo) (cd_bo_fit hbo) (by decide) hdg (fun H1 locs1 z1 _ z3 => kk H1 locs1 ⟨by rw [he, ← cd_W_p0_2 hq]; exact z1, z3⟩)
theorem cd_put0_3 (S : CallFix p m c cc nL s args cd_T own) (hK : cd_K G s) (hZ : cd_Z G h H0 H locs) (hq : cd_is 0 q) {index : Nat} (hl : Cond.fieldLink own index (TX0 3).1 (TX0 3).2.1 (TX0 3).2.2.1 ∈ cd_T) {x : Int32} (hbo : cd_bo x = true) (he : h' = cd_u h q 3 x) (hdg : decode cc pc = .ok (.putfield index, 3)) (kk : ∀ (H1 : Heap) (locs1 : List Loc), cd_Z G h' H0 H1 locs1 → W p l e R s m args below meth c H1 locs1 cells slots Q (F0 m (pc + 3) ls rest)) : W p l e R s m args below meth c H locs cells slots Q (F0 m pc ls (.int x :: .ref (G.2.2.2.2 + q) :: rest)) :=
  va_put (D := G.1) (ci := 0) (C := RX0) (T := TX0) (N := 16) (ty := .boolean) S.1 S.2.1 S.2.2.2.2 cd_x0 tyX0 tyX0_ok nmX0 S.2.2.2.1 hK.1 hZ.1 (cd_W_D G h) hZ.2 q (cd_W_get (kn := (0, 0)) hq) rfl 3 (by decide) (S.2.2.2.2 _ hl) (fun _ z => z) rfl (tyX0_ok 3 (by decide)) (cd_bo_nar hbo) (cd_bo_fit hbo) (by decide) hdg (fun H1 locs1 z1 _ z3 => kk H1 locs1 ⟨by rw [he, ← cd_W_p0_3 hq]; exact z1, z3⟩)
theorem cd_put0_4 (S : CallFix p m c cc nL s args cd_T own) (hK : cd_K G s) (hZ : cd_Z G h H0 H locs) (hq : cd_is 0 q) {index : Nat} (hl : Cond.fieldLink own index (TX0 4).1 (TX0 4).2.1 (TX0 4).2.2.1 ∈ cd_T) {x : Int32} (hbo : cd_bo x = true) (he : h' = cd_u h q 4 x) (hdg : decode cc pc = .ok (.putfield index, 3)) (kk : ∀ (H1 : Heap) (locs1 : List Loc), cd_Z G h' H0 H1 locs1 → W p l e R s m args below meth c H1 locs1 cells slots Q (F0 m (pc + 3) ls rest)) : W p l e R s m args below meth c H locs cells slots Q (F0 m pc ls (.int x :: .ref (G.2.2.2.2 + q) :: rest)) :=
  va_put (D := G.1) (ci := 0) (C := RX0) (T := TX0) (N := 16) (ty := .boolean) S.1 S.2.1 S.2.2.2.2 cd_x0 tyX0 tyX0_ok nmX0 S.2.2.2.1 hK.1 hZ.1 (cd_W_D G h) hZ.2 q (cd_W_get (kn := (0, 0)) hq) rfl 4 (by decide) (S.2.2.2.2 _ hl) (fun _ z => z) rfl (tyX0_ok 4 (by decide)) (cd_bo_nar hbo) (cd_bo_fit hbo) (by decide) hdg (fun H1 locs1 z1 _ z3 => kk H1 locs1 ⟨by rw [he, ← cd_W_p0_4 hq]; exact z1, z3⟩)
theorem cd_put0_5 (S : CallFix p m c cc nL s args cd_T own) (hK : cd_K G s) (hZ : cd_Z G h H0 H locs) (hq : cd_is 0 q) {index : Nat} (hl : Cond.fieldLink own index (TX0 5).1 (TX0 5).2.1 (TX0 5).2.2.1 ∈ cd_T) {x : Int32} (hbo : cd_bo x = true) (he : h' = cd_u h q 5 x) (hdg : decode cc pc = .ok (.putfield index, 3)) (kk : ∀ (H1 : Heap) (locs1 : List Loc), cd_Z G h' H0 H1 locs1 → W p l e R s m args below meth c H1 locs1 cells slots Q (F0 m (pc + 3) ls rest)) : W p l e R s m args below meth c H locs cells slots Q (F0 m pc ls (.int x :: .ref (G.2.2.2.2 + q) :: rest)) :=
  va_put (D := G.1) (ci := 0) (C := RX0) (T := TX0) (N := 16) (ty := .boolean) S.1 S.2.1 S.2.2.2.2 cd_x0 tyX0 tyX0_ok nmX0 S.2.2.2.1 hK.1 hZ.1 (cd_W_D G h) hZ.2 q (cd_W_get (kn := (0, 0)) hq) rfl 5 (by decide) (S.2.2.2.2 _ hl) (fun _ z => z) rfl (tyX0_ok 5 (by decide)) (cd_bo_nar hbo) (cd_bo_fit hbo) (by decide) hdg (fun H1 locs1 z1 _ z3 => kk H1 locs1 ⟨by rw [he, ← cd_W_p0_5 hq]; exact z1, z3⟩)
theorem cd_put0_6 (S : CallFix p m c cc nL s args cd_T own) (hK : cd_K G s) (hZ : cd_Z G h H0 H locs) (hq : cd_is 0 q) {index : Nat} (hl : Cond.fieldLink own index (TX0 6).1 (TX0 6).2.1 (TX0 6).2.2.1 ∈ cd_T) {x : Int32} (he : h' = cd_u h q 6 x) (hdg : decode cc pc = .ok (.putfield index, 3)) (kk : ∀ (H1 : Heap) (locs1 : List Loc), cd_Z G h' H0 H1 locs1 → W p l e R s m args below meth c H1 locs1 cells slots Q (F0 m (pc + 3) ls rest)) : W p l e R s m args below meth c H locs cells slots Q (F0 m pc ls (.int x :: .ref (G.2.2.2.2 + q) :: rest)) :=
  va_put (D := G.1) (ci := 0) (C := RX0) (T := TX0) (N := 16) (ty := .int) S.1 S.2.1 S.2.2.2.2 cd_x0 tyX0 tyX0_ok nmX0 S.2.2.2.1 hK.1 hZ.1 (cd_W_D G h) hZ.2 q (cd_W_get (kn := (0, 0)) hq) rfl 6 (by decide) (S.2.2.2.2 _ hl) (fun _ z => z) rfl (tyX0_ok 6 (by decide)) (rfl) (rfl) (by decide) hdg (fun H1 locs1 z1 _ z3 => kk H1 locs1 ⟨by rw [he, ← cd_W_p0_6 hq]; exact z1, z3⟩)
theorem cd_put0_7 (S : CallFix p m c cc nL s args cd_T own) (hK : cd_K G s) (hZ : cd_Z G h H0 H locs) (hq : cd_is 0 q) {index : Nat} (hl : Cond.fieldLink own index (TX0 7).1 (TX0 7).2.1 (TX0 7).2.2.1 ∈ cd_T) {x : Int32} (he : h' = cd_u h q 7 x) (hdg : decode cc pc = .ok (.putfield index, 3)) (kk : ∀ (H1 : Heap) (locs1 : List Loc), cd_Z G h' H0 H1 locs1 → W p l e R s m args below meth c H1 locs1 cells slots Q (F0 m (pc + 3) ls rest)) : W p l e R s m args below meth c H locs cells slots Q (F0 m pc ls (.int x :: .ref (G.2.2.2.2 + q) :: rest)) :=
  va_put (D := G.1) (ci := 0) (C := RX0) (T := TX0) (N := 16) (ty := .int) S.1 S.2.1 S.2.2.2.2 cd_x0 tyX0 tyX0_ok nmX0 S.2.2.2.1 hK.1 hZ.1 (cd_W_D G h) hZ.2 q (cd_W_get (kn := (0, 0)) hq) rfl 7 (by decide) (S.2.2.2.2 _ hl) (fun _ z => z) rfl (tyX0_ok 7 (by decide)) (rfl) (rfl) (by decide) hdg (fun H1 locs1 z1 _ z3 => kk H1 locs1 ⟨by rw [he, ← cd_W_p0_7 hq]; exact z1, z3⟩)
theorem cd_put0_8 (S : CallFix p m c cc nL s args cd_T own) (hK : cd_K G s) (hZ : cd_Z G h H0 H locs) (hq : cd_is 0 q) {index : Nat} (hl : Cond.fieldLink own index (TX0 8).1 (TX0 8).2.1 (TX0 8).2.2.1 ∈ cd_T) {x : Int32} (he : h' = cd_u h q 8 x) (hdg : decode cc pc = .ok (.putfield index, 3)) (kk : ∀ (H1 : Heap) (locs1 : List Loc), cd_Z G h' H0 H1 locs1 → W p l e R s m args below meth c H1 locs1 cells slots Q (F0 m (pc + 3) ls rest)) : W p l e R s m args below meth c H locs cells slots Q (F0 m pc ls (.int x :: .ref (G.2.2.2.2 + q) :: rest)) :=
  va_put (D := G.1) (ci := 0) (C := RX0) (T := TX0) (N := 16) (ty := .int) S.1 S.2.1 S.2.2.2.2 cd_x0 tyX0 tyX0_ok nmX0 S.2.2.2.1 hK.1 hZ.1 (cd_W_D G h) hZ.2 q (cd_W_get (kn := (0, 0)) hq) rfl 8 (by decide) (S.2.2.2.2 _ hl) (fun _ z => z) rfl (tyX0_ok 8 (by decide)) (rfl) (rfl) (by decide) hdg (fun H1 locs1 z1 _ z3 => kk H1 locs1 ⟨by rw [he, ← cd_W_p0_8 hq]; exact z1, z3⟩)
theorem cd_put0_9 (S : CallFix p m c cc nL s args cd_T own) (hK : cd_K G s) (hZ : cd_Z G h H0 H locs) (hq : cd_is 0 q) {index : Nat} (hl : Cond.fieldLink own index (TX0 9).1 (TX0 9).2.1 (TX0 9).2.2.1 ∈ cd_T) {x : Int32} (he : h' = cd_u h q 9 x) (hdg : decode cc pc = .ok (.putfield index, 3)) (kk : ∀ (H1 : Heap) (locs1 : List Loc), cd_Z G h' H0 H1 locs1 → W p l e R s m args below meth c H1 locs1 cells slots Q (F0 m (pc + 3) ls rest)) : W p l e R s m args below meth c H locs cells slots Q (F0 m pc ls (.int x :: .ref (G.2.2.2.2 + q) :: rest)) :=
  va_put (D := G.1) (ci := 0) (C := RX0) (T := TX0) (N := 16) (ty := .int) S.1 S.2.1 S.2.2.2.2 cd_x0 tyX0 tyX0_ok nmX0 S.2.2.2.1 hK.1 hZ.1 (cd_W_D G h) hZ.2 q (cd_W_get (kn := (0, 0)) hq) rfl 9 (by decide) (S.2.2.2.2 _ hl) (fun _ z => z) rfl (tyX0_ok 9 (by decide)) (rfl) (rfl) (by decide) hdg (fun H1 locs1 z1 _ z3 => kk H1 locs1 ⟨by rw [he, ← cd_W_p0_9 hq]; exact z1, z3⟩)
theorem cd_get1 (S : CallFix p m c cc nL s args cd_T own) (hK : cd_K G s) (hZ : cd_Z G h H0 H locs) (hq : cd_is 1 q) (k : Nat) {index : Nat} (hl : Cond.fieldLink own index (TX1 k).1 (TX1 k).2.1 (TX1 k).2.2.1 ∈ cd_T) {v : Value} (hv : (cd_fs1 G.2.2.2.2 h q)[k]? = some v) (hdg : decode cc pc = .ok (.getfield index, 3)) (kk : W p l e R s m args below meth c H locs cells slots Q (F0 m (pc + 3) ls (v :: rest))) : W p l e R s m args below meth c H locs cells slots Q (F0 m pc ls (.ref (G.2.2.2.2 + q) :: rest)) :=
  va_get (D := G.1) (ci := 1) (C := RX1) (T := TX1) (N := 3) S.1 S.2.1 S.2.2.2.2 cd_x1 S.2.2.2.1 hK.1 hZ.1 q (cd_W_get (kn := (1, 0)) hq) rfl k (by have z := (List.getElem?_eq_some_iff.mp hv).1; exact z) (S.2.2.2.2 _ hl) (fun _ z => z) hv hdg kk
theorem cd_put1_0 (S : CallFix p m c cc nL s args cd_T own) (hK : cd_K G s) (hZ : cd_Z G h H0 H locs) (hq : cd_is 1 q) {index : Nat} (hl : Cond.fieldLink own index (TX1 0).1 (TX1 0).2.1 (TX1 0).2.2.1 ∈ cd_T) {x : Int32} (he : h' = cd_u h q 0 x) (hdg : decode cc pc = .ok (.putfield index, 3)) (kk : ∀ (H1 : Heap) (locs1 : List Loc), cd_Z G h' H0 H1 locs1 → W p l e R s m args below meth c H1 locs1 cells slots Q (F0 m (pc + 3) ls rest)) : W p l e R s m args below meth c H locs cells slots Q (F0 m pc ls (.int x :: .ref (G.2.2.2.2 + q) :: rest)) :=
  va_put (D := G.1) (ci := 1) (C := RX1) (T := TX1) (N := 3) (ty := .int) S.1 S.2.1 S.2.2.2.2 cd_x1 tyX1 tyX1_ok nmX1 S.2.2.2.1 hK.1 hZ.1 (cd_W_D G h) hZ.2 q (cd_W_get (kn := (1, 0)) hq) rfl 0 (by decide) (S.2.2.2.2 _ hl) (fun _ z => z) rfl (tyX1_ok 0 (by decide)) (rfl) (rfl) (by decide) hdg (fun H1 locs1 z1 _ z3 => kk H1 locs1 ⟨by rw [he, ← cd_W_p1_0 hq]; exact z1, z3⟩)
theorem cd_put1_1 (S : CallFix p m c cc nL s args cd_T own) (hK : cd_K G s) (hZ : cd_Z G h H0 H locs) (hq : cd_is 1 q) {index : Nat} (hl : Cond.fieldLink own index (TX1 1).1 (TX1 1).2.1 (TX1 1).2.2.1 ∈ cd_T) {x : Int32} (he : h' = cd_u h q 1 x) (hdg : decode cc pc = .ok (.putfield index, 3)) (kk : ∀ (H1 : Heap) (locs1 : List Loc), cd_Z G h' H0 H1 locs1 → W p l e R s m args below meth c H1 locs1 cells slots Q (F0 m (pc + 3) ls rest)) : W p l e R s m args below meth c H locs cells slots Q (F0 m pc ls (.int x :: .ref (G.2.2.2.2 + q) :: rest)) :=
  va_put (D := G.1) (ci := 1) (C := RX1) (T := TX1) (N := 3) (ty := .int) S.1 S.2.1 S.2.2.2.2 cd_x1 tyX1 tyX1_ok nmX1 S.2.2.2.1 hK.1 hZ.1 (cd_W_D G h) hZ.2 q (cd_W_get (kn := (1, 0)) hq) rfl 1 (by decide) (S.2.2.2.2 _ hl) (fun _ z => z) rfl (tyX1_ok 1 (by decide)) (rfl) (rfl) (by decide) hdg (fun H1 locs1 z1 _ z3 => kk H1 locs1 ⟨by rw [he, ← cd_W_p1_1 hq]; exact z1, z3⟩)
theorem cd_get2 (S : CallFix p m c cc nL s args cd_T own) (hK : cd_K G s) (hZ : cd_Z G h H0 H locs) (hq : cd_is 2 q) (k : Nat) {index : Nat} (hl : Cond.fieldLink own index (TX2 k).1 (TX2 k).2.1 (TX2 k).2.2.1 ∈ cd_T) {v : Value} (hv : (cd_fs2 G.2.2.2.2 h q)[k]? = some v) (hdg : decode cc pc = .ok (.getfield index, 3)) (kk : W p l e R s m args below meth c H locs cells slots Q (F0 m (pc + 3) ls (v :: rest))) : W p l e R s m args below meth c H locs cells slots Q (F0 m pc ls (.ref (G.2.2.2.2 + q) :: rest)) :=
  va_get (D := G.1) (ci := 2) (C := RX2) (T := TX2) (N := 8) S.1 S.2.1 S.2.2.2.2 cd_x2 S.2.2.2.1 hK.1 hZ.1 q (cd_W_get (kn := (2, 0)) hq) rfl k (by have z := (List.getElem?_eq_some_iff.mp hv).1; exact z) (S.2.2.2.2 _ hl) (fun _ z => z) hv hdg kk
theorem cd_put2_0 (S : CallFix p m c cc nL s args cd_T own) (hK : cd_K G s) (hZ : cd_Z G h H0 H locs) (hq : cd_is 2 q) {index : Nat} (hl : Cond.fieldLink own index (TX2 0).1 (TX2 0).2.1 (TX2 0).2.2.1 ∈ cd_T) {x : Int32} (he : h' = cd_u h q 0 x) (hdg : decode cc pc = .ok (.putfield index, 3)) (kk : ∀ (H1 : Heap) (locs1 : List Loc), cd_Z G h' H0 H1 locs1 → W p l e R s m args below meth c H1 locs1 cells slots Q (F0 m (pc + 3) ls rest)) : W p l e R s m args below meth c H locs cells slots Q (F0 m pc ls (.int x :: .ref (G.2.2.2.2 + q) :: rest)) :=
  va_put (D := G.1) (ci := 2) (C := RX2) (T := TX2) (N := 8) (ty := .int) S.1 S.2.1 S.2.2.2.2 cd_x2 tyX2 tyX2_ok nmX2 S.2.2.2.1 hK.1 hZ.1 (cd_W_D G h) hZ.2 q (cd_W_get (kn := (2, 0)) hq) rfl 0 (by decide) (S.2.2.2.2 _ hl) (fun _ z => z) rfl (tyX2_ok 0 (by decide)) (rfl) (rfl) (by decide) hdg (fun H1 locs1 z1 _ z3 => kk H1 locs1 ⟨by rw [he, ← cd_W_p2_0 hq]; exact z1, z3⟩)
theorem cd_put2_1 (S : CallFix p m c cc nL s args cd_T own) (hK : cd_K G s) (hZ : cd_Z G h H0 H locs) (hq : cd_is 2 q) {index : Nat} (hl : Cond.fieldLink own index (TX2 1).1 (TX2 1).2.1 (TX2 1).2.2.1 ∈ cd_T) {x : Int32} (he : h' = cd_u h q 1 x) (hdg : decode cc pc = .ok (.putfield index, 3)) (kk : ∀ (H1 : Heap) (locs1 : List Loc), cd_Z G h' H0 H1 locs1 → W p l e R s m args below meth c H1 locs1 cells slots Q (F0 m (pc + 3) ls rest)) : W p l e R s m args below meth c H locs cells slots Q (F0 m pc ls (.int x :: .ref (G.2.2.2.2 + q) :: rest)) :=
  va_put (D := G.1) (ci := 2) (C := RX2) (T := TX2) (N := 8) (ty := .int) S.1 S.2.1 S.2.2.2.2 cd_x2 tyX2 tyX2_ok nmX2 S.2.2.2.1 hK.1 hZ.1 (cd_W_D G h) hZ.2 q (cd_W_get (kn := (2, 0)) hq) rfl 1 (by decide) (S.2.2.2.2 _ hl) (fun _ z => z) rfl (tyX2_ok 1 (by decide)) (rfl) (rfl) (by decide) hdg (fun H1 locs1 z1 _ z3 => kk H1 locs1 ⟨by rw [he, ← cd_W_p2_1 hq]; exact z1, z3⟩)
theorem cd_put2_2 (S : CallFix p m c cc nL s args cd_T own) (hK : cd_K G s) (hZ : cd_Z G h H0 H locs) (hq : cd_is 2 q) {index : Nat} (hl : Cond.fieldLink own index (TX2 2).1 (TX2 2).2.1 (TX2 2).2.2.1 ∈ cd_T) {x : Int32} (he : h' = cd_u h q 2 x) (hdg : decode cc pc = .ok (.putfield index, 3)) (kk : ∀ (H1 : Heap) (locs1 : List Loc), cd_Z G h' H0 H1 locs1 → W p l e R s m args below meth c H1 locs1 cells slots Q (F0 m (pc + 3) ls rest)) : W p l e R s m args below meth c H locs cells slots Q (F0 m pc ls (.int x :: .ref (G.2.2.2.2 + q) :: rest)) :=
  va_put (D := G.1) (ci := 2) (C := RX2) (T := TX2) (N := 8) (ty := .int) S.1 S.2.1 S.2.2.2.2 cd_x2 tyX2 tyX2_ok nmX2 S.2.2.2.1 hK.1 hZ.1 (cd_W_D G h) hZ.2 q (cd_W_get (kn := (2, 0)) hq) rfl 2 (by decide) (S.2.2.2.2 _ hl) (fun _ z => z) rfl (tyX2_ok 2 (by decide)) (rfl) (rfl) (by decide) hdg (fun H1 locs1 z1 _ z3 => kk H1 locs1 ⟨by rw [he, ← cd_W_p2_2 hq]; exact z1, z3⟩)
theorem cd_get3 (S : CallFix p m c cc nL s args cd_T own) (hK : cd_K G s) (hZ : cd_Z G h H0 H locs) (hq : cd_is 3 q) (k : Nat) {index : Nat} (hl : Cond.fieldLink own index (TX3 k).1 (TX3 k).2.1 (TX3 k).2.2.1 ∈ cd_T) {v : Value} (hv : (cd_fs3 G.2.2.2.2 h q)[k]? = some v) (hdg : decode cc pc = .ok (.getfield index, 3)) (kk : W p l e R s m args below meth c H locs cells slots Q (F0 m (pc + 3) ls (v :: rest))) : W p l e R s m args below meth c H locs cells slots Q (F0 m pc ls (.ref (G.2.2.2.2 + q) :: rest)) :=
  va_get (D := G.1) (ci := 3) (C := RX3) (T := TX3) (N := 4) S.1 S.2.1 S.2.2.2.2 cd_x3 S.2.2.2.1 hK.1 hZ.1 q (cd_W_get (kn := (3, 0)) hq) rfl k (by have z := (List.getElem?_eq_some_iff.mp hv).1; exact z) (S.2.2.2.2 _ hl) (fun _ z => z) hv hdg kk
theorem cd_put3_0 (S : CallFix p m c cc nL s args cd_T own) (hK : cd_K G s) (hZ : cd_Z G h H0 H locs) (hq : cd_is 3 q) {index : Nat} (hl : Cond.fieldLink own index (TX3 0).1 (TX3 0).2.1 (TX3 0).2.2.1 ∈ cd_T) {x : Int32} (he : h' = cd_u h q 0 x) (hdg : decode cc pc = .ok (.putfield index, 3)) (kk : ∀ (H1 : Heap) (locs1 : List Loc), cd_Z G h' H0 H1 locs1 → W p l e R s m args below meth c H1 locs1 cells slots Q (F0 m (pc + 3) ls rest)) : W p l e R s m args below meth c H locs cells slots Q (F0 m pc ls (.int x :: .ref (G.2.2.2.2 + q) :: rest)) :=
  va_put (D := G.1) (ci := 3) (C := RX3) (T := TX3) (N := 4) (ty := .int) S.1 S.2.1 S.2.2.2.2 cd_x3 tyX3 tyX3_ok nmX3 S.2.2.2.1 hK.1 hZ.1 (cd_W_D G h) hZ.2 q (cd_W_get (kn := (3, 0)) hq) rfl 0 (by decide) (S.2.2.2.2 _ hl) (fun _ z => z) rfl (tyX3_ok 0 (by decide)) (rfl) (rfl) (by decide) hdg (fun H1 locs1 z1 _ z3 => kk H1 locs1 ⟨by rw [he, ← cd_W_p3_0 hq]; exact z1, z3⟩)
theorem cd_put3_1 (S : CallFix p m c cc nL s args cd_T own) (hK : cd_K G s) (hZ : cd_Z G h H0 H locs) (hq : cd_is 3 q) {index : Nat} (hl : Cond.fieldLink own index (TX3 1).1 (TX3 1).2.1 (TX3 1).2.2.1 ∈ cd_T) {x : Int32} (he : h' = cd_u h q 1 x) (hdg : decode cc pc = .ok (.putfield index, 3)) (kk : ∀ (H1 : Heap) (locs1 : List Loc), cd_Z G h' H0 H1 locs1 → W p l e R s m args below meth c H1 locs1 cells slots Q (F0 m (pc + 3) ls rest)) : W p l e R s m args below meth c H locs cells slots Q (F0 m pc ls (.int x :: .ref (G.2.2.2.2 + q) :: rest)) :=
  va_put (D := G.1) (ci := 3) (C := RX3) (T := TX3) (N := 4) (ty := .int) S.1 S.2.1 S.2.2.2.2 cd_x3 tyX3 tyX3_ok nmX3 S.2.2.2.1 hK.1 hZ.1 (cd_W_D G h) hZ.2 q (cd_W_get (kn := (3, 0)) hq) rfl 1 (by decide) (S.2.2.2.2 _ hl) (fun _ z => z) rfl (tyX3_ok 1 (by decide)) (rfl) (rfl) (by decide) hdg (fun H1 locs1 z1 _ z3 => kk H1 locs1 ⟨by rw [he, ← cd_W_p3_1 hq]; exact z1, z3⟩)
theorem cd_get4 (S : CallFix p m c cc nL s args cd_T own) (hK : cd_K G s) (hZ : cd_Z G h H0 H locs) (hq : cd_is 4 q) (k : Nat) {index : Nat} (hl : Cond.fieldLink own index (TX4 k).1 (TX4 k).2.1 (TX4 k).2.2.1 ∈ cd_T) {v : Value} (hv : (cd_fs4 G.2.2.2.2 h q)[k]? = some v) (hdg : decode cc pc = .ok (.getfield index, 3)) (kk : W p l e R s m args below meth c H locs cells slots Q (F0 m (pc + 3) ls (v :: rest))) : W p l e R s m args below meth c H locs cells slots Q (F0 m pc ls (.ref (G.2.2.2.2 + q) :: rest)) :=
  va_get (D := G.1) (ci := 4) (C := RX4) (T := TX4) (N := 11) S.1 S.2.1 S.2.2.2.2 cd_x4 S.2.2.2.1 hK.1 hZ.1 q (cd_W_get (kn := (4, 0)) hq) rfl k (by have z := (List.getElem?_eq_some_iff.mp hv).1; exact z) (S.2.2.2.2 _ hl) (fun _ z => z) hv hdg kk
theorem cd_put4_0 (S : CallFix p m c cc nL s args cd_T own) (hK : cd_K G s) (hZ : cd_Z G h H0 H locs) (hq : cd_is 4 q) {index : Nat} (hl : Cond.fieldLink own index (TX4 0).1 (TX4 0).2.1 (TX4 0).2.2.1 ∈ cd_T) {x : Int32} (he : h' = cd_u h q 0 x) (hdg : decode cc pc = .ok (.putfield index, 3)) (kk : ∀ (H1 : Heap) (locs1 : List Loc), cd_Z G h' H0 H1 locs1 → W p l e R s m args below meth c H1 locs1 cells slots Q (F0 m (pc + 3) ls rest)) : W p l e R s m args below meth c H locs cells slots Q (F0 m pc ls (.int x :: .ref (G.2.2.2.2 + q) :: rest)) :=
  va_put (D := G.1) (ci := 4) (C := RX4) (T := TX4) (N := 11) (ty := .int) S.1 S.2.1 S.2.2.2.2 cd_x4 tyX4 tyX4_ok nmX4 S.2.2.2.1 hK.1 hZ.1 (cd_W_D G h) hZ.2 q (cd_W_get (kn := (4, 0)) hq) rfl 0 (by decide) (S.2.2.2.2 _ hl) (fun _ z => z) rfl (tyX4_ok 0 (by decide)) (rfl) (rfl) (by decide) hdg (fun H1 locs1 z1 _ z3 => kk H1 locs1 ⟨by rw [he, ← cd_W_p4_0 hq]; exact z1, z3⟩)
theorem cd_put4_1 (S : CallFix p m c cc nL s args cd_T own) (hK : cd_K G s) (hZ : cd_Z G h H0 H locs) (hq : cd_is 4 q) {index : Nat} (hl : Cond.fieldLink own index (TX4 1).1 (TX4 1).2.1 (TX4 1).2.2.1 ∈ cd_T) {x : Int32} (he : h' = cd_u h q 1 x) (hdg : decode cc pc = .ok (.putfield index, 3)) (kk : ∀ (H1 : Heap) (locs1 : List Loc), cd_Z G h' H0 H1 locs1 → W p l e R s m args below meth c H1 locs1 cells slots Q (F0 m (pc + 3) ls rest)) : W p l e R s m args below meth c H locs cells slots Q (F0 m pc ls (.int x :: .ref (G.2.2.2.2 + q) :: rest)) :=
  va_put (D := G.1) (ci := 4) (C := RX4) (T := TX4) (N := 11) (ty := .int) S.1 S.2.1 S.2.2.2.2 cd_x4 tyX4 tyX4_ok nmX4 S.2.2.2.1 hK.1 hZ.1 (cd_W_D G h) hZ.2 q (cd_W_get (kn := (4, 0)) hq) rfl 1 (by decide) (S.2.2.2.2 _ hl) (fun _ z => z) rfl (tyX4_ok 1 (by decide)) (rfl) (rfl) (by decide) hdg (fun H1 locs1 z1 _ z3 => kk H1 locs1 ⟨by rw [he, ← cd_W_p4_1 hq]; exact z1, z3⟩)
theorem cd_put4_2 (S : CallFix p m c cc nL s args cd_T own) (hK : cd_K G s) (hZ : cd_Z G h H0 H locs) (hq : cd_is 4 q) {index : Nat} (hl : Cond.fieldLink own index (TX4 2).1 (TX4 2).2.1 (TX4 2).2.2.1 ∈ cd_T) {x : Int32} (he : h' = cd_u h q 2 x) (hdg : decode cc pc = .ok (.putfield index, 3)) (kk : ∀ (H1 : Heap) (locs1 : List Loc), cd_Z G h' H0 H1 locs1 → W p l e R s m args below meth c H1 locs1 cells slots Q (F0 m (pc + 3) ls rest)) : W p l e R s m args below meth c H locs cells slots Q (F0 m pc ls (.int x :: .ref (G.2.2.2.2 + q) :: rest)) :=
  va_put (D := G.1) (ci := 4) (C := RX4) (T := TX4) (N := 11) (ty := .int) S.1 S.2.1 S.2.2.2.2 cd_x4 tyX4 tyX4_ok nmX4 S.2.2.2.1 hK.1 hZ.1 (cd_W_D G h) hZ.2 q (cd_W_get (kn := (4, 0)) hq) rfl 2 (by decide) (S.2.2.2.2 _ hl) (fun _ z => z) rfl (tyX4_ok 2 (by decide)) (rfl) (rfl) (by decide) hdg (fun H1 locs1 z1 _ z3 => kk H1 locs1 ⟨by rw [he, ← cd_W_p4_2 hq]; exact z1, z3⟩)
theorem cd_put4_3 (S : CallFix p m c cc nL s args cd_T own) (hK : cd_K G s) (hZ : cd_Z G h H0 H locs) (hq : cd_is 4 q) {index : Nat} (hl : Cond.fieldLink own index (TX4 3).1 (TX4 3).2.1 (TX4 3).2.2.1 ∈ cd_T) {x : Int32} (he : h' = cd_u h q 3 x) (hdg : decode cc pc = .ok (.putfield index, 3)) (kk : ∀ (H1 : Heap) (locs1 : List Loc), cd_Z G h' H0 H1 locs1 → W p l e R s m args below meth c H1 locs1 cells slots Q (F0 m (pc + 3) ls rest)) : W p l e R s m args below meth c H locs cells slots Q (F0 m pc ls (.int x :: .ref (G.2.2.2.2 + q) :: rest)) :=
  va_put (D := G.1) (ci := 4) (C := RX4) (T := TX4) (N := 11) (ty := .int) S.1 S.2.1 S.2.2.2.2 cd_x4 tyX4 tyX4_ok nmX4 S.2.2.2.1 hK.1 hZ.1 (cd_W_D G h) hZ.2 q (cd_W_get (kn := (4, 0)) hq) rfl 3 (by decide) (S.2.2.2.2 _ hl) (fun _ z => z) rfl (tyX4_ok 3 (by decide)) (rfl) (rfl) (by decide) hdg (fun H1 locs1 z1 _ z3 => kk H1 locs1 ⟨by rw [he, ← cd_W_p4_3 hq]; exact z1, z3⟩)
theorem cd_put4_4 (S : CallFix p m c cc nL s args cd_T own) (hK : cd_K G s) (hZ : cd_Z G h H0 H locs) (hq : cd_is 4 q) {index : Nat} (hl : Cond.fieldLink own index (TX4 4).1 (TX4 4).2.1 (TX4 4).2.2.1 ∈ cd_T) {x : Int32} (he : h' = cd_u h q 4 x) (hdg : decode cc pc = .ok (.putfield index, 3)) (kk : ∀ (H1 : Heap) (locs1 : List Loc), cd_Z G h' H0 H1 locs1 → W p l e R s m args below meth c H1 locs1 cells slots Q (F0 m (pc + 3) ls rest)) : W p l e R s m args below meth c H locs cells slots Q (F0 m pc ls (.int x :: .ref (G.2.2.2.2 + q) :: rest)) :=
  va_put (D := G.1) (ci := 4) (C := RX4) (T := TX4) (N := 11) (ty := .int) S.1 S.2.1 S.2.2.2.2 cd_x4 tyX4 tyX4_ok nmX4 S.2.2.2.1 hK.1 hZ.1 (cd_W_D G h) hZ.2 q (cd_W_get (kn := (4, 0)) hq) rfl 4 (by decide) (S.2.2.2.2 _ hl) (fun _ z => z) rfl (tyX4_ok 4 (by decide)) (rfl) (rfl) (by decide) hdg (fun H1 locs1 z1 _ z3 => kk H1 locs1 ⟨by rw [he, ← cd_W_p4_4 hq]; exact z1, z3⟩)
theorem cd_get5 (S : CallFix p m c cc nL s args cd_T own) (hK : cd_K G s) (hZ : cd_Z G h H0 H locs) (hq : cd_is 5 q) (k : Nat) {index : Nat} (hl : Cond.fieldLink own index (TX5 k).1 (TX5 k).2.1 (TX5 k).2.2.1 ∈ cd_T) {v : Value} (hv : (cd_fs5 G.2.2.2.2 h q)[k]? = some v) (hdg : decode cc pc = .ok (.getfield index, 3)) (kk : W p l e R s m args below meth c H locs cells slots Q (F0 m (pc + 3) ls (v :: rest))) : W p l e R s m args below meth c H locs cells slots Q (F0 m pc ls (.ref (G.2.2.2.2 + q) :: rest)) :=
  va_get (D := G.1) (ci := 5) (C := RX5) (T := TX5) (N := 4) S.1 S.2.1 S.2.2.2.2 cd_x5 S.2.2.2.1 hK.1 hZ.1 q (cd_W_get (kn := (5, 0)) hq) rfl k (by have z := (List.getElem?_eq_some_iff.mp hv).1; exact z) (S.2.2.2.2 _ hl) (fun _ z => z) hv hdg kk
theorem cd_put5_0 (S : CallFix p m c cc nL s args cd_T own) (hK : cd_K G s) (hZ : cd_Z G h H0 H locs) (hq : cd_is 5 q) {index : Nat} (hl : Cond.fieldLink own index (TX5 0).1 (TX5 0).2.1 (TX5 0).2.2.1 ∈ cd_T) {x : Int32} (he : h' = cd_u h q 0 x) (hdg : decode cc pc = .ok (.putfield index, 3)) (kk : ∀ (H1 : Heap) (locs1 : List Loc), cd_Z G h' H0 H1 locs1 → W p l e R s m args below meth c H1 locs1 cells slots Q (F0 m (pc + 3) ls rest)) : W p l e R s m args below meth c H locs cells slots Q (F0 m pc ls (.int x :: .ref (G.2.2.2.2 + q) :: rest)) :=
  va_put (D := G.1) (ci := 5) (C := RX5) (T := TX5) (N := 4) (ty := .int) S.1 S.2.1 S.2.2.2.2 cd_x5 tyX5 tyX5_ok nmX5 S.2.2.2.1 hK.1 hZ.1 (cd_W_D G h) hZ.2 q (cd_W_get (kn := (5, 0)) hq) rfl 0 (by decide) (S.2.2.2.2 _ hl) (fun _ z => z) rfl (tyX5_ok 0 (by decide)) (rfl) (rfl) (by decide) hdg (fun H1 locs1 z1 _ z3 => kk H1 locs1 ⟨by rw [he, ← cd_W_p5_0 hq]; exact z1, z3⟩)
theorem cd_get6 (S : CallFix p m c cc nL s args cd_T own) (hK : cd_K G s) (hZ : cd_Z G h H0 H locs) (hq : cd_is 6 q) (k : Nat) {index : Nat} (hl : Cond.fieldLink own index (TX6 k).1 (TX6 k).2.1 (TX6 k).2.2.1 ∈ cd_T) {v : Value} (hv : (cd_fs6 G.2.2.2.2 h q)[k]? = some v) (hdg : decode cc pc = .ok (.getfield index, 3)) (kk : W p l e R s m args below meth c H locs cells slots Q (F0 m (pc + 3) ls (v :: rest))) : W p l e R s m args below meth c H locs cells slots Q (F0 m pc ls (.ref (G.2.2.2.2 + q) :: rest)) :=
  va_get (D := G.1) (ci := 6) (C := RX6) (T := TX6) (N := 8) S.1 S.2.1 S.2.2.2.2 cd_x6 S.2.2.2.1 hK.1 hZ.1 q (cd_W_get (kn := (6, 0)) hq) rfl k (by have z := (List.getElem?_eq_some_iff.mp hv).1; exact z) (S.2.2.2.2 _ hl) (fun _ z => z) hv hdg kk
theorem cd_put6_0 (S : CallFix p m c cc nL s args cd_T own) (hK : cd_K G s) (hZ : cd_Z G h H0 H locs) (hq : cd_is 6 q) {index : Nat} (hl : Cond.fieldLink own index (TX6 0).1 (TX6 0).2.1 (TX6 0).2.2.1 ∈ cd_T) {x : Int32} (he : h' = cd_u h q 0 x) (hdg : decode cc pc = .ok (.putfield index, 3)) (kk : ∀ (H1 : Heap) (locs1 : List Loc), cd_Z G h' H0 H1 locs1 → W p l e R s m args below meth c H1 locs1 cells slots Q (F0 m (pc + 3) ls rest)) : W p l e R s m args below meth c H locs cells slots Q (F0 m pc ls (.int x :: .ref (G.2.2.2.2 + q) :: rest)) :=
  va_put (D := G.1) (ci := 6) (C := RX6) (T := TX6) (N := 8) (ty := .int) S.1 S.2.1 S.2.2.2.2 cd_x6 tyX6 tyX6_ok nmX6 S.2.2.2.1 hK.1 hZ.1 (cd_W_D G h) hZ.2 q (cd_W_get (kn := (6, 0)) hq) rfl 0 (by decide) (S.2.2.2.2 _ hl) (fun _ z => z) rfl (tyX6_ok 0 (by decide)) (rfl) (rfl) (by decide) hdg (fun H1 locs1 z1 _ z3 => kk H1 locs1 ⟨by rw [he, ← cd_W_p6_0 hq]; exact z1, z3⟩)
theorem cd_put6_1 (S : CallFix p m c cc nL s args cd_T own) (hK : cd_K G s) (hZ : cd_Z G h H0 H locs) (hq : cd_is 6 q) {index : Nat} (hl : Cond.fieldLink own index (TX6 1).1 (TX6 1).2.1 (TX6 1).2.2.1 ∈ cd_T) {x : Int32} (he : h' = cd_u h q 1 x) (hdg : decode cc pc = .ok (.putfield index, 3)) (kk : ∀ (H1 : Heap) (locs1 : List Loc), cd_Z G h' H0 H1 locs1 → W p l e R s m args below meth c H1 locs1 cells slots Q (F0 m (pc + 3) ls rest)) : W p l e R s m args below meth c H locs cells slots Q (F0 m pc ls (.int x :: .ref (G.2.2.2.2 + q) :: rest)) :=
  va_put (D := G.1) (ci := 6) (C := RX6) (T := TX6) (N := 8) (ty := .int) S.1 S.2.1 S.2.2.2.2 cd_x6 tyX6 tyX6_ok nmX6 S.2.2.2.1 hK.1 hZ.1 (cd_W_D G h) hZ.2 q (cd_W_get (kn := (6, 0)) hq) rfl 1 (by decide) (S.2.2.2.2 _ hl) (fun _ z => z) rfl (tyX6_ok 1 (by decide)) (rfl) (rfl) (by decide) hdg (fun H1 locs1 z1 _ z3 => kk H1 locs1 ⟨by rw [he, ← cd_W_p6_1 hq]; exact z1, z3⟩)
theorem cd_put6_6 (S : CallFix p m c cc nL s args cd_T own) (hK : cd_K G s) (hZ : cd_Z G h H0 H locs) (hq : cd_is 6 q) {index : Nat} (hl : Cond.fieldLink own index (TX6 6).1 (TX6 6).2.1 (TX6 6).2.2.1 ∈ cd_T) {x : Int32} (he : h' = cd_u h q 6 x) (hdg : decode cc pc = .ok (.putfield index, 3)) (kk : ∀ (H1 : Heap) (locs1 : List Loc), cd_Z G h' H0 H1 locs1 → W p l e R s m args below meth c H1 locs1 cells slots Q (F0 m (pc + 3) ls rest)) : W p l e R s m args below meth c H locs cells slots Q (F0 m pc ls (.int x :: .ref (G.2.2.2.2 + q) :: rest)) :=
  va_put (D := G.1) (ci := 6) (C := RX6) (T := TX6) (N := 8) (ty := .int) S.1 S.2.1 S.2.2.2.2 cd_x6 tyX6 tyX6_ok nmX6 S.2.2.2.1 hK.1 hZ.1 (cd_W_D G h) hZ.2 q (cd_W_get (kn := (6, 0)) hq) rfl 6 (by decide) (S.2.2.2.2 _ hl) (fun _ z => z) rfl (tyX6_ok 6 (by decide)) (rfl) (rfl) (by decide) hdg (fun H1 locs1 z1 _ z3 => kk H1 locs1 ⟨by rw [he, ← cd_W_p6_6 hq]; exact z1, z3⟩)
theorem cd_put6_7 (S : CallFix p m c cc nL s args cd_T own) (hK : cd_K G s) (hZ : cd_Z G h H0 H locs) (hq : cd_is 6 q) {index : Nat} (hl : Cond.fieldLink own index (TX6 7).1 (TX6 7).2.1 (TX6 7).2.2.1 ∈ cd_T) {x : Int32} (he : h' = cd_u h q 7 x) (hdg : decode cc pc = .ok (.putfield index, 3)) (kk : ∀ (H1 : Heap) (locs1 : List Loc), cd_Z G h' H0 H1 locs1 → W p l e R s m args below meth c H1 locs1 cells slots Q (F0 m (pc + 3) ls rest)) : W p l e R s m args below meth c H locs cells slots Q (F0 m pc ls (.int x :: .ref (G.2.2.2.2 + q) :: rest)) :=
  va_put (D := G.1) (ci := 6) (C := RX6) (T := TX6) (N := 8) (ty := .int) S.1 S.2.1 S.2.2.2.2 cd_x6 tyX6 tyX6_ok nmX6 S.2.2.2.1 hK.1 hZ.1 (cd_W_D G h) hZ.2 q (cd_W_get (kn := (6, 0)) hq) rfl 7 (by decide) (S.2.2.2.2 _ hl) (fun _ z => z) rfl (tyX6_ok 7 (by decide)) (rfl) (rfl) (by decide) hdg (fun H1 locs1 z1 _ z3 => kk H1 locs1 ⟨by rw [he, ← cd_W_p6_7 hq]; exact z1, z3⟩)
theorem cd_get7 (S : CallFix p m c cc nL s args cd_T own) (hK : cd_K G s) (hZ : cd_Z G h H0 H locs) (hq : cd_is 7 q) (k : Nat) {index : Nat} (hl : Cond.fieldLink own index (TX7 k).1 (TX7 k).2.1 (TX7 k).2.2.1 ∈ cd_T) {v : Value} (hv : (cd_fs7 G.2.2.2.2 h q)[k]? = some v) (hdg : decode cc pc = .ok (.getfield index, 3)) (kk : W p l e R s m args below meth c H locs cells slots Q (F0 m (pc + 3) ls (v :: rest))) : W p l e R s m args below meth c H locs cells slots Q (F0 m pc ls (.ref (G.2.2.2.2 + q) :: rest)) :=
  va_get (D := G.1) (ci := 7) (C := RX7) (T := TX7) (N := 4) S.1 S.2.1 S.2.2.2.2 cd_x7 S.2.2.2.1 hK.1 hZ.1 q (cd_W_get (kn := (7, 0)) hq) rfl k (by have z := (List.getElem?_eq_some_iff.mp hv).1; exact z) (S.2.2.2.2 _ hl) (fun _ z => z) hv hdg kk
theorem cd_get8 (S : CallFix p m c cc nL s args cd_T own) (hK : cd_K G s) (hZ : cd_Z G h H0 H locs) (hq : cd_is 8 q) (k : Nat) {index : Nat} (hl : Cond.fieldLink own index (TX8 k).1 (TX8 k).2.1 (TX8 k).2.2.1 ∈ cd_T) {v : Value} (hv : (cd_fs8 G.2.2.2.2 h q)[k]? = some v) (hdg : decode cc pc = .ok (.getfield index, 3)) (kk : W p l e R s m args below meth c H locs cells slots Q (F0 m (pc + 3) ls (v :: rest))) : W p l e R s m args below meth c H locs cells slots Q (F0 m pc ls (.ref (G.2.2.2.2 + q) :: rest)) :=
  va_get (D := G.1) (ci := 8) (C := RX8) (T := TX8) (N := 18) S.1 S.2.1 S.2.2.2.2 cd_x8 S.2.2.2.1 hK.1 hZ.1 q (cd_W_get (kn := (8, 0)) hq) rfl k (by have z := (List.getElem?_eq_some_iff.mp hv).1; exact z) (S.2.2.2.2 _ hl) (fun _ z => z) hv hdg kk
theorem cd_put8_3 (S : CallFix p m c cc nL s args cd_T own) (hK : cd_K G s) (hZ : cd_Z G h H0 H locs) (hq : cd_is 8 q) {index : Nat} (hl : Cond.fieldLink own index (TX8 3).1 (TX8 3).2.1 (TX8 3).2.2.1 ∈ cd_T) {x : Int32} (he : h' = cd_u h q 3 x) (hdg : decode cc pc = .ok (.putfield index, 3)) (kk : ∀ (H1 : Heap) (locs1 : List Loc), cd_Z G h' H0 H1 locs1 → W p l e R s m args below meth c H1 locs1 cells slots Q (F0 m (pc + 3) ls rest)) : W p l e R s m args below meth c H locs cells slots Q (F0 m pc ls (.int x :: .ref (G.2.2.2.2 + q) :: rest)) :=
  va_put (D := G.1) (ci := 8) (C := RX8) (T := TX8) (N := 18) (ty := .int) S.1 S.2.1 S.2.2.2.2 cd_x8 tyX8 tyX8_ok nmX8 S.2.2.2.1 hK.1 hZ.1 (cd_W_D G h) hZ.2 q (cd_W_get (kn := (8, 0)) hq) rfl 3 (by decide) (S.2.2.2.2 _ hl) (fun _ z => z) rfl (tyX8_ok 3 (by decide)) (rfl) (rfl) (by decide) hdg (fun H1 locs1 z1 _ z3 => kk H1 locs1 ⟨by rw [he, ← cd_W_p8_3 hq]; exact z1, z3⟩)
theorem cd_put8_6 (S : CallFix p m c cc nL s args cd_T own) (hK : cd_K G s) (hZ : cd_Z G h H0 H locs) (hq : cd_is 8 q) {index : Nat} (hl : Cond.fieldLink own index (TX8 6).1 (TX8 6).2.1 (TX8 6).2.2.1 ∈ cd_T) {x : Int32} (he : h' = cd_u h q 6 x) (hdg : decode cc pc = .ok (.putfield index, 3)) (kk : ∀ (H1 : Heap) (locs1 : List Loc), cd_Z G h' H0 H1 locs1 → W p l e R s m args below meth c H1 locs1 cells slots Q (F0 m (pc + 3) ls rest)) : W p l e R s m args below meth c H locs cells slots Q (F0 m pc ls (.int x :: .ref (G.2.2.2.2 + q) :: rest)) :=
  va_put (D := G.1) (ci := 8) (C := RX8) (T := TX8) (N := 18) (ty := .int) S.1 S.2.1 S.2.2.2.2 cd_x8 tyX8 tyX8_ok nmX8 S.2.2.2.1 hK.1 hZ.1 (cd_W_D G h) hZ.2 q (cd_W_get (kn := (8, 0)) hq) rfl 6 (by decide) (S.2.2.2.2 _ hl) (fun _ z => z) rfl (tyX8_ok 6 (by decide)) (rfl) (rfl) (by decide) hdg (fun H1 locs1 z1 _ z3 => kk H1 locs1 ⟨by rw [he, ← cd_W_p8_6 hq]; exact z1, z3⟩)
theorem cd_put8_9 (S : CallFix p m c cc nL s args cd_T own) (hK : cd_K G s) (hZ : cd_Z G h H0 H locs) (hq : cd_is 8 q) {index : Nat} (hl : Cond.fieldLink own index (TX8 9).1 (TX8 9).2.1 (TX8 9).2.2.1 ∈ cd_T) {x : Int32} (he : h' = cd_u h q 9 x) (hdg : decode cc pc = .ok (.putfield index, 3)) (kk : ∀ (H1 : Heap) (locs1 : List Loc), cd_Z G h' H0 H1 locs1 → W p l e R s m args below meth c H1 locs1 cells slots Q (F0 m (pc + 3) ls rest)) : W p l e R s m args below meth c H locs cells slots Q (F0 m pc ls (.int x :: .ref (G.2.2.2.2 + q) :: rest)) :=
  va_put (D := G.1) (ci := 8) (C := RX8) (T := TX8) (N := 18) (ty := .int) S.1 S.2.1 S.2.2.2.2 cd_x8 tyX8 tyX8_ok nmX8 S.2.2.2.1 hK.1 hZ.1 (cd_W_D G h) hZ.2 q (cd_W_get (kn := (8, 0)) hq) rfl 9 (by decide) (S.2.2.2.2 _ hl) (fun _ z => z) rfl (tyX8_ok 9 (by decide)) (rfl) (rfl) (by decide) hdg (fun H1 locs1 z1 _ z3 => kk H1 locs1 ⟨by rw [he, ← cd_W_p8_9 hq]; exact z1, z3⟩)
theorem cd_put8_14 (S : CallFix p m c cc nL s args cd_T own) (hK : cd_K G s) (hZ : cd_Z G h H0 H locs) (hq : cd_is 8 q) {index : Nat} (hl : Cond.fieldLink own index (TX8 14).1 (TX8 14).2.1 (TX8 14).2.2.1 ∈ cd_T) {x : Int32} (he : h' = cd_u h q 14 x) (hdg : decode cc pc = .ok (.putfield index, 3)) (kk : ∀ (H1 : Heap) (locs1 : List Loc), cd_Z G h' H0 H1 locs1 → W p l e R s m args below meth c H1 locs1 cells slots Q (F0 m (pc + 3) ls rest)) : W p l e R s m args below meth c H locs cells slots Q (F0 m pc ls (.int x :: .ref (G.2.2.2.2 + q) :: rest)) :=
  va_put (D := G.1) (ci := 8) (C := RX8) (T := TX8) (N := 18) (ty := .int) S.1 S.2.1 S.2.2.2.2 cd_x8 tyX8 tyX8_ok nmX8 S.2.2.2.1 hK.1 hZ.1 (cd_W_D G h) hZ.2 q (cd_W_get (kn := (8, 0)) hq) rfl 14 (by decide) (S.2.2.2.2 _ hl) (fun _ z => z) rfl (tyX8_ok 14 (by decide)) (rfl) (rfl) (by decide) hdg (fun H1 locs1 z1 _ z3 => kk H1 locs1 ⟨by rw [he, ← cd_W_p8_14 hq]; exact z1, z3⟩)
theorem cd_put8_15 (S : CallFix p m c cc nL s args cd_T own) (hK : cd_K G s) (hZ : cd_Z G h H0 H locs) (hq : cd_is 8 q) {index : Nat} (hl : Cond.fieldLink own index (TX8 15).1 (TX8 15).2.1 (TX8 15).2.2.1 ∈ cd_T) {x : Int32} (he : h' = cd_u h q 15 x) (hdg : decode cc pc = .ok (.putfield index, 3)) (kk : ∀ (H1 : Heap) (locs1 : List Loc), cd_Z G h' H0 H1 locs1 → W p l e R s m args below meth c H1 locs1 cells slots Q (F0 m (pc + 3) ls rest)) : W p l e R s m args below meth c H locs cells slots Q (F0 m pc ls (.int x :: .ref (G.2.2.2.2 + q) :: rest)) :=
  va_put (D := G.1) (ci := 8) (C := RX8) (T := TX8) (N := 18) (ty := .int) S.1 S.2.1 S.2.2.2.2 cd_x8 tyX8 tyX8_ok nmX8 S.2.2.2.1 hK.1 hZ.1 (cd_W_D G h) hZ.2 q (cd_W_get (kn := (8, 0)) hq) rfl 15 (by decide) (S.2.2.2.2 _ hl) (fun _ z => z) rfl (tyX8_ok 15 (by decide)) (rfl) (rfl) (by decide) hdg (fun H1 locs1 z1 _ z3 => kk H1 locs1 ⟨by rw [he, ← cd_W_p8_15 hq]; exact z1, z3⟩)
theorem cd_put8_16 (S : CallFix p m c cc nL s args cd_T own) (hK : cd_K G s) (hZ : cd_Z G h H0 H locs) (hq : cd_is 8 q) {index : Nat} (hl : Cond.fieldLink own index (TX8 16).1 (TX8 16).2.1 (TX8 16).2.2.1 ∈ cd_T) {x : Int32} (he : h' = cd_u h q 16 x) (hdg : decode cc pc = .ok (.putfield index, 3)) (kk : ∀ (H1 : Heap) (locs1 : List Loc), cd_Z G h' H0 H1 locs1 → W p l e R s m args below meth c H1 locs1 cells slots Q (F0 m (pc + 3) ls rest)) : W p l e R s m args below meth c H locs cells slots Q (F0 m pc ls (.int x :: .ref (G.2.2.2.2 + q) :: rest)) :=
  va_put (D := G.1) (ci := 8) (C := RX8) (T := TX8) (N := 18) (ty := .int) S.1 S.2.1 S.2.2.2.2 cd_x8 tyX8 tyX8_ok nmX8 S.2.2.2.1 hK.1 hZ.1 (cd_W_D G h) hZ.2 q (cd_W_get (kn := (8, 0)) hq) rfl 16 (by decide) (S.2.2.2.2 _ hl) (fun _ z => z) rfl (tyX8_ok 16 (by decide)) (rfl) (rfl) (by decide) hdg (fun H1 locs1 z1 _ z3 => kk H1 locs1 ⟨by rw [he, ← cd_W_p8_16 hq]; exact z1, z3⟩)
theorem cd_put8_17 (S : CallFix p m c cc nL s args cd_T own) (hK : cd_K G s) (hZ : cd_Z G h H0 H locs) {index : Nat} (hl : Cond.fieldLink own index (TX8 17).1 (TX8 17).2.1 (TX8 17).2.2.1 ∈ cd_T) {x : Int64} (he : h' = cd_ul h x) (hdg : decode cc pc = .ok (.putfield index, 3)) (kk : ∀ (H1 : Heap) (locs1 : List Loc), cd_Z G h' H0 H1 locs1 → W p l e R s m args below meth c H1 locs1 cells slots Q (F0 m (pc + 3) ls rest)) : W p l e R s m args below meth c H locs cells slots Q (F0 m pc ls (.long x :: .ref (G.2.2.2.2 + 404) :: rest)) :=
  va_put (D := G.1) (ci := 8) (C := RX8) (T := TX8) (N := 18) (ty := .long) S.1 S.2.1 S.2.2.2.2 cd_x8 tyX8 tyX8_ok nmX8 S.2.2.2.1 hK.1 hZ.1 (cd_W_D G h) hZ.2 404 (cd_W_get (kn := (8, 0)) (by decide +kernel)) rfl 17 (by decide) (S.2.2.2.2 _ hl) (fun _ z => z) rfl (tyX8_ok 17 (by decide)) rfl rfl (by decide) hdg (fun H1 locs1 z1 _ z3 => kk H1 locs1 ⟨by rw [he, ← cd_W_p8_17]; exact z1, z3⟩)
theorem cd_iald (S : CallFix p m c cc nL s args cd_T own) (hK : cd_K G s) (hZ : cd_Z G h H0 H locs) {n : Nat} (hq : cd_ar n q) {i : Int32} (hi : cd_ix i n = true) (hdg : decode cc pc = .ok (.iaload, 1)) (kk : W p l e R s m args below meth c H locs cells slots Q (F0 m (pc + 1) ls (.int (cd_g h q i.toNatClampNeg) :: rest))) : W p l e R s m args below meth c H locs cells slots Q (F0 m pc ls (.int i :: .ref (G.2.2.2.2 + q) :: rest)) :=
  va_iald (D := G.1) (cA := G.2.1) (n := n) (f := fun j => cd_g h q j) S.1 S.2.1 hK.1 hZ.1 q 0 (cd_W_get (kn := (11, n)) hq) rfl (cd_ix_in hi) hdg kk
theorem cd_iast (S : CallFix p m c cc nL s args cd_T own) (hK : cd_K G s) (hZ : cd_Z G h H0 H locs) {n : Nat} (hq : cd_ar n q) {i x : Int32} (hi : cd_ix i n = true) (he : h' = cd_u h q i.toNatClampNeg x) (hdg : decode cc pc = .ok (.iastore, 1)) (kk : ∀ (H1 : Heap) (locs1 : List Loc), cd_Z G h' H0 H1 locs1 → W p l e R s m args below meth c H1 locs1 cells slots Q (F0 m (pc + 1) ls rest)) : W p l e R s m args below meth c H locs cells slots Q (F0 m pc ls (.int x :: .int i :: .ref (G.2.2.2.2 + q) :: rest)) :=
  va_iast (D := G.1) (cA := G.2.1) (n := n) (f := fun j => cd_g h q j) S.1 S.2.1 hK.1 hZ.1 (cd_W_D G h) hZ.2 q 0 (cd_W_get (kn := (11, n)) hq) rfl (cd_ix_in hi) hdg (fun H1 locs1 z1 _ z3 => kk H1 locs1 ⟨by rw [he, ← cd_W_ai hq]; exact z1, z3⟩)
theorem cd_aald9 (S : CallFix p m c cc nL s args cd_T own) (hK : cd_K G s) (hZ : cd_Z G h H0 H locs) (hq : cd_is 9 q) {i : Int32} (hi : cd_ix i 6 = true) (hdg : decode cc pc = .ok (.aaload, 1)) (kk : W p l e R s m args below meth c H locs cells slots Q (F0 m (pc + 1) ls (.ref (G.2.2.2.2 + (q + 8 + 7 * i.toNatClampNeg)) :: rest))) : W p l e R s m args below meth c H locs cells slots Q (F0 m pc ls (.int i :: .ref (G.2.2.2.2 + q) :: rest)) :=
  va_aldq (D := G.1) (cA := G.2.2.1) (C := RX0) (n := 6) (f := fun i => some (G.2.2.2.2 + (q + 8 + 7 * i))) S.1 S.2.1 hK.1 hZ.1 q 1 (cd_W_get (kn := (9, 0)) hq) rfl (cd_ix_in hi) hdg kk
theorem cd_aald10 (S : CallFix p m c cc nL s args cd_T own) (hK : cd_K G s) (hZ : cd_Z G h H0 H locs) (hq : cd_is 10 q) {i : Int32} (hi : cd_ix i 6 = true) (hdg : decode cc pc = .ok (.aaload, 1)) (kk : W p l e R s m args below meth c H locs cells slots Q (F0 m (pc + 1) ls (.ref (G.2.2.2.2 + (q + 1 + 56 * i.toNatClampNeg)) :: rest))) : W p l e R s m args below meth c H locs cells slots Q (F0 m pc ls (.int i :: .ref (G.2.2.2.2 + q) :: rest)) :=
  va_aldq (D := G.1) (cA := G.2.2.2.1) (C := RX4) (n := 6) (f := fun i => some (G.2.2.2.2 + (q + 1 + 56 * i))) S.1 S.2.1 hK.1 hZ.1 q 2 (cd_W_get (kn := (10, 0)) hq) rfl (cd_ix_in hi) hdg kk
theorem cd_alen (S : CallFix p m c cc nL s args cd_T own) (hK : cd_K G s) (hZ : cd_Z G h H0 H locs) {n : Nat} (hq : cd_ar n q) (hdg : decode cc pc = .ok (.arraylength, 1)) (kk : W p l e R s m args below meth c H locs cells slots Q (F0 m (pc + 1) ls (.int (nI n) :: rest))) : W p l e R s m args below meth c H locs cells slots Q (F0 m pc ls (.ref (G.2.2.2.2 + q) :: rest)) :=
  va_alen (D := G.1) (cA := G.2.1) (x := (n, .inl (fun j => cd_g h q j))) (ty := .int) S.1 S.2.1 hK.1 hZ.1 q 0 (cd_W_get (kn := (11, n)) hq) rfl rfl hdg kk
theorem cd_copy (S : CallFix p m c cc nL s args cd_T own) (hK : cd_K G s) (hZ : cd_Z G h H0 H locs) (hsz : ls.size = nL) {r n0 n1 : Nat} (hq : cd_ar n0 q) (hr : cd_ar n1 r) {sp dp n : Int32} (hc : cd_cq sp dp n n0 n1 = true) (he : h' = cd_cp h q sp.toNatClampNeg r dp.toNatClampNeg n.toNatClampNeg) {index : Nat} (hl : Cond.methodLink own index arraycopyName ∈ cd_T) (hl2 : Cond.native arraycopyName ∈ cd_T) (hl3 : Cond.static arraycopyName ∈ cd_T) (hl4 : Cond.initialized "java/lang/System" ∈ cd_T) (hf : 1 ≤ R.frames) (hlo : (rest.map fun v => v.category).sum + (nativeFrameWords "java/lang/System" "arraycopy" 5 + 11) ≤ R.locals) (hdg : decode cc pc = .ok (.invokestatic index, 3)) (kk : ∀ (H1 : Heap) (locs1 : List Loc), cd_Z G h' H0 H1 locs1 → W p l e R s m args below meth c H1 locs1 cells slots Q (F0 m (pc + 3) ls rest)) : W p l e R s m args below meth c H locs cells slots Q (F0 m pc ls (.int n :: .int dp :: .ref (G.2.2.2.2 + r) :: .int sp :: .ref (G.2.2.2.2 + q) :: rest)) := by
  unfold cd_cq at hc
  rw [Bool.and_eq_true, Bool.and_eq_true, Bool.and_eq_true, Bool.and_eq_true, Bool.not_eq_true', Bool.not_eq_true', Bool.not_eq_true', decide_eq_false_iff_not, decide_eq_false_iff_not, decide_eq_false_iff_not, decide_eq_true_eq, decide_eq_true_eq] at hc
  obtain ⟨h1, h2, h3, h4, h5⟩ := hc
  exact va_copyi (D := G.1) (c0 := G.2.1) (c1 := G.2.1) (n0 := n0) (n1 := n1) (f := fun j => cd_g h q j) (g := fun j => cd_g h r j) (ty := .int) S.1 S.2.1 (S.2.2.1.trans hsz.symm) S.2.2.2.1 (S.2.2.2.2 _ hl) (S.2.2.2.2 _ hl2) (S.2.2.2.2 _ hl3) (S.2.2.2.2 _ hl4) hK.1 hZ.1 (cd_W_D G h) hZ.2 q r 0 0 (cd_W_get (kn := (11, n0)) hq) (cd_W_get (kn := (11, n1)) hr) rfl rfl rfl h1 h2 h3 h4 h5 (fun _ _ => rfl) hf hlo hdg (fun H1 locs1 z1 _ z3 => kk H1 locs1 ⟨by rw [he, ← cd_W_cp hr]; exact z1, z3⟩)
theorem cd_min (S : CallFix p m c cc nL s args cd_T own) (hsz : ls.size = nL) {index : Nat} (hl : Cond.methodLink own index Lib.Math.min.name ∈ cd_T) (hl2 : Cond.static Lib.Math.min.name ∈ cd_T) (hl3 : Cond.initialized "java/lang/Math" ∈ cd_T) (hl4 : Cond.code Lib.Math.min.name Lib.Math.min.code 2 (some .int) ∈ cd_T) (hf : 1 ≤ R.frames) (hlo : (rest.map fun v => v.category).sum + 13 ≤ R.locals) (hc : cells ≤ R.cells) (hs : slots ≤ R.slots) {x y : Int32} (hdg : decode cc pc = .ok (.invokestatic index, 3)) (kk : W p l e R s m args below meth c H locs cells slots Q (F0 m (pc + 3) ls (.int (if y < x then y else x) :: rest))) : W p l e R s m args below meth c H locs cells slots Q (F0 m pc ls (.int y :: .int x :: rest)) :=
  va_mmin S.1 S.2.1 (S.2.2.1.trans hsz.symm) S.2.2.2.1 (S.2.2.2.2 _ hl) (S.2.2.2.2 _ hl2) (S.2.2.2.2 _ hl3) (S.2.2.2.2 _ hl4) hf hlo hc hs hdg kk
theorem cd_cVi (S : CallFix p m c cc nL s args cd_T own) (hK : cd_K G s) (hZ : cd_Z G h H0 H locs) (hsz : ls.size = nL) {y : MethodName} {rm : Room} {As : List Value} {o : Int32 × cd_Hp} {bytes : ByteArray} {maxL n index : Nat} {ret : Option FieldType} (hM : cd_Mi l G y (Cond.code y bytes maxL ret :: cd_T) rm (.ref (G.2.2.2.2 + q) :: As) h o) (hV : cd_V y bytes maxL ret n) (hl : Cond.methodLink own index y ∈ cd_T) (hR : rm.frames + 1 ≤ R.frames ∧ 8 + (maxL + 11) + rm.locals ≤ R.locals) (hr0 : rm.cells = 0 ∧ rm.slots = 0) {ci : Nat} (hci : ci < 9) (hc : (vwCl[ci]?).map Prod.fst = some y.cls) (hq : cd_is ci q) (hn : As.length = n) {st : List Value} (hst : st = As.reverse ++ .ref (G.2.2.2.2 + q) :: rest) (hw : (rest.map fun v => v.category).sum ≤ 8) (hcs : cells ≤ R.cells ∧ slots ≤ R.slots) (hdg : decode cc pc = .ok (.invokevirtual index, 3)) (kk : ∀ (H1 : Heap) (locs1 : List Loc), cd_Z G o.2 H0 H1 locs1 → W p l e R s m args below meth c H1 locs1 cells slots Q (F0 m (pc + 3) ls (.int o.1 :: rest))) : W p l e R s m args below meth c H locs cells slots Q (F0 m pc ls st) := by
  subst hst
  exact va_calli (va_runV (g := F0 m pc ls (As.reverse ++ .ref (G.2.2.2.2 + q) :: rest)) (As := As) (rest := rest) S hM (hV.cw S hl hR hr0) ⟨cd_blind, cd_recv hK hZ.1 hci hc hq, cd_pre hK hZ.1⟩ rfl hn hsz rfl (lv_room hw) hdg hcs) hZ.2 (fun _ _ z => z) (fun _ z => z) (fun x u t H1 locs1 ht hvm hw hB hz1 hk1 hS => by cases hw; exact kk H1 locs1 ⟨by rw [← ht]; exact hB, hS⟩)
theorem cd_cSi (S : CallFix p m c cc nL s args cd_T own) (hK : cd_K G s) (hZ : cd_Z G h H0 H locs) (hsz : ls.size = nL) {y : MethodName} {rm : Room} {As : List Value} {o : Int32 × cd_Hp} {bytes : ByteArray} {maxL n index : Nat} {ret : Option FieldType} (hM : cd_Mi l G y (Cond.code y bytes maxL ret :: cd_T) rm As h o) (hV : cd_Vs y bytes maxL ret n) (hl : Cond.methodLink own index y ∈ cd_T) (hR : rm.frames + 1 ≤ R.frames ∧ 8 + (maxL + 11) + rm.locals ≤ R.locals) (hr0 : rm.cells = 0 ∧ rm.slots = 0) (hn : As.length = n) {st : List Value} (hst : st = As.reverse ++ rest) (hw : (rest.map fun v => v.category).sum ≤ 8) (hcs : cells ≤ R.cells ∧ slots ≤ R.slots) (hdg : decode cc pc = .ok (.invokestatic index, 3)) (kk : ∀ (H1 : Heap) (locs1 : List Loc), cd_Z G o.2 H0 H1 locs1 → W p l e R s m args below meth c H1 locs1 cells slots Q (F0 m (pc + 3) ls (.int o.1 :: rest))) : W p l e R s m args below meth c H locs cells slots Q (F0 m pc ls st) := by
  subst hst
  exact va_calli (va_runS (g := F0 m pc ls (As.reverse ++ rest)) (As := As) (rest := rest) S hM (hV.cw S hl hR hr0) ⟨cd_blind, cd_pre hK hZ.1⟩ rfl hn hsz rfl (lv_room hw) hdg hcs) hZ.2 (fun _ _ z => z) (fun _ z => z) (fun x u t H1 locs1 ht hvm hw hB hz1 hk1 hS => by cases hw; exact kk H1 locs1 ⟨by rw [← ht]; exact hB, hS⟩)
theorem cd_cNi (S : CallFix p m c cc nL s args cd_T own) (hK : cd_K G s) (hZ : cd_Z G h H0 H locs) (hsz : ls.size = nL) {y : MethodName} {rm : Room} {As : List Value} {o : Int32 × cd_Hp} {bytes : ByteArray} {maxL n index : Nat} {ret : Option FieldType} (hM : cd_Mi l G y (Cond.code y bytes maxL ret :: cd_T) rm As h o) (hV : cd_Vs y bytes maxL ret n) {host : String} (hl : va_Nw (.methodLinkNest own index y host) s) (hR : rm.frames + 1 ≤ R.frames ∧ 8 + (maxL + 11) + rm.locals ≤ R.locals) (hr0 : rm.cells = 0 ∧ rm.slots = 0) (hn : As.length = n) {st : List Value} (hst : st = As.reverse ++ rest) (hw : (rest.map fun v => v.category).sum ≤ 8) (hcs : cells ≤ R.cells ∧ slots ≤ R.slots) (hdg : decode cc pc = .ok (.invokestatic index, 3)) (kk : ∀ (H1 : Heap) (locs1 : List Loc), cd_Z G o.2 H0 H1 locs1 → W p l e R s m args below meth c H1 locs1 cells slots Q (F0 m (pc + 3) ls (.int o.1 :: rest))) : W p l e R s m args below meth c H locs cells slots Q (F0 m pc ls st) := by
  subst hst
  exact va_calli (va_runSN (g := F0 m pc ls (As.reverse ++ rest)) (As := As) (rest := rest) S hM (hV.cn S hl hR hr0) ⟨cd_blind, cd_pre hK hZ.1⟩ rfl hn hsz rfl (lv_room hw) hdg hcs) hZ.2 (fun _ _ z => z) (fun _ z => z) (fun x u t H1 locs1 ht hvm hw hB hz1 hk1 hS => by cases hw; exact kk H1 locs1 ⟨by rw [← ht]; exact hB, hS⟩)
theorem cd_cVl (S : CallFix p m c cc nL s args cd_T own) (hK : cd_K G s) (hZ : cd_Z G h H0 H locs) (hsz : ls.size = nL) {y : MethodName} {rm : Room} {As : List Value} {o : Int64 × cd_Hp} {bytes : ByteArray} {maxL n index : Nat} {ret : Option FieldType} (hM : cd_Ml l G y (Cond.code y bytes maxL ret :: cd_T) rm (.ref (G.2.2.2.2 + q) :: As) h o) (hV : cd_V y bytes maxL ret n) (hl : Cond.methodLink own index y ∈ cd_T) (hR : rm.frames + 1 ≤ R.frames ∧ 8 + (maxL + 11) + rm.locals ≤ R.locals) (hr0 : rm.cells = 0 ∧ rm.slots = 0) {ci : Nat} (hci : ci < 9) (hc : (vwCl[ci]?).map Prod.fst = some y.cls) (hq : cd_is ci q) (hn : As.length = n) {st : List Value} (hst : st = As.reverse ++ .ref (G.2.2.2.2 + q) :: rest) (hw : (rest.map fun v => v.category).sum ≤ 8) (hcs : cells ≤ R.cells ∧ slots ≤ R.slots) (hdg : decode cc pc = .ok (.invokevirtual index, 3)) (kk : ∀ (H1 : Heap) (locs1 : List Loc), cd_Z G o.2 H0 H1 locs1 → W p l e R s m args below meth c H1 locs1 cells slots Q (F0 m (pc + 3) ls (.long o.1 :: rest))) : W p l e R s m args below meth c H locs cells slots Q (F0 m pc ls st) := by
  subst hst
  exact va_calll (va_runV (g := F0 m pc ls (As.reverse ++ .ref (G.2.2.2.2 + q) :: rest)) (As := As) (rest := rest) S hM (hV.cw S hl hR hr0) ⟨cd_blind, cd_recv hK hZ.1 hci hc hq, cd_pre hK hZ.1⟩ rfl hn hsz rfl (lv_room hw) hdg hcs) hZ.2 (fun _ _ z => z) (fun _ z => z) (fun x u t H1 locs1 ht hvm hw hB hz1 hk1 hS => by cases hw; exact kk H1 locs1 ⟨by rw [← ht]; exact hB, hS⟩)
theorem cd_cSl (S : CallFix p m c cc nL s args cd_T own) (hK : cd_K G s) (hZ : cd_Z G h H0 H locs) (hsz : ls.size = nL) {y : MethodName} {rm : Room} {As : List Value} {o : Int64 × cd_Hp} {bytes : ByteArray} {maxL n index : Nat} {ret : Option FieldType} (hM : cd_Ml l G y (Cond.code y bytes maxL ret :: cd_T) rm As h o) (hV : cd_Vs y bytes maxL ret n) (hl : Cond.methodLink own index y ∈ cd_T) (hR : rm.frames + 1 ≤ R.frames ∧ 8 + (maxL + 11) + rm.locals ≤ R.locals) (hr0 : rm.cells = 0 ∧ rm.slots = 0) (hn : As.length = n) {st : List Value} (hst : st = As.reverse ++ rest) (hw : (rest.map fun v => v.category).sum ≤ 8) (hcs : cells ≤ R.cells ∧ slots ≤ R.slots) (hdg : decode cc pc = .ok (.invokestatic index, 3)) (kk : ∀ (H1 : Heap) (locs1 : List Loc), cd_Z G o.2 H0 H1 locs1 → W p l e R s m args below meth c H1 locs1 cells slots Q (F0 m (pc + 3) ls (.long o.1 :: rest))) : W p l e R s m args below meth c H locs cells slots Q (F0 m pc ls st) := by
  subst hst
  exact va_calll (va_runS (g := F0 m pc ls (As.reverse ++ rest)) (As := As) (rest := rest) S hM (hV.cw S hl hR hr0) ⟨cd_blind, cd_pre hK hZ.1⟩ rfl hn hsz rfl (lv_room hw) hdg hcs) hZ.2 (fun _ _ z => z) (fun _ z => z) (fun x u t H1 locs1 ht hvm hw hB hz1 hk1 hS => by cases hw; exact kk H1 locs1 ⟨by rw [← ht]; exact hB, hS⟩)
theorem cd_cNl (S : CallFix p m c cc nL s args cd_T own) (hK : cd_K G s) (hZ : cd_Z G h H0 H locs) (hsz : ls.size = nL) {y : MethodName} {rm : Room} {As : List Value} {o : Int64 × cd_Hp} {bytes : ByteArray} {maxL n index : Nat} {ret : Option FieldType} (hM : cd_Ml l G y (Cond.code y bytes maxL ret :: cd_T) rm As h o) (hV : cd_Vs y bytes maxL ret n) {host : String} (hl : va_Nw (.methodLinkNest own index y host) s) (hR : rm.frames + 1 ≤ R.frames ∧ 8 + (maxL + 11) + rm.locals ≤ R.locals) (hr0 : rm.cells = 0 ∧ rm.slots = 0) (hn : As.length = n) {st : List Value} (hst : st = As.reverse ++ rest) (hw : (rest.map fun v => v.category).sum ≤ 8) (hcs : cells ≤ R.cells ∧ slots ≤ R.slots) (hdg : decode cc pc = .ok (.invokestatic index, 3)) (kk : ∀ (H1 : Heap) (locs1 : List Loc), cd_Z G o.2 H0 H1 locs1 → W p l e R s m args below meth c H1 locs1 cells slots Q (F0 m (pc + 3) ls (.long o.1 :: rest))) : W p l e R s m args below meth c H locs cells slots Q (F0 m pc ls st) := by
  subst hst
  exact va_calll (va_runSN (g := F0 m pc ls (As.reverse ++ rest)) (As := As) (rest := rest) S hM (hV.cn S hl hR hr0) ⟨cd_blind, cd_pre hK hZ.1⟩ rfl hn hsz rfl (lv_room hw) hdg hcs) hZ.2 (fun _ _ z => z) (fun _ z => z) (fun x u t H1 locs1 ht hvm hw hB hz1 hk1 hS => by cases hw; exact kk H1 locs1 ⟨by rw [← ht]; exact hB, hS⟩)
theorem cd_cVv (S : CallFix p m c cc nL s args cd_T own) (hK : cd_K G s) (hZ : cd_Z G h H0 H locs) (hsz : ls.size = nL) {y : MethodName} {rm : Room} {As : List Value} {o : cd_Hp} {bytes : ByteArray} {maxL n index : Nat} {ret : Option FieldType} (hM : cd_Mv l G y (Cond.code y bytes maxL ret :: cd_T) rm (.ref (G.2.2.2.2 + q) :: As) h o) (hV : cd_V y bytes maxL ret n) (hl : Cond.methodLink own index y ∈ cd_T) (hR : rm.frames + 1 ≤ R.frames ∧ 8 + (maxL + 11) + rm.locals ≤ R.locals) (hr0 : rm.cells = 0 ∧ rm.slots = 0) {ci : Nat} (hci : ci < 9) (hc : (vwCl[ci]?).map Prod.fst = some y.cls) (hq : cd_is ci q) (hn : As.length = n) {st : List Value} (hst : st = As.reverse ++ .ref (G.2.2.2.2 + q) :: rest) (hw : (rest.map fun v => v.category).sum ≤ 8) (hcs : cells ≤ R.cells ∧ slots ≤ R.slots) (hdg : decode cc pc = .ok (.invokevirtual index, 3)) (kk : ∀ (H1 : Heap) (locs1 : List Loc), cd_Z G o H0 H1 locs1 → W p l e R s m args below meth c H1 locs1 cells slots Q (F0 m (pc + 3) ls (rest))) : W p l e R s m args below meth c H locs cells slots Q (F0 m pc ls st) := by
  subst hst
  exact va_callv (va_runV (g := F0 m pc ls (As.reverse ++ .ref (G.2.2.2.2 + q) :: rest)) (As := As) (rest := rest) S hM (hV.cw S hl hR hr0) ⟨cd_blind, cd_recv hK hZ.1 hci hc hq, cd_pre hK hZ.1⟩ rfl hn hsz rfl (lv_room hw) hdg hcs) hZ.2 (fun _ _ z => z) (fun _ z => z) (fun u t H1 locs1 ht hvm hw hB hz1 hk1 hS => kk H1 locs1 ⟨by rw [← ht]; exact hB, hS⟩)
theorem cd_cSv (S : CallFix p m c cc nL s args cd_T own) (hK : cd_K G s) (hZ : cd_Z G h H0 H locs) (hsz : ls.size = nL) {y : MethodName} {rm : Room} {As : List Value} {o : cd_Hp} {bytes : ByteArray} {maxL n index : Nat} {ret : Option FieldType} (hM : cd_Mv l G y (Cond.code y bytes maxL ret :: cd_T) rm As h o) (hV : cd_Vs y bytes maxL ret n) (hl : Cond.methodLink own index y ∈ cd_T) (hR : rm.frames + 1 ≤ R.frames ∧ 8 + (maxL + 11) + rm.locals ≤ R.locals) (hr0 : rm.cells = 0 ∧ rm.slots = 0) (hn : As.length = n) {st : List Value} (hst : st = As.reverse ++ rest) (hw : (rest.map fun v => v.category).sum ≤ 8) (hcs : cells ≤ R.cells ∧ slots ≤ R.slots) (hdg : decode cc pc = .ok (.invokestatic index, 3)) (kk : ∀ (H1 : Heap) (locs1 : List Loc), cd_Z G o H0 H1 locs1 → W p l e R s m args below meth c H1 locs1 cells slots Q (F0 m (pc + 3) ls (rest))) : W p l e R s m args below meth c H locs cells slots Q (F0 m pc ls st) := by
  subst hst
  exact va_callv (va_runS (g := F0 m pc ls (As.reverse ++ rest)) (As := As) (rest := rest) S hM (hV.cw S hl hR hr0) ⟨cd_blind, cd_pre hK hZ.1⟩ rfl hn hsz rfl (lv_room hw) hdg hcs) hZ.2 (fun _ _ z => z) (fun _ z => z) (fun u t H1 locs1 ht hvm hw hB hz1 hk1 hS => kk H1 locs1 ⟨by rw [← ht]; exact hB, hS⟩)
theorem cd_cNv (S : CallFix p m c cc nL s args cd_T own) (hK : cd_K G s) (hZ : cd_Z G h H0 H locs) (hsz : ls.size = nL) {y : MethodName} {rm : Room} {As : List Value} {o : cd_Hp} {bytes : ByteArray} {maxL n index : Nat} {ret : Option FieldType} (hM : cd_Mv l G y (Cond.code y bytes maxL ret :: cd_T) rm As h o) (hV : cd_Vs y bytes maxL ret n) {host : String} (hl : va_Nw (.methodLinkNest own index y host) s) (hR : rm.frames + 1 ≤ R.frames ∧ 8 + (maxL + 11) + rm.locals ≤ R.locals) (hr0 : rm.cells = 0 ∧ rm.slots = 0) (hn : As.length = n) {st : List Value} (hst : st = As.reverse ++ rest) (hw : (rest.map fun v => v.category).sum ≤ 8) (hcs : cells ≤ R.cells ∧ slots ≤ R.slots) (hdg : decode cc pc = .ok (.invokestatic index, 3)) (kk : ∀ (H1 : Heap) (locs1 : List Loc), cd_Z G o H0 H1 locs1 → W p l e R s m args below meth c H1 locs1 cells slots Q (F0 m (pc + 3) ls (rest))) : W p l e R s m args below meth c H locs cells slots Q (F0 m pc ls st) := by
  subst hst
  exact va_callv (va_runSN (g := F0 m pc ls (As.reverse ++ rest)) (As := As) (rest := rest) S hM (hV.cn S hl hR hr0) ⟨cd_blind, cd_pre hK hZ.1⟩ rfl hn hsz rfl (lv_room hw) hdg hcs) hZ.2 (fun _ _ z => z) (fun _ z => z) (fun u t H1 locs1 ht hvm hw hB hz1 hk1 hS => kk H1 locs1 ⟨by rw [← ht]; exact hB, hS⟩)
end CDR
theorem cd_ini {l : Launch} {G : cd_G} {y : MethodName} {rm : Room} {av : List Value} {h : cd_Hp} {o : Int32 × cd_Hp} {cc : ByteArray} {maxL : Nat} (hy : plainName y.cls = true) (hle : (lg_sl av).length ≤ maxL)
    (body : ∀ (p : Program) (e : Env) (s : State) (m : MethodId) (args : Array Value) (below : List Frame) (meth : Method) (c : Code) (Q : State → Prop) (ls : Array Slot), CallFix p m c cc maxL s args cd_T y.cls → cd_K G s → cd_Z G h s.heap s.heap [] → lv_has ls maxL (lv_args 0 av) →
      (∀ (X : Int32) (hX : cd_Hp) (H : Heap) (locs : List Loc) (pc : Nat) (ls : Array Slot), (X, hX) = o → cd_Z G hX s.heap H locs → decode cc pc = .ok (.ireturn, 1) → W p l e rm s m args below meth c H locs 0 0 Q (F0 m pc ls [.int X])) → W p l e rm s m args below meth c s.heap [] 0 0 Q (F0 m 0 ls [])) : cd_Mi l G y (Cond.code y cc maxL (some .int) :: cd_T) rm av h o := by
  refine Met.ofW (cc := cc) (maxL := maxL) (ret := (some .int)) hy rfl ?_
  intro p e s m args below meth c s₁ B hml hv
  obtain ⟨rfl, hP, hK⟩ := hv
  have hl := lv_entry av (n := maxL) hle
  rw [lg_entry_eq]
  refine body p e s m _ below meth c _ _ ⟨B.exec, B.bytes, hml, findClass_of_methodNamed B.named, fun w hw => atoms_spec (ws := Cond.code y cc maxL (some .int) :: cd_T) B.pre w (List.mem_cons_of_mem _ hw)⟩ hK ⟨hP, va_S.rf⟩ hl ?_
  · intro X hX H locs pc ls e1 hZ hd
    subst e1
    exact W.iret (v := X) B.exec B.bytes B.returns (fun t ht hW => ⟨⟨X, (), rfl, rfl, by show va_P _ _ _ t.heap; rw [ht]; exact hZ.1⟩, hZ.2.F ht⟩) hZ.2.2.2 hd
theorem cd_inz {l : Launch} {G : cd_G} {y : MethodName} {rm : Room} {av : List Value} {h : cd_Hp} {o : Int32 × cd_Hp} {cc : ByteArray} {maxL : Nat} (hy : plainName y.cls = true) (hle : (lg_sl av).length ≤ maxL)
    (body : ∀ (p : Program) (e : Env) (s : State) (m : MethodId) (args : Array Value) (below : List Frame) (meth : Method) (c : Code) (Q : State → Prop) (ls : Array Slot), CallFix p m c cc maxL s args cd_T y.cls → cd_K G s → cd_Z G h s.heap s.heap [] → lv_has ls maxL (lv_args 0 av) →
      (∀ (X : Int32) (hX : cd_Hp) (H : Heap) (locs : List Loc) (pc : Nat) (ls : Array Slot), cd_bo X = true → (X, hX) = o → cd_Z G hX s.heap H locs → decode cc pc = .ok (.ireturn, 1) → W p l e rm s m args below meth c H locs 0 0 Q (F0 m pc ls [.int X])) → W p l e rm s m args below meth c s.heap [] 0 0 Q (F0 m 0 ls [])) : cd_Mi l G y (Cond.code y cc maxL (some .boolean) :: cd_T) rm av h o := by
  refine Met.ofW (cc := cc) (maxL := maxL) (ret := (some .boolean)) hy rfl ?_
  intro p e s m args below meth c s₁ B hml hv
  obtain ⟨rfl, hP, hK⟩ := hv
  have hl := lv_entry av (n := maxL) hle
  rw [lg_entry_eq]
  refine body p e s m _ below meth c _ _ ⟨B.exec, B.bytes, hml, findClass_of_methodNamed B.named, fun w hw => atoms_spec (ws := Cond.code y cc maxL (some .boolean) :: cd_T) B.pre w (List.mem_cons_of_mem _ hw)⟩ hK ⟨hP, va_S.rf⟩ hl ?_
  · intro X hX H locs pc ls hbo e1 hZ hd
    subst e1
    exact W.zret (v := X) B.exec B.bytes B.returns (cd_bo_nar hbo) (fun t ht hW => ⟨⟨X, (), rfl, rfl, by show va_P _ _ _ t.heap; rw [ht]; exact hZ.1⟩, hZ.2.F ht⟩) hZ.2.2.2 hd
theorem cd_inl {l : Launch} {G : cd_G} {y : MethodName} {rm : Room} {av : List Value} {h : cd_Hp} {o : Int64 × cd_Hp} {cc : ByteArray} {maxL : Nat} (hy : plainName y.cls = true) (hle : (lg_sl av).length ≤ maxL)
    (body : ∀ (p : Program) (e : Env) (s : State) (m : MethodId) (args : Array Value) (below : List Frame) (meth : Method) (c : Code) (Q : State → Prop) (ls : Array Slot), CallFix p m c cc maxL s args cd_T y.cls → cd_K G s → cd_Z G h s.heap s.heap [] → lv_has ls maxL (lv_args 0 av) →
      (∀ (X : Int64) (hX : cd_Hp) (H : Heap) (locs : List Loc) (pc : Nat) (ls : Array Slot), (X, hX) = o → cd_Z G hX s.heap H locs → decode cc pc = .ok (.lreturn, 1) → W p l e rm s m args below meth c H locs 0 0 Q (F0 m pc ls [.long X])) → W p l e rm s m args below meth c s.heap [] 0 0 Q (F0 m 0 ls [])) : cd_Ml l G y (Cond.code y cc maxL (some .long) :: cd_T) rm av h o := by
  refine Met.ofW (cc := cc) (maxL := maxL) (ret := (some .long)) hy rfl ?_
  intro p e s m args below meth c s₁ B hml hv
  obtain ⟨rfl, hP, hK⟩ := hv
  have hl := lv_entry av (n := maxL) hle
  rw [lg_entry_eq]
  refine body p e s m _ below meth c _ _ ⟨B.exec, B.bytes, hml, findClass_of_methodNamed B.named, fun w hw => atoms_spec (ws := Cond.code y cc maxL (some .long) :: cd_T) B.pre w (List.mem_cons_of_mem _ hw)⟩ hK ⟨hP, va_S.rf⟩ hl ?_
  · intro X hX H locs pc ls e1 hZ hd
    subst e1
    exact W.lret (v := X) B.exec B.bytes B.returns (fun t ht hW => ⟨⟨X, (), rfl, rfl, by show va_P _ _ _ t.heap; rw [ht]; exact hZ.1⟩, hZ.2.F ht⟩) hZ.2.2.2 hd
theorem cd_inv {l : Launch} {G : cd_G} {y : MethodName} {rm : Room} {av : List Value} {h : cd_Hp} {o : cd_Hp} {cc : ByteArray} {maxL : Nat} (hy : plainName y.cls = true) (hle : (lg_sl av).length ≤ maxL)
    (body : ∀ (p : Program) (e : Env) (s : State) (m : MethodId) (args : Array Value) (below : List Frame) (meth : Method) (c : Code) (Q : State → Prop) (ls : Array Slot), CallFix p m c cc maxL s args cd_T y.cls → cd_K G s → cd_Z G h s.heap s.heap [] → lv_has ls maxL (lv_args 0 av) →
      (∀ (hX : cd_Hp) (H : Heap) (locs : List Loc) (pc : Nat) (ls : Array Slot), hX = o → cd_Z G hX s.heap H locs → decode cc pc = .ok (.return_, 1) → W p l e rm s m args below meth c H locs 0 0 Q (F0 m pc ls [])) → W p l e rm s m args below meth c s.heap [] 0 0 Q (F0 m 0 ls [])) : cd_Mv l G y (Cond.code y cc maxL none :: cd_T) rm av h o := by
  refine Met.ofW (cc := cc) (maxL := maxL) (ret := none) hy rfl ?_
  intro p e s m args below meth c s₁ B hml hv
  obtain ⟨rfl, hP, hK⟩ := hv
  have hl := lv_entry av (n := maxL) hle
  rw [lg_entry_eq]
  refine body p e s m _ below meth c _ _ ⟨B.exec, B.bytes, hml, findClass_of_methodNamed B.named, fun w hw => atoms_spec (ws := Cond.code y cc maxL none :: cd_T) B.pre w (List.mem_cons_of_mem _ hw)⟩ hK ⟨hP, va_S.rf⟩ hl ?_
  · intro hX H locs pc ls e1 hZ hd
    subst e1
    exact W.vret B.exec B.bytes B.returns (fun t ht hW => ⟨⟨(), rfl, trivial, by show va_P _ _ _ t.heap; rw [ht]; exact hZ.1⟩, hZ.2.F ht⟩) hZ.2.2.2 hd
end
