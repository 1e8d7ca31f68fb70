-- ===== PART A: goes FIRST, ahead of the names: the tables' words, and 'selects' of the private methods out of them =====
/-- a private method of a class that the tables say can be made, by its rows of tables_1 -/
def lw_okq (q : MethodName × Nat) : Prop := (q.1.cls ≠ "java/lang/invoke/MethodHandle" ∧ q.1.cls ≠ "java/lang/invoke/VarHandle") ∧ Cond.instantiable q.1.cls q.2 ∈ tables_1 ∧ Cond.privateMethod q.1 ∈ tables_1 ∧ Cond.instanceMethod q.1 ∈ tables_1
theorem lw_p0 : lw_okq (⟨"EggScales$Reader", "readToken", "()V"⟩, 7) := ⟨⟨by decide +kernel, by decide +kernel⟩, List.mem_of_getElem? (i := 23) (by decide +kernel), List.mem_of_getElem? (i := 291) (by decide +kernel), List.mem_of_getElem? (i := 292) (by decide +kernel)⟩
theorem lw_p1 : lw_okq (⟨"EggScales$Reader", "digitAt", "(I)Z"⟩, 7) := ⟨⟨by decide +kernel, by decide +kernel⟩, List.mem_of_getElem? (i := 23) (by decide +kernel), List.mem_of_getElem? (i := 295) (by decide +kernel), List.mem_of_getElem? (i := 296) (by decide +kernel)⟩
theorem lw_p2 : lw_okq (⟨"EggScales$Reader", "readDigits", "()V"⟩, 7) := ⟨⟨by decide +kernel, by decide +kernel⟩, List.mem_of_getElem? (i := 23) (by decide +kernel), List.mem_of_getElem? (i := 299) (by decide +kernel), List.mem_of_getElem? (i := 300) (by decide +kernel)⟩
theorem lw_p3 : lw_okq (⟨"EggScales$Reader", "readItem", "()Z"⟩, 7) := ⟨⟨by decide +kernel, by decide +kernel⟩, List.mem_of_getElem? (i := 23) (by decide +kernel), List.mem_of_getElem? (i := 306) (by decide +kernel), List.mem_of_getElem? (i := 307) (by decide +kernel)⟩
theorem lw_p4 : lw_okq (⟨"EggScales$Reader", "readScale", "(I)Z"⟩, 7) := ⟨⟨by decide +kernel, by decide +kernel⟩, List.mem_of_getElem? (i := 23) (by decide +kernel), List.mem_of_getElem? (i := 310) (by decide +kernel), List.mem_of_getElem? (i := 311) (by decide +kernel)⟩
theorem lw_p5 : lw_okq (⟨"EggScales$Reader", "readNumber", "(II)Z"⟩, 7) := ⟨⟨by decide +kernel, by decide +kernel⟩, List.mem_of_getElem? (i := 23) (by decide +kernel), List.mem_of_getElem? (i := 314) (by decide +kernel), List.mem_of_getElem? (i := 315) (by decide +kernel)⟩
theorem lw_p6 : lw_okq (⟨"EggScales$Reader", "readEnd", "()Z"⟩, 7) := ⟨⟨by decide +kernel, by decide +kernel⟩, List.mem_of_getElem? (i := 23) (by decide +kernel), List.mem_of_getElem? (i := 319) (by decide +kernel), List.mem_of_getElem? (i := 320) (by decide +kernel)⟩
theorem lw_p7 : lw_okq (⟨"EggScales$Reader", "readEgg", "(I)Z"⟩, 7) := ⟨⟨by decide +kernel, by decide +kernel⟩, List.mem_of_getElem? (i := 23) (by decide +kernel), List.mem_of_getElem? (i := 323) (by decide +kernel), List.mem_of_getElem? (i := 324) (by decide +kernel)⟩
theorem lw_p8 : lw_okq (⟨"EggScales", "noScale", "(I)Z"⟩, 11) := ⟨⟨by decide +kernel, by decide +kernel⟩, List.mem_of_getElem? (i := 15) (by decide +kernel), List.mem_of_getElem? (i := 346) (by decide +kernel), List.mem_of_getElem? (i := 347) (by decide +kernel)⟩
theorem lw_p9 : lw_okq (⟨"EggScales", "noEgg", "(I)Z"⟩, 11) := ⟨⟨by decide +kernel, by decide +kernel⟩, List.mem_of_getElem? (i := 15) (by decide +kernel), List.mem_of_getElem? (i := 362) (by decide +kernel), List.mem_of_getElem? (i := 363) (by decide +kernel)⟩
theorem lw_p10 : lw_okq (⟨"EggScales$Floor", "highestMark", "(II)I"⟩, 6) := ⟨⟨by decide +kernel, by decide +kernel⟩, List.mem_of_getElem? (i := 109) (by decide +kernel), List.mem_of_getElem? (i := 408) (by decide +kernel), List.mem_of_getElem? (i := 409) (by decide +kernel)⟩
theorem lw_p11 : lw_okq (⟨"EggScales$Floor", "stiffness", "(I)I"⟩, 6) := ⟨⟨by decide +kernel, by decide +kernel⟩, List.mem_of_getElem? (i := 109) (by decide +kernel), List.mem_of_getElem? (i := 413) (by decide +kernel), List.mem_of_getElem? (i := 414) (by decide +kernel)⟩
theorem lw_p12 : lw_okq (⟨"EggScales$Floor", "isFull", "(I)Z"⟩, 6) := ⟨⟨by decide +kernel, by decide +kernel⟩, List.mem_of_getElem? (i := 109) (by decide +kernel), List.mem_of_getElem? (i := 417) (by decide +kernel), List.mem_of_getElem? (i := 418) (by decide +kernel)⟩
theorem lw_p13 : lw_okq (⟨"EggScales$Search", "rollOneMore", "(II)V"⟩, 6) := ⟨⟨by decide +kernel, by decide +kernel⟩, List.mem_of_getElem? (i := 161) (by decide +kernel), List.mem_of_getElem? (i := 485) (by decide +kernel), List.mem_of_getElem? (i := 486) (by decide +kernel)⟩
theorem lw_p14 : lw_okq (⟨"EggScales$Search", "keepTried", "(I)V"⟩, 6) := ⟨⟨by decide +kernel, by decide +kernel⟩, List.mem_of_getElem? (i := 161) (by decide +kernel), List.mem_of_getElem? (i := 489) (by decide +kernel), List.mem_of_getElem? (i := 490) (by decide +kernel)⟩
theorem lw_p15 : lw_okq (⟨"EggScales$Search", "rollEach", "(II)V"⟩, 6) := ⟨⟨by decide +kernel, by decide +kernel⟩, List.mem_of_getElem? (i := 161) (by decide +kernel), List.mem_of_getElem? (i := 494) (by decide +kernel), List.mem_of_getElem? (i := 495) (by decide +kernel)⟩
def lw_privs_1 : List (MethodName × Nat) := [(⟨"EggScales$Reader", "readToken", "()V"⟩, 7), (⟨"EggScales$Reader", "digitAt", "(I)Z"⟩, 7), (⟨"EggScales$Reader", "readDigits", "()V"⟩, 7), (⟨"EggScales$Reader", "readItem", "()Z"⟩, 7), (⟨"EggScales$Reader", "readScale", "(I)Z"⟩, 7), (⟨"EggScales$Reader", "readNumber", "(II)Z"⟩, 7), (⟨"EggScales$Reader", "readEnd", "()Z"⟩, 7), (⟨"EggScales$Reader", "readEgg", "(I)Z"⟩, 7), (⟨"EggScales", "noScale", "(I)Z"⟩, 11), (⟨"EggScales", "noEgg", "(I)Z"⟩, 11), (⟨"EggScales$Floor", "highestMark", "(II)I"⟩, 6), (⟨"EggScales$Floor", "stiffness", "(I)I"⟩, 6), (⟨"EggScales$Floor", "isFull", "(I)Z"⟩, 6), (⟨"EggScales$Search", "rollOneMore", "(II)V"⟩, 6), (⟨"EggScales$Search", "keepTried", "(I)V"⟩, 6), (⟨"EggScales$Search", "rollEach", "(II)V"⟩, 6)]
theorem lw_r1 : ∀ q ∈ lw_privs_1, lw_okq q := List.forall_mem_cons.mpr ⟨lw_p0, List.forall_mem_cons.mpr ⟨lw_p1, List.forall_mem_cons.mpr ⟨lw_p2, List.forall_mem_cons.mpr ⟨lw_p3, List.forall_mem_cons.mpr ⟨lw_p4, List.forall_mem_cons.mpr ⟨lw_p5, List.forall_mem_cons.mpr ⟨lw_p6, List.forall_mem_cons.mpr ⟨lw_p7, List.forall_mem_cons.mpr ⟨lw_p8, List.forall_mem_cons.mpr ⟨lw_p9, List.forall_mem_cons.mpr ⟨lw_p10, List.forall_mem_cons.mpr ⟨lw_p11, List.forall_mem_cons.mpr ⟨lw_p12, List.forall_mem_cons.mpr ⟨lw_p13, List.forall_mem_cons.mpr ⟨lw_p14, List.forall_mem_cons.mpr ⟨lw_p15, fun _ h => absurd h List.not_mem_nil⟩⟩⟩⟩⟩⟩⟩⟩⟩⟩⟩⟩⟩⟩⟩⟩
theorem lw_p16 : lw_okq (⟨"EggScales$Search", "placeOneMore", "(II)V"⟩, 6) := ⟨⟨by decide +kernel, by decide +kernel⟩, List.mem_of_getElem? (i := 161) (by decide +kernel), List.mem_of_getElem? (i := 508) (by decide +kernel), List.mem_of_getElem? (i := 509) (by decide +kernel)⟩
theorem lw_p17 : lw_okq (⟨"EggScales$Search", "tryRow", "()V"⟩, 6) := ⟨⟨by decide +kernel, by decide +kernel⟩, List.mem_of_getElem? (i := 161) (by decide +kernel), List.mem_of_getElem? (i := 512) (by decide +kernel), List.mem_of_getElem? (i := 513) (by decide +kernel)⟩
theorem lw_p18 : lw_okq (⟨"EggScales$Search", "placeEach", "(II)V"⟩, 6) := ⟨⟨by decide +kernel, by decide +kernel⟩, List.mem_of_getElem? (i := 161) (by decide +kernel), List.mem_of_getElem? (i := 516) (by decide +kernel), List.mem_of_getElem? (i := 517) (by decide +kernel)⟩
theorem lw_p19 : lw_okq (⟨"EggScales$Packer", "isBox", "(IIII)Z"⟩, 2) := ⟨⟨by decide +kernel, by decide +kernel⟩, List.mem_of_getElem? (i := 192) (by decide +kernel), List.mem_of_getElem? (i := 561) (by decide +kernel), List.mem_of_getElem? (i := 562) (by decide +kernel)⟩
theorem lw_p20 : lw_okq (⟨"EggScales$Tester", "addIfSo", "(II)V"⟩, 8) := ⟨⟨by decide +kernel, by decide +kernel⟩, List.mem_of_getElem? (i := 205) (by decide +kernel), List.mem_of_getElem? (i := 600) (by decide +kernel), List.mem_of_getElem? (i := 601) (by decide +kernel)⟩
theorem lw_p21 : lw_okq (⟨"EggScales$Tester", "fallsFrom", "(III)I"⟩, 8) := ⟨⟨by decide +kernel, by decide +kernel⟩, List.mem_of_getElem? (i := 205) (by decide +kernel), List.mem_of_getElem? (i := 604) (by decide +kernel), List.mem_of_getElem? (i := 605) (by decide +kernel)⟩
theorem lw_p22 : lw_okq (⟨"EggScales$Tester", "greatestPart", "(I)I"⟩, 8) := ⟨⟨by decide +kernel, by decide +kernel⟩, List.mem_of_getElem? (i := 205) (by decide +kernel), List.mem_of_getElem? (i := 624) (by decide +kernel), List.mem_of_getElem? (i := 625) (by decide +kernel)⟩
theorem lw_p23 : lw_okq (⟨"EggScales", "rateEgg", "(I)I"⟩, 11) := ⟨⟨by decide +kernel, by decide +kernel⟩, List.mem_of_getElem? (i := 15) (by decide +kernel), List.mem_of_getElem? (i := 635) (by decide +kernel), List.mem_of_getElem? (i := 636) (by decide +kernel)⟩
theorem lw_p24 : lw_okq (⟨"EggScales", "rateBrown", "(I)I"⟩, 11) := ⟨⟨by decide +kernel, by decide +kernel⟩, List.mem_of_getElem? (i := 15) (by decide +kernel), List.mem_of_getElem? (i := 639) (by decide +kernel), List.mem_of_getElem? (i := 640) (by decide +kernel)⟩
theorem lw_p25 : lw_okq (⟨"EggScales", "rateDouble", "(I)I"⟩, 11) := ⟨⟨by decide +kernel, by decide +kernel⟩, List.mem_of_getElem? (i := 15) (by decide +kernel), List.mem_of_getElem? (i := 644) (by decide +kernel), List.mem_of_getElem? (i := 645) (by decide +kernel)⟩
theorem lw_p26 : lw_okq (⟨"EggScales", "rateCracked", "(I)I"⟩, 11) := ⟨⟨by decide +kernel, by decide +kernel⟩, List.mem_of_getElem? (i := 15) (by decide +kernel), List.mem_of_getElem? (i := 649) (by decide +kernel), List.mem_of_getElem? (i := 650) (by decide +kernel)⟩
theorem lw_p27 : lw_okq (⟨"EggScales", "rateDuck", "(I)I"⟩, 11) := ⟨⟨by decide +kernel, by decide +kernel⟩, List.mem_of_getElem? (i := 15) (by decide +kernel), List.mem_of_getElem? (i := 654) (by decide +kernel), List.mem_of_getElem? (i := 655) (by decide +kernel)⟩
theorem lw_p28 : lw_okq (⟨"EggScales", "rateBantam", "(I)I"⟩, 11) := ⟨⟨by decide +kernel, by decide +kernel⟩, List.mem_of_getElem? (i := 15) (by decide +kernel), List.mem_of_getElem? (i := 659) (by decide +kernel), List.mem_of_getElem? (i := 660) (by decide +kernel)⟩
theorem lw_p29 : lw_okq (⟨"EggScalesModel", "reads", "()V"⟩, 31) := ⟨⟨by decide +kernel, by decide +kernel⟩, List.mem_of_getElem? (i := 680) (by decide +kernel), List.mem_of_getElem? (i := 795) (by decide +kernel), List.mem_of_getElem? (i := 796) (by decide +kernel)⟩
theorem lw_p30 : lw_okq (⟨"EggScalesModel", "letterAt", "(I)I"⟩, 31) := ⟨⟨by decide +kernel, by decide +kernel⟩, List.mem_of_getElem? (i := 680) (by decide +kernel), List.mem_of_getElem? (i := 799) (by decide +kernel), List.mem_of_getElem? (i := 800) (by decide +kernel)⟩
theorem lw_p31 : lw_okq (⟨"EggScalesModel", "readItem", "()V"⟩, 31) := ⟨⟨by decide +kernel, by decide +kernel⟩, List.mem_of_getElem? (i := 680) (by decide +kernel), List.mem_of_getElem? (i := 806) (by decide +kernel), List.mem_of_getElem? (i := 807) (by decide +kernel)⟩
def lw_privs_2 : List (MethodName × Nat) := [(⟨"EggScales$Search", "placeOneMore", "(II)V"⟩, 6), (⟨"EggScales$Search", "tryRow", "()V"⟩, 6), (⟨"EggScales$Search", "placeEach", "(II)V"⟩, 6), (⟨"EggScales$Packer", "isBox", "(IIII)Z"⟩, 2), (⟨"EggScales$Tester", "addIfSo", "(II)V"⟩, 8), (⟨"EggScales$Tester", "fallsFrom", "(III)I"⟩, 8), (⟨"EggScales$Tester", "greatestPart", "(I)I"⟩, 8), (⟨"EggScales", "rateEgg", "(I)I"⟩, 11), (⟨"EggScales", "rateBrown", "(I)I"⟩, 11), (⟨"EggScales", "rateDouble", "(I)I"⟩, 11), (⟨"EggScales", "rateCracked", "(I)I"⟩, 11), (⟨"EggScales", "rateDuck", "(I)I"⟩, 11), (⟨"EggScales", "rateBantam", "(I)I"⟩, 11), (⟨"EggScalesModel", "reads", "()V"⟩, 31), (⟨"EggScalesModel", "letterAt", "(I)I"⟩, 31), (⟨"EggScalesModel", "readItem", "()V"⟩, 31)]
theorem lw_r2 : ∀ q ∈ lw_privs_2, lw_okq q := List.forall_mem_cons.mpr ⟨lw_p16, List.forall_mem_cons.mpr ⟨lw_p17, List.forall_mem_cons.mpr ⟨lw_p18, List.forall_mem_cons.mpr ⟨lw_p19, List.forall_mem_cons.mpr ⟨lw_p20, List.forall_mem_cons.mpr ⟨lw_p21, List.forall_mem_cons.mpr ⟨lw_p22, List.forall_mem_cons.mpr ⟨lw_p23, List.forall_mem_cons.mpr ⟨lw_p24, List.forall_mem_cons.mpr ⟨lw_p25, List.forall_mem_cons.mpr ⟨lw_p26, List.forall_mem_cons.mpr ⟨lw_p27, List.forall_mem_cons.mpr ⟨lw_p28, List.forall_mem_cons.mpr ⟨lw_p29, List.forall_mem_cons.mpr ⟨lw_p30, List.forall_mem_cons.mpr ⟨lw_p31, fun _ h => absurd h List.not_mem_nil⟩⟩⟩⟩⟩⟩⟩⟩⟩⟩⟩⟩⟩⟩⟩⟩
theorem lw_p32 : lw_okq (⟨"EggScalesModel", "takesNumber", "(II)I"⟩, 31) := ⟨⟨by decide +kernel, by decide +kernel⟩, List.mem_of_getElem? (i := 680) (by decide +kernel), List.mem_of_getElem? (i := 810) (by decide +kernel), List.mem_of_getElem? (i := 811) (by decide +kernel)⟩
theorem lw_p33 : lw_okq (⟨"EggScalesModel", "settles", "()V"⟩, 31) := ⟨⟨by decide +kernel, by decide +kernel⟩, List.mem_of_getElem? (i := 680) (by decide +kernel), List.mem_of_getElem? (i := 814) (by decide +kernel), List.mem_of_getElem? (i := 815) (by decide +kernel)⟩
theorem lw_p34 : lw_okq (⟨"EggScalesModel", "isScale", "(I)Z"⟩, 31) := ⟨⟨by decide +kernel, by decide +kernel⟩, List.mem_of_getElem? (i := 680) (by decide +kernel), List.mem_of_getElem? (i := 822) (by decide +kernel), List.mem_of_getElem? (i := 823) (by decide +kernel)⟩
theorem lw_p35 : lw_okq (⟨"EggScalesModel", "asItIs", "()V"⟩, 31) := ⟨⟨by decide +kernel, by decide +kernel⟩, List.mem_of_getElem? (i := 680) (by decide +kernel), List.mem_of_getElem? (i := 826) (by decide +kernel), List.mem_of_getElem? (i := 827) (by decide +kernel)⟩
theorem lw_p36 : lw_okq (⟨"EggScalesModel", "placeOf", "(I)I"⟩, 31) := ⟨⟨by decide +kernel, by decide +kernel⟩, List.mem_of_getElem? (i := 680) (by decide +kernel), List.mem_of_getElem? (i := 833) (by decide +kernel), List.mem_of_getElem? (i := 834) (by decide +kernel)⟩
theorem lw_p37 : lw_okq (⟨"EggScalesModel", "inPlace", "(I)I"⟩, 31) := ⟨⟨by decide +kernel, by decide +kernel⟩, List.mem_of_getElem? (i := 680) (by decide +kernel), List.mem_of_getElem? (i := 837) (by decide +kernel), List.mem_of_getElem? (i := 838) (by decide +kernel)⟩
theorem lw_p38 : lw_okq (⟨"EggScalesModel", "isEgg", "(I)Z"⟩, 31) := ⟨⟨by decide +kernel, by decide +kernel⟩, List.mem_of_getElem? (i := 680) (by decide +kernel), List.mem_of_getElem? (i := 845) (by decide +kernel), List.mem_of_getElem? (i := 846) (by decide +kernel)⟩
theorem lw_p39 : lw_okq (⟨"EggScalesModel", "seemsAs", "(II)I"⟩, 31) := ⟨⟨by decide +kernel, by decide +kernel⟩, List.mem_of_getElem? (i := 680) (by decide +kernel), List.mem_of_getElem? (i := 849) (by decide +kernel), List.mem_of_getElem? (i := 850) (by decide +kernel)⟩
theorem lw_p40 : lw_okq (⟨"EggScalesModel", "belongsAs", "(I)I"⟩, 31) := ⟨⟨by decide +kernel, by decide +kernel⟩, List.mem_of_getElem? (i := 680) (by decide +kernel), List.mem_of_getElem? (i := 853) (by decide +kernel), List.mem_of_getElem? (i := 854) (by decide +kernel)⟩
theorem lw_p41 : lw_okq (⟨"EggScalesModel", "right", "()I"⟩, 31) := ⟨⟨by decide +kernel, by decide +kernel⟩, List.mem_of_getElem? (i := 680) (by decide +kernel), List.mem_of_getElem? (i := 861) (by decide +kernel), List.mem_of_getElem? (i := 862) (by decide +kernel)⟩
theorem lw_p42 : lw_okq (⟨"EggScalesModel", "fellAll", "()I"⟩, 31) := ⟨⟨by decide +kernel, by decide +kernel⟩, List.mem_of_getElem? (i := 680) (by decide +kernel), List.mem_of_getElem? (i := 865) (by decide +kernel), List.mem_of_getElem? (i := 866) (by decide +kernel)⟩
theorem lw_p43 : lw_okq (⟨"EggScalesModel", "remembers", "()V"⟩, 31) := ⟨⟨by decide +kernel, by decide +kernel⟩, List.mem_of_getElem? (i := 680) (by decide +kernel), List.mem_of_getElem? (i := 873) (by decide +kernel), List.mem_of_getElem? (i := 874) (by decide +kernel)⟩
theorem lw_p44 : lw_okq (⟨"EggScalesModel", "rolled", "(I)I"⟩, 31) := ⟨⟨by decide +kernel, by decide +kernel⟩, List.mem_of_getElem? (i := 680) (by decide +kernel), List.mem_of_getElem? (i := 877) (by decide +kernel), List.mem_of_getElem? (i := 878) (by decide +kernel)⟩
theorem lw_p45 : lw_okq (⟨"EggScalesModel", "stiffOf", "(I)I"⟩, 31) := ⟨⟨by decide +kernel, by decide +kernel⟩, List.mem_of_getElem? (i := 680) (by decide +kernel), List.mem_of_getElem? (i := 881) (by decide +kernel), List.mem_of_getElem? (i := 882) (by decide +kernel)⟩
theorem lw_p46 : lw_okq (⟨"EggScalesModel", "isFull", "(I)Z"⟩, 31) := ⟨⟨by decide +kernel, by decide +kernel⟩, List.mem_of_getElem? (i := 680) (by decide +kernel), List.mem_of_getElem? (i := 885) (by decide +kernel), List.mem_of_getElem? (i := 886) (by decide +kernel)⟩
theorem lw_p47 : lw_okq (⟨"EggScalesModel", "lighter", "(II)I"⟩, 31) := ⟨⟨by decide +kernel, by decide +kernel⟩, List.mem_of_getElem? (i := 680) (by decide +kernel), List.mem_of_getElem? (i := 892) (by decide +kernel), List.mem_of_getElem? (i := 893) (by decide +kernel)⟩
def lw_privs_3 : List (MethodName × Nat) := [(⟨"EggScalesModel", "takesNumber", "(II)I"⟩, 31), (⟨"EggScalesModel", "settles", "()V"⟩, 31), (⟨"EggScalesModel", "isScale", "(I)Z"⟩, 31), (⟨"EggScalesModel", "asItIs", "()V"⟩, 31), (⟨"EggScalesModel", "placeOf", "(I)I"⟩, 31), (⟨"EggScalesModel", "inPlace", "(I)I"⟩, 31), (⟨"EggScalesModel", "isEgg", "(I)Z"⟩, 31), (⟨"EggScalesModel", "seemsAs", "(II)I"⟩, 31), (⟨"EggScalesModel", "belongsAs", "(I)I"⟩, 31), (⟨"EggScalesModel", "right", "()I"⟩, 31), (⟨"EggScalesModel", "fellAll", "()I"⟩, 31), (⟨"EggScalesModel", "remembers", "()V"⟩, 31), (⟨"EggScalesModel", "rolled", "(I)I"⟩, 31), (⟨"EggScalesModel", "stiffOf", "(I)I"⟩, 31), (⟨"EggScalesModel", "isFull", "(I)Z"⟩, 31), (⟨"EggScalesModel", "lighter", "(II)I"⟩, 31)]
theorem lw_r3 : ∀ q ∈ lw_privs_3, lw_okq q := List.forall_mem_cons.mpr ⟨lw_p32, List.forall_mem_cons.mpr ⟨lw_p33, List.forall_mem_cons.mpr ⟨lw_p34, List.forall_mem_cons.mpr ⟨lw_p35, List.forall_mem_cons.mpr ⟨lw_p36, List.forall_mem_cons.mpr ⟨lw_p37, List.forall_mem_cons.mpr ⟨lw_p38, List.forall_mem_cons.mpr ⟨lw_p39, List.forall_mem_cons.mpr ⟨lw_p40, List.forall_mem_cons.mpr ⟨lw_p41, List.forall_mem_cons.mpr ⟨lw_p42, List.forall_mem_cons.mpr ⟨lw_p43, List.forall_mem_cons.mpr ⟨lw_p44, List.forall_mem_cons.mpr ⟨lw_p45, List.forall_mem_cons.mpr ⟨lw_p46, List.forall_mem_cons.mpr ⟨lw_p47, fun _ h => absurd h List.not_mem_nil⟩⟩⟩⟩⟩⟩⟩⟩⟩⟩⟩⟩⟩⟩⟩⟩
theorem lw_p48 : lw_okq (⟨"EggScalesModel", "isOrder", "(III)Z"⟩, 31) := ⟨⟨by decide +kernel, by decide +kernel⟩, List.mem_of_getElem? (i := 680) (by decide +kernel), List.mem_of_getElem? (i := 931) (by decide +kernel), List.mem_of_getElem? (i := 932) (by decide +kernel)⟩
theorem lw_p49 : lw_okq (⟨"EggScalesModel", "keepsOrder", "()V"⟩, 31) := ⟨⟨by decide +kernel, by decide +kernel⟩, List.mem_of_getElem? (i := 680) (by decide +kernel), List.mem_of_getElem? (i := 938) (by decide +kernel), List.mem_of_getElem? (i := 939) (by decide +kernel)⟩
theorem lw_p50 : lw_okq (⟨"EggScalesModel", "rollsAll", "()V"⟩, 31) := ⟨⟨by decide +kernel, by decide +kernel⟩, List.mem_of_getElem? (i := 680) (by decide +kernel), List.mem_of_getElem? (i := 946) (by decide +kernel), List.mem_of_getElem? (i := 947) (by decide +kernel)⟩
theorem lw_p51 : lw_okq (⟨"EggScalesModel", "boxed", "(III)I"⟩, 31) := ⟨⟨by decide +kernel, by decide +kernel⟩, List.mem_of_getElem? (i := 680) (by decide +kernel), List.mem_of_getElem? (i := 965) (by decide +kernel), List.mem_of_getElem? (i := 966) (by decide +kernel)⟩
theorem lw_p52 : lw_okq (⟨"EggScalesModel", "allWays", "()I"⟩, 31) := ⟨⟨by decide +kernel, by decide +kernel⟩, List.mem_of_getElem? (i := 680) (by decide +kernel), List.mem_of_getElem? (i := 985) (by decide +kernel), List.mem_of_getElem? (i := 986) (by decide +kernel)⟩
theorem lw_p53 : lw_okq (⟨"EggScalesModel", "isSo", "(II)Z"⟩, 31) := ⟨⟨by decide +kernel, by decide +kernel⟩, List.mem_of_getElem? (i := 680) (by decide +kernel), List.mem_of_getElem? (i := 989) (by decide +kernel), List.mem_of_getElem? (i := 990) (by decide +kernel)⟩
theorem lw_p54 : lw_okq (⟨"EggScalesModel", "fallsFrom", "(III)I"⟩, 31) := ⟨⟨by decide +kernel, by decide +kernel⟩, List.mem_of_getElem? (i := 680) (by decide +kernel), List.mem_of_getElem? (i := 993) (by decide +kernel), List.mem_of_getElem? (i := 994) (by decide +kernel)⟩
theorem lw_p55 : lw_okq (⟨"EggScalesModel", "waysOff", "(I)I"⟩, 31) := ⟨⟨by decide +kernel, by decide +kernel⟩, List.mem_of_getElem? (i := 680) (by decide +kernel), List.mem_of_getElem? (i := 997) (by decide +kernel), List.mem_of_getElem? (i := 998) (by decide +kernel)⟩
theorem lw_p56 : lw_okq (⟨"EggScalesModel", "greatest", "(I)I"⟩, 31) := ⟨⟨by decide +kernel, by decide +kernel⟩, List.mem_of_getElem? (i := 680) (by decide +kernel), List.mem_of_getElem? (i := 1005) (by decide +kernel), List.mem_of_getElem? (i := 1006) (by decide +kernel)⟩
theorem lw_p57 : lw_okq (⟨"EggScalesModel", "adds", "(III)V"⟩, 31) := ⟨⟨by decide +kernel, by decide +kernel⟩, List.mem_of_getElem? (i := 680) (by decide +kernel), List.mem_of_getElem? (i := 1009) (by decide +kernel), List.mem_of_getElem? (i := 1010) (by decide +kernel)⟩
def lw_privs_4 : List (MethodName × Nat) := [(⟨"EggScalesModel", "isOrder", "(III)Z"⟩, 31), (⟨"EggScalesModel", "keepsOrder", "()V"⟩, 31), (⟨"EggScalesModel", "rollsAll", "()V"⟩, 31), (⟨"EggScalesModel", "boxed", "(III)I"⟩, 31), (⟨"EggScalesModel", "allWays", "()I"⟩, 31), (⟨"EggScalesModel", "isSo", "(II)Z"⟩, 31), (⟨"EggScalesModel", "fallsFrom", "(III)I"⟩, 31), (⟨"EggScalesModel", "waysOff", "(I)I"⟩, 31), (⟨"EggScalesModel", "greatest", "(I)I"⟩, 31), (⟨"EggScalesModel", "adds", "(III)V"⟩, 31)]
theorem lw_r4 : ∀ q ∈ lw_privs_4, lw_okq q := List.forall_mem_cons.mpr ⟨lw_p48, List.forall_mem_cons.mpr ⟨lw_p49, List.forall_mem_cons.mpr ⟨lw_p50, List.forall_mem_cons.mpr ⟨lw_p51, List.forall_mem_cons.mpr ⟨lw_p52, List.forall_mem_cons.mpr ⟨lw_p53, List.forall_mem_cons.mpr ⟨lw_p54, List.forall_mem_cons.mpr ⟨lw_p55, List.forall_mem_cons.mpr ⟨lw_p56, List.forall_mem_cons.mpr ⟨lw_p57, fun _ h => absurd h List.not_mem_nil⟩⟩⟩⟩⟩⟩⟩⟩⟩⟩
def lw_privs : List (MethodName × Nat) := lw_privs_1 ++ (lw_privs_2 ++ (lw_privs_3 ++ (lw_privs_4)))
def lw_tbl : List Cond := k2_sels lw_privs ++ tables_1
theorem lw_privs_ok : ∀ q ∈ lw_privs, lw_okq q := by
  show ∀ q ∈ lw_privs_1 ++ (lw_privs_2 ++ (lw_privs_3 ++ (lw_privs_4))), lw_okq q
  exact List.forall_mem_append.mpr ⟨lw_r1, List.forall_mem_append.mpr ⟨lw_r2, List.forall_mem_append.mpr ⟨lw_r3, lw_r4⟩⟩⟩
-- ===== end of PART A; then your names; then what follows =====
def RX0 : String := "EggScales$Floor"
def TX0 : u_T := fun k => match k with
  | 0 => ("EggScales$Floor", "told", "LEggScales$Told;", true)
  | 1 => ("EggScales$Floor", "where", "[I", true)
  | 2 => ("EggScales$Floor", "weight", "[I", true)
  | 3 => ("EggScales$Floor", "mark", "[I", true)
  | 4 => ("EggScales$Floor", "row", "[I", true)
  | _ => ("EggScales$Floor", "fallen", "[I", true)
def tyX0 : Nat → FieldType := fun k => match k with
  | 0 => .object "EggScales$Told"
  | 1 => .array .int
  | 2 => .array .int
  | 3 => .array .int
  | 4 => .array .int
  | _ => .array .int
abbrev wsX00 : List Cond := u_ws RX0 TX0 6
theorem nmX0 : ∀ a, a < 6 → ∀ b, b < 6 → a ≠ b → (TX0 a).2.1 ≠ (TX0 b).2.1 := by decide +kernel
theorem tyX0_ok : ∀ k, k < 6 → parseFieldDescriptor (TX0 k).2.2.1 = some (tyX0 k) := by decide +kernel
abbrev cX0_init : ByteArray := prog_2_method_1_code
def yX0_init : MethodName := ⟨RX0, "<init>", "(LEggScales$Told;)V"⟩
abbrev cX0_begin : ByteArray := prog_2_method_2_code
def yX0_begin : MethodName := ⟨RX0, "begin", "()V"⟩
abbrev cX0_become : ByteArray := prog_2_method_3_code
def yX0_become : MethodName := ⟨RX0, "become", "(LEggScales$Floor;)V"⟩
abbrev cX0_roll : ByteArray := prog_2_method_4_code
def yX0_roll : MethodName := ⟨RX0, "roll", "(I)I"⟩
abbrev cX0_highestMark : ByteArray := prog_2_method_5_code
def yX0_highestMark : MethodName := ⟨RX0, "highestMark", "(II)I"⟩
abbrev cX0_stiffness : ByteArray := prog_2_method_6_code
def yX0_stiffness : MethodName := ⟨RX0, "stiffness", "(I)I"⟩
abbrev cX0_isFull : ByteArray := prog_2_method_7_code
def yX0_isFull : MethodName := ⟨RX0, "isFull", "(I)Z"⟩
abbrev cX0_leastChange : ByteArray := prog_2_method_8_code
def yX0_leastChange : MethodName := ⟨RX0, "leastChange", "(II)I"⟩
abbrev cX0_placeOf : ByteArray := prog_2_method_9_code
def yX0_placeOf : MethodName := ⟨RX0, "placeOf", "(I)I"⟩
abbrev cX0_belongs : ByteArray := prog_2_method_10_code
def yX0_belongs : MethodName := ⟨RX0, "belongs", "(I)I"⟩
abbrev cX0_isRight : ByteArray := prog_2_method_11_code
def yX0_isRight : MethodName := ⟨RX0, "isRight", "(I)Z"⟩
abbrev cX0_rightEggs : ByteArray := prog_2_method_12_code
def yX0_rightEggs : MethodName := ⟨RX0, "rightEggs", "()I"⟩
abbrev cX0_eggsAt : ByteArray := prog_2_method_13_code
def yX0_eggsAt : MethodName := ⟨RX0, "eggsAt", "(I)I"⟩
abbrev cX0_howManyAt : ByteArray := prog_2_method_14_code
def yX0_howManyAt : MethodName := ⟨RX0, "howManyAt", "(I)I"⟩
abbrev cX0_eggsInTrays : ByteArray := prog_2_method_15_code
def yX0_eggsInTrays : MethodName := ⟨RX0, "eggsInTrays", "()I"⟩
abbrev cX0_wholeInNest : ByteArray := prog_2_method_16_code
def yX0_wholeInNest : MethodName := ⟨RX0, "wholeInNest", "()I"⟩
abbrev cX0_gramsOf : ByteArray := prog_2_method_17_code
def yX0_gramsOf : MethodName := ⟨RX0, "gramsOf", "(I)I"⟩
abbrev cX0_allFallen : ByteArray := prog_2_method_18_code
def yX0_allFallen : MethodName := ⟨RX0, "allFallen", "()I"⟩
def RX1 : String := "EggScales$Packer"
def TX1 : u_T := fun k => match k with
  | 0 => ("EggScales$Packer", "floor", "LEggScales$Floor;", true)
  | _ => ("EggScales$Packer", "most", "[I", true)
def tyX1 : Nat → FieldType := fun k => match k with
  | 0 => .object "EggScales$Floor"
  | _ => .array .int
abbrev wsX10 : List Cond := u_ws RX1 TX1 2
theorem nmX1 : ∀ a, a < 2 → ∀ b, b < 2 → a ≠ b → (TX1 a).2.1 ≠ (TX1 b).2.1 := by decide +kernel
theorem tyX1_ok : ∀ k, k < 2 → parseFieldDescriptor (TX1 k).2.2.1 = some (tyX1 k) := by decide +kernel
abbrev cX1_init : ByteArray := prog_3_method_1_code
def yX1_init : MethodName := ⟨RX1, "<init>", "(LEggScales$Floor;)V"⟩
abbrev cX1_lightestBox : ByteArray := prog_3_method_2_code
def yX1_lightestBox : MethodName := ⟨RX1, "lightestBox", "(II)I"⟩
abbrev cX1_isBox : ByteArray := prog_3_method_3_code
def yX1_isBox : MethodName := ⟨RX1, "isBox", "(IIII)Z"⟩
abbrev cX1_mostBoxes : ByteArray := prog_3_method_4_code
def yX1_mostBoxes : MethodName := ⟨RX1, "mostBoxes", "(II)I"⟩
def RX2 : String := "EggScales$Past"
def TX2 : u_T := fun k => match k with
  | 0 => ("EggScales$Past", "floors", "[LEggScales$Floor;", true)
  | 1 => ("EggScales$Past", "latest", "I", false)
  | _ => ("EggScales$Past", "known", "I", false)
def tyX2 : Nat → FieldType := fun k => match k with
  | 0 => .array (.object "EggScales$Floor")
  | 1 => .int
  | _ => .int
abbrev wsX20 : List Cond := u_ws RX2 TX2 3
theorem nmX2 : ∀ a, a < 3 → ∀ b, b < 3 → a ≠ b → (TX2 a).2.1 ≠ (TX2 b).2.1 := by decide +kernel
theorem tyX2_ok : ∀ k, k < 3 → parseFieldDescriptor (TX2 k).2.2.1 = some (tyX2 k) := by decide +kernel
abbrev cX2_init : ByteArray := prog_4_method_1_code
def yX2_init : MethodName := ⟨RX2, "<init>", "(LEggScales$Told;)V"⟩
abbrev cX2_remember : ByteArray := prog_4_method_2_code
def yX2_remember : MethodName := ⟨RX2, "remember", "(LEggScales$Floor;)V"⟩
abbrev cX2_recall : ByteArray := prog_4_method_3_code
def yX2_recall : MethodName := ⟨RX2, "recall", "(LEggScales$Floor;)V"⟩
def RX3 : String := "EggScales$Reader"
def TX3 : u_T := fun k => match k with
  | 0 => ("EggScales$Reader", "letters", "[C", true)
  | 1 => ("EggScales$Reader", "length", "I", false)
  | 2 => ("EggScales$Reader", "draft", "LEggScales$Told;", true)
  | 3 => ("EggScales$Reader", "place", "I", false)
  | 4 => ("EggScales$Reader", "start", "I", false)
  | 5 => ("EggScales$Reader", "token", "I", false)
  | _ => ("EggScales$Reader", "number", "I", false)
def tyX3 : Nat → FieldType := fun k => match k with
  | 0 => .array .char
  | 1 => .int
  | 2 => .object "EggScales$Told"
  | 3 => .int
  | 4 => .int
  | 5 => .int
  | _ => .int
abbrev wsX30 : List Cond := u_ws RX3 TX3 7
theorem nmX3 : ∀ a, a < 7 → ∀ b, b < 7 → a ≠ b → (TX3 a).2.1 ≠ (TX3 b).2.1 := by decide +kernel
theorem tyX3_ok : ∀ k, k < 7 → parseFieldDescriptor (TX3 k).2.2.1 = some (tyX3 k) := by decide +kernel
abbrev cX3_init : ByteArray := prog_5_method_1_code
def yX3_init : MethodName := ⟨RX3, "<init>", "()V"⟩
abbrev cX3_readItems : ByteArray := prog_5_method_2_code
def yX3_readItems : MethodName := ⟨RX3, "readItems", "()I"⟩
abbrev cX3_readItem : ByteArray := prog_5_method_3_code
def yX3_readItem : MethodName := ⟨RX3, "readItem", "()Z"⟩
abbrev cX3_readScale : ByteArray := prog_5_method_4_code
def yX3_readScale : MethodName := ⟨RX3, "readScale", "(I)Z"⟩
abbrev cX3_readEgg : ByteArray := prog_5_method_5_code
def yX3_readEgg : MethodName := ⟨RX3, "readEgg", "(I)Z"⟩
abbrev cX3_readNumber : ByteArray := prog_5_method_6_code
def yX3_readNumber : MethodName := ⟨RX3, "readNumber", "(II)Z"⟩
abbrev cX3_readEnd : ByteArray := prog_5_method_7_code
def yX3_readEnd : MethodName := ⟨RX3, "readEnd", "()Z"⟩
abbrev cX3_readToken : ByteArray := prog_5_method_8_code
def yX3_readToken : MethodName := ⟨RX3, "readToken", "()V"⟩
abbrev cX3_readDigits : ByteArray := prog_5_method_9_code
def yX3_readDigits : MethodName := ⟨RX3, "readDigits", "()V"⟩
abbrev cX3_digitAt : ByteArray := prog_5_method_10_code
def yX3_digitAt : MethodName := ⟨RX3, "digitAt", "(I)Z"⟩
def RX4 : String := "EggScales$Search"
def TX4 : u_T := fun k => match k with
  | 0 => ("EggScales$Search", "told", "LEggScales$Told;", true)
  | 1 => ("EggScales$Search", "floors", "[LEggScales$Floor;", true)
  | 2 => ("EggScales$Search", "tried", "[I", true)
  | 3 => ("EggScales$Search", "found", "[I", true)
  | 4 => ("EggScales$Search", "length", "I", false)
  | _ => ("EggScales$Search", "most", "I", false)
def tyX4 : Nat → FieldType := fun k => match k with
  | 0 => .object "EggScales$Told"
  | 1 => .array (.object "EggScales$Floor")
  | 2 => .array .int
  | 3 => .array .int
  | 4 => .int
  | _ => .int
abbrev wsX40 : List Cond := u_ws RX4 TX4 6
theorem nmX4 : ∀ a, a < 6 → ∀ b, b < 6 → a ≠ b → (TX4 a).2.1 ≠ (TX4 b).2.1 := by decide +kernel
theorem tyX4_ok : ∀ k, k < 6 → parseFieldDescriptor (TX4 k).2.2.1 = some (tyX4 k) := by decide +kernel
abbrev cX4_init : ByteArray := prog_6_method_1_code
def yX4_init : MethodName := ⟨RX4, "<init>", "(LEggScales$Told;)V"⟩
abbrev cX4_orderEggs : ByteArray := prog_6_method_2_code
def yX4_orderEggs : MethodName := ⟨RX4, "orderEggs", "(LEggScales$Floor;)V"⟩
abbrev cX4_rollOneMore : ByteArray := prog_6_method_3_code
def yX4_rollOneMore : MethodName := ⟨RX4, "rollOneMore", "(II)V"⟩
abbrev cX4_rollEach : ByteArray := prog_6_method_4_code
def yX4_rollEach : MethodName := ⟨RX4, "rollEach", "(II)V"⟩
abbrev cX4_orderScales : ByteArray := prog_6_method_5_code
def yX4_orderScales : MethodName := ⟨RX4, "orderScales", "(LEggScales$Floor;)V"⟩
abbrev cX4_placeOneMore : ByteArray := prog_6_method_6_code
def yX4_placeOneMore : MethodName := ⟨RX4, "placeOneMore", "(II)V"⟩
abbrev cX4_placeEach : ByteArray := prog_6_method_7_code
def yX4_placeEach : MethodName := ⟨RX4, "placeEach", "(II)V"⟩
abbrev cX4_tryRow : ByteArray := prog_6_method_8_code
def yX4_tryRow : MethodName := ⟨RX4, "tryRow", "()V"⟩
abbrev cX4_keepTried : ByteArray := prog_6_method_9_code
def yX4_keepTried : MethodName := ⟨RX4, "keepTried", "(I)V"⟩
def RX5 : String := "EggScales$Tester"
def TX5 : u_T := fun k => match k with
  | 0 => ("EggScales$Tester", "told", "LEggScales$Told;", true)
  | 1 => ("EggScales$Tester", "testGrams", "[I", true)
  | 2 => ("EggScales$Tester", "testScale", "[I", true)
  | 3 => ("EggScales$Tester", "tests", "I", false)
  | 4 => ("EggScales$Tester", "wayScale", "[I", true)
  | 5 => ("EggScales$Tester", "wayOff", "[I", true)
  | 6 => ("EggScales$Tester", "ways", "I", false)
  | _ => ("EggScales$Tester", "parts", "[I", true)
def tyX5 : Nat → FieldType := fun k => match k with
  | 0 => .object "EggScales$Told"
  | 1 => .array .int
  | 2 => .array .int
  | 3 => .int
  | 4 => .array .int
  | 5 => .array .int
  | 6 => .int
  | _ => .array .int
abbrev wsX50 : List Cond := u_ws RX5 TX5 8
theorem nmX5 : ∀ a, a < 8 → ∀ b, b < 8 → a ≠ b → (TX5 a).2.1 ≠ (TX5 b).2.1 := by decide +kernel
theorem tyX5_ok : ∀ k, k < 8 → parseFieldDescriptor (TX5 k).2.2.1 = some (tyX5 k) := by decide +kernel
abbrev cX5_init : ByteArray := prog_7_method_1_code
def yX5_init : MethodName := ⟨RX5, "<init>", "(LEggScales$Told;)V"⟩
abbrev cX5_add : ByteArray := prog_7_method_2_code
def yX5_add : MethodName := ⟨RX5, "add", "(II)V"⟩
abbrev cX5_findWays : ByteArray := prog_7_method_3_code
def yX5_findWays : MethodName := ⟨RX5, "findWays", "()V"⟩
abbrev cX5_addIfSo : ByteArray := prog_7_method_4_code
def yX5_addIfSo : MethodName := ⟨RX5, "addIfSo", "(II)V"⟩
abbrev cX5_fallsFrom : ByteArray := prog_7_method_5_code
def yX5_fallsFrom : MethodName := ⟨RX5, "fallsFrom", "(III)I"⟩
abbrev cX5_scalesOff : ByteArray := prog_7_method_6_code
def yX5_scalesOff : MethodName := ⟨RX5, "scalesOff", "()I"⟩
abbrev cX5_noneOff : ByteArray := prog_7_method_7_code
def yX5_noneOff : MethodName := ⟨RX5, "noneOff", "()I"⟩
abbrev cX5_weightToTry : ByteArray := prog_7_method_8_code
def yX5_weightToTry : MethodName := ⟨RX5, "weightToTry", "()I"⟩
abbrev cX5_greatestPart : ByteArray := prog_7_method_9_code
def yX5_greatestPart : MethodName := ⟨RX5, "greatestPart", "(I)I"⟩
def RX6 : String := "EggScales$Told"
def TX6 : u_T := fun k => match k with
  | 0 => ("EggScales$Told", "scales", "I", false)
  | 1 => ("EggScales$Told", "eggs", "I", false)
  | 2 => ("EggScales$Told", "mark", "[I", true)
  | 3 => ("EggScales$Told", "sticks", "[I", true)
  | 4 => ("EggScales$Told", "room", "[I", true)
  | 5 => ("EggScales$Told", "weight", "[I", true)
  | _ => ("EggScales$Told", "kind", "[I", true)
def tyX6 : Nat → FieldType := fun k => match k with
  | 0 => .int
  | 1 => .int
  | 2 => .array .int
  | 3 => .array .int
  | 4 => .array .int
  | 5 => .array .int
  | _ => .array .int
abbrev wsX60 : List Cond := u_ws RX6 TX6 7
theorem nmX6 : ∀ a, a < 7 → ∀ b, b < 7 → a ≠ b → (TX6 a).2.1 ≠ (TX6 b).2.1 := by decide +kernel
theorem tyX6_ok : ∀ k, k < 7 → parseFieldDescriptor (TX6 k).2.2.1 = some (tyX6 k) := by decide +kernel
abbrev cX6_init : ByteArray := prog_8_method_1_code
def yX6_init : MethodName := ⟨RX6, "<init>", "()V"⟩
abbrev cX6_become : ByteArray := prog_8_method_2_code
def yX6_become : MethodName := ⟨RX6, "become", "(LEggScales$Told;)V"⟩
abbrev cX6_seems : ByteArray := prog_8_method_3_code
def yX6_seems : MethodName := ⟨RX6, "seems", "(II)I"⟩
abbrev cX6_leaked : ByteArray := prog_8_method_4_code
def yX6_leaked : MethodName := ⟨RX6, "leaked", "(II)I"⟩
def RX7 : String := "EggScales"
def TX7 : u_T := fun k => match k with
  | 0 => ("EggScales", "reader", "LEggScales$Reader;", true)
  | 1 => ("EggScales", "told", "LEggScales$Told;", true)
  | 2 => ("EggScales", "floor", "LEggScales$Floor;", true)
  | 3 => ("EggScales", "trial", "LEggScales$Floor;", true)
  | 4 => ("EggScales", "past", "LEggScales$Past;", true)
  | 5 => ("EggScales", "images", "[LEggScales$Floor;", true)
  | 6 => ("EggScales", "kept", "[Z", true)
  | 7 => ("EggScales", "search", "LEggScales$Search;", true)
  | 8 => ("EggScales", "packer", "LEggScales$Packer;", true)
  | 9 => ("EggScales", "tester", "LEggScales$Tester;", true)
  | _ => ("EggScales", "traced", "J", false)
def tyX7 : Nat → FieldType := fun k => match k with
  | 0 => .object "EggScales$Reader"
  | 1 => .object "EggScales$Told"
  | 2 => .object "EggScales$Floor"
  | 3 => .object "EggScales$Floor"
  | 4 => .object "EggScales$Past"
  | 5 => .array (.object "EggScales$Floor")
  | 6 => .array .boolean
  | 7 => .object "EggScales$Search"
  | 8 => .object "EggScales$Packer"
  | 9 => .object "EggScales$Tester"
  | _ => .long
abbrev wsX70 : List Cond := u_ws RX7 TX7 11
theorem nmX7 : ∀ a, a < 11 → ∀ b, b < 11 → a ≠ b → (TX7 a).2.1 ≠ (TX7 b).2.1 := by decide +kernel
theorem tyX7_ok : ∀ k, k < 11 → parseFieldDescriptor (TX7 k).2.2.1 = some (tyX7 k) := by decide +kernel
abbrev cX7_init : ByteArray := prog_1_method_1_code
def yX7_init : MethodName := ⟨RX7, "<init>", "()V"⟩
abbrev cX7_type : ByteArray := prog_1_method_2_code
def yX7_type : MethodName := ⟨RX7, "type", "(I)I"⟩
abbrev cX7_clear : ByteArray := prog_1_method_3_code
def yX7_clear : MethodName := ⟨RX7, "clear", "()I"⟩
abbrev cX7_barn : ByteArray := prog_1_method_4_code
def yX7_barn : MethodName := ⟨RX7, "barn", "()I"⟩
abbrev cX7_scale : ByteArray := prog_1_method_5_code
def yX7_scale : MethodName := ⟨RX7, "scale", "(II)I"⟩
abbrev cX7_egg : ByteArray := prog_1_method_6_code
def yX7_egg : MethodName := ⟨RX7, "egg", "(II)I"⟩
abbrev cX7_now : ByteArray := prog_1_method_7_code
def yX7_now : MethodName := ⟨RX7, "now", "(I)I"⟩
abbrev cX7_rolls : ByteArray := prog_1_method_8_code
def yX7_rolls : MethodName := ⟨RX7, "rolls", "(I)I"⟩
abbrev cX7_takes : ByteArray := prog_1_method_9_code
def yX7_takes : MethodName := ⟨RX7, "takes", "(I)I"⟩
abbrev cX7_wipes : ByteArray := prog_1_method_10_code
def yX7_wipes : MethodName := ⟨RX7, "wipes", "(I)I"⟩
abbrev cX7_sets : ByteArray := prog_1_method_11_code
def yX7_sets : MethodName := ⟨RX7, "sets", "(II)I"⟩
abbrev cX7_shifts : ByteArray := prog_1_method_12_code
def yX7_shifts : MethodName := ⟨RX7, "shifts", "(I)I"⟩
abbrev cX7_drops : ByteArray := prog_1_method_13_code
def yX7_drops : MethodName := ⟨RX7, "drops", "(I)I"⟩
abbrev cX7_undo : ByteArray := prog_1_method_14_code
def yX7_undo : MethodName := ⟨RX7, "undo", "()I"⟩
abbrev cX7_goes : ByteArray := prog_1_method_15_code
def yX7_goes : MethodName := ⟨RX7, "goes", "(I)I"⟩
abbrev cX7_order : ByteArray := prog_1_method_16_code
def yX7_order : MethodName := ⟨RX7, "order", "(I)I"⟩
abbrev cX7_row : ByteArray := prog_1_method_17_code
def yX7_row : MethodName := ⟨RX7, "row", "(I)I"⟩
abbrev cX7_reset : ByteArray := prog_1_method_18_code
def yX7_reset : MethodName := ⟨RX7, "reset", "(II)I"⟩
abbrev cX7_cracks : ByteArray := prog_1_method_19_code
def yX7_cracks : MethodName := ⟨RX7, "cracks", "(III)I"⟩
abbrev cX7_box : ByteArray := prog_1_method_20_code
def yX7_box : MethodName := ⟨RX7, "box", "(III)I"⟩
abbrev cX7_boxes : ByteArray := prog_1_method_21_code
def yX7_boxes : MethodName := ⟨RX7, "boxes", "(II)I"⟩
abbrev cX7_tested : ByteArray := prog_1_method_22_code
def yX7_tested : MethodName := ⟨RX7, "tested", "(II)I"⟩
abbrev cX7_forget : ByteArray := prog_1_method_23_code
def yX7_forget : MethodName := ⟨RX7, "forget", "()I"⟩
abbrev cX7_can : ByteArray := prog_1_method_24_code
def yX7_can : MethodName := ⟨RX7, "can", "(I)I"⟩
abbrev cX7_next : ByteArray := prog_1_method_25_code
def yX7_next : MethodName := ⟨RX7, "next", "()I"⟩
abbrev cX7_rate : ByteArray := prog_1_method_26_code
def yX7_rate : MethodName := ⟨RX7, "rate", "(II)I"⟩
abbrev cX7_keep : ByteArray := prog_1_method_27_code
def yX7_keep : MethodName := ⟨RX7, "keep", "(I)I"⟩
abbrev cX7_back : ByteArray := prog_1_method_28_code
def yX7_back : MethodName := ⟨RX7, "back", "(I)I"⟩
abbrev cX7_count : ByteArray := prog_1_method_29_code
def yX7_count : MethodName := ⟨RX7, "count", "(I)I"⟩
abbrev cX7_trace : ByteArray := prog_1_method_30_code
def yX7_trace : MethodName := ⟨RX7, "trace", "()J"⟩
abbrev cX7_beyond : ByteArray := prog_1_method_31_code
def yX7_beyond : MethodName := ⟨RX7, "beyond", "(III)Z"⟩
abbrev cX7_noScale : ByteArray := prog_1_method_32_code
def yX7_noScale : MethodName := ⟨RX7, "noScale", "(I)Z"⟩
abbrev cX7_noEgg : ByteArray := prog_1_method_33_code
def yX7_noEgg : MethodName := ⟨RX7, "noEgg", "(I)Z"⟩
abbrev cX7_noBox : ByteArray := prog_1_method_34_code
def yX7_noBox : MethodName := ⟨RX7, "noBox", "(II)Z"⟩
abbrev cX7_rateEgg : ByteArray := prog_1_method_35_code
def yX7_rateEgg : MethodName := ⟨RX7, "rateEgg", "(I)I"⟩
abbrev cX7_rateBrown : ByteArray := prog_1_method_36_code
def yX7_rateBrown : MethodName := ⟨RX7, "rateBrown", "(I)I"⟩
abbrev cX7_rateDouble : ByteArray := prog_1_method_37_code
def yX7_rateDouble : MethodName := ⟨RX7, "rateDouble", "(I)I"⟩
abbrev cX7_rateCracked : ByteArray := prog_1_method_38_code
def yX7_rateCracked : MethodName := ⟨RX7, "rateCracked", "(I)I"⟩
abbrev cX7_rateDuck : ByteArray := prog_1_method_39_code
def yX7_rateDuck : MethodName := ⟨RX7, "rateDuck", "(I)I"⟩
abbrev cX7_rateBantam : ByteArray := prog_1_method_40_code
def yX7_rateBantam : MethodName := ⟨RX7, "rateBantam", "(I)I"⟩
abbrev cX7_waysToCrack : ByteArray := prog_1_method_41_code
def yX7_waysToCrack : MethodName := ⟨RX7, "waysToCrack", "(III)I"⟩
abbrev cX7_power : ByteArray := prog_1_method_42_code
def yX7_power : MethodName := ⟨RX7, "power", "(II)I"⟩
abbrev cX7_greatestCommon : ByteArray := prog_1_method_43_code
def yX7_greatestCommon : MethodName := ⟨RX7, "greatestCommon", "(II)I"⟩
def RX8 : String := "EggScalesModel"
def TX8 : u_T := fun k => match k with
  | 0 => ("EggScalesModel", "scales", "I", false)
  | 1 => ("EggScalesModel", "marks", "[I", true)
  | 2 => ("EggScalesModel", "sticks", "[I", true)
  | 3 => ("EggScalesModel", "rooms", "[I", true)
  | 4 => ("EggScalesModel", "eggs", "I", false)
  | 5 => ("EggScalesModel", "kinds", "[I", true)
  | 6 => ("EggScalesModel", "st", "[I", true)
  | 7 => ("EggScalesModel", "was", "[I", true)
  | 8 => ("EggScalesModel", "known", "I", false)
  | 9 => ("EggScalesModel", "images", "[I", true)
  | 10 => ("EggScalesModel", "isKept", "[Z", true)
  | 11 => ("EggScalesModel", "testMany", "I", false)
  | 12 => ("EggScalesModel", "tests", "[I", true)
  | 13 => ("EggScalesModel", "trace", "J", false)
  | 14 => ("EggScalesModel", "text", "[I", true)
  | 15 => ("EggScalesModel", "texted", "I", false)
  | 16 => ("EggScalesModel", "cursor", "I", false)
  | 17 => ("EggScalesModel", "start", "I", false)
  | 18 => ("EggScalesModel", "token", "I", false)
  | 19 => ("EggScalesModel", "number", "I", false)
  | 20 => ("EggScalesModel", "isWrong", "Z", false)
  | 21 => ("EggScalesModel", "items", "I", false)
  | 22 => ("EggScalesModel", "saidScales", "I", false)
  | 23 => ("EggScalesModel", "saidScale", "[I", true)
  | 24 => ("EggScalesModel", "saidEggs", "I", false)
  | 25 => ("EggScalesModel", "saidEgg", "[I", true)
  | 26 => ("EggScalesModel", "now", "[I", true)
  | 27 => ("EggScalesModel", "order", "[I", true)
  | 28 => ("EggScalesModel", "best", "[I", true)
  | 29 => ("EggScalesModel", "most", "[I", true)
  | _ => ("EggScalesModel", "parts", "[I", true)
def tyX8 : Nat → FieldType := fun k => match k with
  | 0 => .int
  | 1 => .array .int
  | 2 => .array .int
  | 3 => .array .int
  | 4 => .int
  | 5 => .array .int
  | 6 => .array .int
  | 7 => .array .int
  | 8 => .int
  | 9 => .array .int
  | 10 => .array .boolean
  | 11 => .int
  | 12 => .array .int
  | 13 => .long
  | 14 => .array .int
  | 15 => .int
  | 16 => .int
  | 17 => .int
  | 18 => .int
  | 19 => .int
  | 20 => .boolean
  | 21 => .int
  | 22 => .int
  | 23 => .array .int
  | 24 => .int
  | 25 => .array .int
  | 26 => .array .int
  | 27 => .array .int
  | 28 => .array .int
  | 29 => .array .int
  | _ => .array .int
abbrev wsX80 : List Cond := u_ws RX8 TX8 31
theorem nmX8 : ∀ a, a < 31 → ∀ b, b < 31 → a ≠ b → (TX8 a).2.1 ≠ (TX8 b).2.1 := by decide +kernel
theorem tyX8_ok : ∀ k, k < 31 → parseFieldDescriptor (TX8 k).2.2.1 = some (tyX8 k) := by decide +kernel
abbrev cX8_init : ByteArray := prog_10_method_1_code
def yX8_init : MethodName := ⟨RX8, "<init>", "()V"⟩
abbrev cX8_in : ByteArray := prog_10_method_3_code
def yX8_in : MethodName := ⟨RX8, "in", "(III)Z"⟩
abbrev cX8_has : ByteArray := prog_10_method_4_code
def yX8_has : MethodName := ⟨RX8, "has", "(II)Z"⟩
abbrev cX8_bits : ByteArray := prog_10_method_5_code
def yX8_bits : MethodName := ⟨RX8, "bits", "(I)I"⟩
abbrev cX8_isScale : ByteArray := prog_10_method_6_code
def yX8_isScale : MethodName := ⟨RX8, "isScale", "(I)Z"⟩
abbrev cX8_isEgg : ByteArray := prog_10_method_7_code
def yX8_isEgg : MethodName := ⟨RX8, "isEgg", "(I)Z"⟩
abbrev cX8_copy : ByteArray := prog_10_method_8_code
def yX8_copy : MethodName := ⟨RX8, "copy", "([II[II)V"⟩
abbrev cX8_type : ByteArray := prog_10_method_9_code
def yX8_type : MethodName := ⟨RX8, "type", "(I)I"⟩
abbrev cX8_clear : ByteArray := prog_10_method_10_code
def yX8_clear : MethodName := ⟨RX8, "clear", "()I"⟩
abbrev cX8_letterAt : ByteArray := prog_10_method_11_code
def yX8_letterAt : MethodName := ⟨RX8, "letterAt", "(I)I"⟩
abbrev cX8_isFigure : ByteArray := prog_10_method_12_code
def yX8_isFigure : MethodName := ⟨RX8, "isFigure", "(I)Z"⟩
abbrev cX8_reads : ByteArray := prog_10_method_13_code
def yX8_reads : MethodName := ⟨RX8, "reads", "()V"⟩
abbrev cX8_takesNumber : ByteArray := prog_10_method_14_code
def yX8_takesNumber : MethodName := ⟨RX8, "takesNumber", "(II)I"⟩
abbrev cX8_readItem : ByteArray := prog_10_method_15_code
def yX8_readItem : MethodName := ⟨RX8, "readItem", "()V"⟩
abbrev cX8_barn : ByteArray := prog_10_method_16_code
def yX8_barn : MethodName := ⟨RX8, "barn", "()I"⟩
abbrev cX8_settles : ByteArray := prog_10_method_17_code
def yX8_settles : MethodName := ⟨RX8, "settles", "()V"⟩
abbrev cX8_asItIs : ByteArray := prog_10_method_18_code
def yX8_asItIs : MethodName := ⟨RX8, "asItIs", "()V"⟩
abbrev cX8_seemsAs : ByteArray := prog_10_method_19_code
def yX8_seemsAs : MethodName := ⟨RX8, "seemsAs", "(II)I"⟩
abbrev cX8_stiffOf : ByteArray := prog_10_method_20_code
def yX8_stiffOf : MethodName := ⟨RX8, "stiffOf", "(I)I"⟩
abbrev cX8_inPlace : ByteArray := prog_10_method_21_code
def yX8_inPlace : MethodName := ⟨RX8, "inPlace", "(I)I"⟩
abbrev cX8_isFull : ByteArray := prog_10_method_22_code
def yX8_isFull : MethodName := ⟨RX8, "isFull", "(I)Z"⟩
abbrev cX8_lighter : ByteArray := prog_10_method_23_code
def yX8_lighter : MethodName := ⟨RX8, "lighter", "(II)I"⟩
abbrev cX8_rolled : ByteArray := prog_10_method_24_code
def yX8_rolled : MethodName := ⟨RX8, "rolled", "(I)I"⟩
abbrev cX8_belongsAs : ByteArray := prog_10_method_25_code
def yX8_belongsAs : MethodName := ⟨RX8, "belongsAs", "(I)I"⟩
abbrev cX8_right : ByteArray := prog_10_method_26_code
def yX8_right : MethodName := ⟨RX8, "right", "()I"⟩
abbrev cX8_fellAll : ByteArray := prog_10_method_27_code
def yX8_fellAll : MethodName := ⟨RX8, "fellAll", "()I"⟩
abbrev cX8_placeOf : ByteArray := prog_10_method_28_code
def yX8_placeOf : MethodName := ⟨RX8, "placeOf", "(I)I"⟩
abbrev cX8_scale : ByteArray := prog_10_method_29_code
def yX8_scale : MethodName := ⟨RX8, "scale", "(II)I"⟩
abbrev cX8_egg : ByteArray := prog_10_method_30_code
def yX8_egg : MethodName := ⟨RX8, "egg", "(II)I"⟩
abbrev cX8_now : ByteArray := prog_10_method_31_code
def yX8_now : MethodName := ⟨RX8, "now", "(I)I"⟩
abbrev cX8_remembers : ByteArray := prog_10_method_32_code
def yX8_remembers : MethodName := ⟨RX8, "remembers", "()V"⟩
abbrev cX8_rolls : ByteArray := prog_10_method_33_code
def yX8_rolls : MethodName := ⟨RX8, "rolls", "(I)I"⟩
abbrev cX8_takes : ByteArray := prog_10_method_34_code
def yX8_takes : MethodName := ⟨RX8, "takes", "(I)I"⟩
abbrev cX8_wipes : ByteArray := prog_10_method_35_code
def yX8_wipes : MethodName := ⟨RX8, "wipes", "(I)I"⟩
abbrev cX8_sets : ByteArray := prog_10_method_36_code
def yX8_sets : MethodName := ⟨RX8, "sets", "(II)I"⟩
abbrev cX8_shifts : ByteArray := prog_10_method_37_code
def yX8_shifts : MethodName := ⟨RX8, "shifts", "(I)I"⟩
abbrev cX8_drops : ByteArray := prog_10_method_38_code
def yX8_drops : MethodName := ⟨RX8, "drops", "(I)I"⟩
abbrev cX8_undo : ByteArray := prog_10_method_39_code
def yX8_undo : MethodName := ⟨RX8, "undo", "()I"⟩
abbrev cX8_goes : ByteArray := prog_10_method_40_code
def yX8_goes : MethodName := ⟨RX8, "goes", "(I)I"⟩
abbrev cX8_isOrder : ByteArray := prog_10_method_41_code
def yX8_isOrder : MethodName := ⟨RX8, "isOrder", "(III)Z"⟩
abbrev cX8_sixes : ByteArray := prog_10_method_42_code
def yX8_sixes : MethodName := ⟨RX8, "sixes", "(I)I"⟩
abbrev cX8_keepsOrder : ByteArray := prog_10_method_43_code
def yX8_keepsOrder : MethodName := ⟨RX8, "keepsOrder", "()V"⟩
abbrev cX8_order : ByteArray := prog_10_method_44_code
def yX8_order : MethodName := ⟨RX8, "order", "(I)I"⟩
abbrev cX8_rollsAll : ByteArray := prog_10_method_45_code
def yX8_rollsAll : MethodName := ⟨RX8, "rollsAll", "()V"⟩
abbrev cX8_row : ByteArray := prog_10_method_46_code
def yX8_row : MethodName := ⟨RX8, "row", "(I)I"⟩
abbrev cX8_reset : ByteArray := prog_10_method_47_code
def yX8_reset : MethodName := ⟨RX8, "reset", "(II)I"⟩
abbrev cX8_lowest : ByteArray := prog_10_method_48_code
def yX8_lowest : MethodName := ⟨RX8, "lowest", "(III)I"⟩
abbrev cX8_cracks : ByteArray := prog_10_method_49_code
def yX8_cracks : MethodName := ⟨RX8, "cracks", "(III)I"⟩
abbrev cX8_boxed : ByteArray := prog_10_method_50_code
def yX8_boxed : MethodName := ⟨RX8, "boxed", "(III)I"⟩
abbrev cX8_box : ByteArray := prog_10_method_51_code
def yX8_box : MethodName := ⟨RX8, "box", "(III)I"⟩
abbrev cX8_boxes : ByteArray := prog_10_method_52_code
def yX8_boxes : MethodName := ⟨RX8, "boxes", "(II)I"⟩
abbrev cX8_tested : ByteArray := prog_10_method_53_code
def yX8_tested : MethodName := ⟨RX8, "tested", "(II)I"⟩
abbrev cX8_forget : ByteArray := prog_10_method_54_code
def yX8_forget : MethodName := ⟨RX8, "forget", "()I"⟩
abbrev cX8_fallsFrom : ByteArray := prog_10_method_55_code
def yX8_fallsFrom : MethodName := ⟨RX8, "fallsFrom", "(III)I"⟩
abbrev cX8_isSo : ByteArray := prog_10_method_56_code
def yX8_isSo : MethodName := ⟨RX8, "isSo", "(II)Z"⟩
abbrev cX8_waysOff : ByteArray := prog_10_method_57_code
def yX8_waysOff : MethodName := ⟨RX8, "waysOff", "(I)I"⟩
abbrev cX8_allWays : ByteArray := prog_10_method_58_code
def yX8_allWays : MethodName := ⟨RX8, "allWays", "()I"⟩
abbrev cX8_can : ByteArray := prog_10_method_59_code
def yX8_can : MethodName := ⟨RX8, "can", "(I)I"⟩
abbrev cX8_adds : ByteArray := prog_10_method_60_code
def yX8_adds : MethodName := ⟨RX8, "adds", "(III)V"⟩
abbrev cX8_greatest : ByteArray := prog_10_method_61_code
def yX8_greatest : MethodName := ⟨RX8, "greatest", "(I)I"⟩
abbrev cX8_next : ByteArray := prog_10_method_62_code
def yX8_next : MethodName := ⟨RX8, "next", "()I"⟩
abbrev cX8_rate : ByteArray := prog_10_method_63_code
def yX8_rate : MethodName := ⟨RX8, "rate", "(II)I"⟩
abbrev cX8_keep : ByteArray := prog_10_method_64_code
def yX8_keep : MethodName := ⟨RX8, "keep", "(I)I"⟩
abbrev cX8_back : ByteArray := prog_10_method_65_code
def yX8_back : MethodName := ⟨RX8, "back", "(I)I"⟩
abbrev cX8_count : ByteArray := prog_10_method_66_code
def yX8_count : MethodName := ⟨RX8, "count", "(I)I"⟩
abbrev cX8_trace : ByteArray := prog_10_method_67_code
def yX8_trace : MethodName := ⟨RX8, "trace", "()J"⟩
def RJ6 : String := "java/lang/Integer"
def TJ6 : u_T := fun k => match k with
  | _ => ("", "", "", false)
def tyJ6 : Nat → FieldType := fun k => match k with
  | _ => .int
abbrev wsJ60 : List Cond := u_ws RJ6 TJ6 0
theorem nmJ6 : ∀ a, a < 0 → ∀ b, b < 0 → a ≠ b → (TJ6 a).2.1 ≠ (TJ6 b).2.1 := by decide +kernel
theorem tyJ6_ok : ∀ k, k < 0 → parseFieldDescriptor (TJ6 k).2.2.1 = some (tyJ6 k) := by decide +kernel
abbrev cJ6_bitCount_0f7a4 : ByteArray := prog_11_method_49_code
def yJ6_bitCount_0f7a4 : MethodName := ⟨RJ6, "bitCount", "(I)I"⟩
def RJ9 : String := "java/lang/Math"
def TJ9 : u_T := fun k => match k with
  | _ => ("", "", "", false)
def tyJ9 : Nat → FieldType := fun k => match k with
  | _ => .int
abbrev wsJ90 : List Cond := u_ws RJ9 TJ9 0
theorem nmJ9 : ∀ a, a < 0 → ∀ b, b < 0 → a ≠ b → (TJ9 a).2.1 ≠ (TJ9 b).2.1 := by decide +kernel
theorem tyJ9_ok : ∀ k, k < 0 → parseFieldDescriptor (TJ9 k).2.2.1 = some (tyJ9 k) := by decide +kernel
abbrev cJ9_max_7cf53 : ByteArray := prog_12_method_65_code
def yJ9_max_7cf53 : MethodName := ⟨RJ9, "max", "(II)I"⟩
abbrev cJ9_min_7cf53 : ByteArray := prog_12_method_69_code
def yJ9_min_7cf53 : MethodName := ⟨RJ9, "min", "(II)I"⟩
def RJ10 : String := "java/lang/System"
def TJ10 : u_T := fun k => match k with
  | _ => ("", "", "", false)
def tyJ10 : Nat → FieldType := fun k => match k with
  | _ => .int
abbrev wsJ100 : List Cond := u_ws RJ10 TJ10 0
theorem nmJ10 : ∀ a, a < 0 → ∀ b, b < 0 → a ≠ b → (TJ10 a).2.1 ≠ (TJ10 b).2.1 := by decide +kernel
theorem tyJ10_ok : ∀ k, k < 0 → parseFieldDescriptor (TJ10 k).2.2.1 = some (tyJ10 k) := by decide +kernel
def RJ7 : String := "java/util/Arrays"
def TJ7 : u_T := fun k => match k with
  | _ => ("", "", "", false)
def tyJ7 : Nat → FieldType := fun k => match k with
  | _ => .int
abbrev wsJ70 : List Cond := u_ws RJ7 TJ7 0
theorem nmJ7 : ∀ a, a < 0 → ∀ b, b < 0 → a ≠ b → (TJ7 a).2.1 ≠ (TJ7 b).2.1 := by decide +kernel
theorem tyJ7_ok : ∀ k, k < 0 → parseFieldDescriptor (TJ7 k).2.2.1 = some (tyJ7 k) := by decide +kernel
abbrev cJ7_fill_53178 : ByteArray := prog_14_method_103_code
def yJ7_fill_53178 : MethodName := ⟨RJ7, "fill", "([II)V"⟩
def RL : String := "EggScalesLaw"
abbrev cL_law : ByteArray := code
def yL_law : MethodName := ⟨RL, "law", "([I)Z"⟩
abbrev vwCl : List vw_C := [(RX0, TX0, 6), (RX1, TX1, 2), (RX2, TX2, 3), (RX3, TX3, 7), (RX4, TX4, 6), (RX5, TX5, 8), (RX6, TX6, 7), (RX7, TX7, 11), (RX8, TX8, 31)]
