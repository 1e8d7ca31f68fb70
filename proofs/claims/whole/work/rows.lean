section
-- ===== PART A: goes FIRST, ahead of the names: the tables' words, and 'selects' of the private methods out of them =====
/-- a private method of a class that the tables say can be made, by its rows of tables_1 -/
def lw_okq (q : MethodName × Nat) : Prop := (q.1.cls ≠ "java/lang/invoke/MethodHandle" ∧ q.1.cls ≠ "java/lang/invoke/VarHandle") ∧ Cond.instantiable q.1.cls q.2 ∈ tables_1 ∧ Cond.privateMethod q.1 ∈ tables_1 ∧ Cond.instanceMethod q.1 ∈ tables_1
theorem lw_p0 : lw_okq (⟨"EggScales$Reader", "readToken", "()V"⟩, 7) := ⟨⟨by decide +kernel, by decide +kernel⟩, List.mem_of_getElem? (i := 23) (by decide +kernel), List.mem_of_getElem? (i := 291) (by decide +kernel), List.mem_of_getElem? (i := 292) (by decide +kernel)⟩
theorem lw_p1 : lw_okq (⟨"EggScales$Reader", "digitAt", "(I)Z"⟩, 7) := ⟨⟨by decide +kernel, by decide +kernel⟩, List.mem_of_getElem? (i := 23) (by decide +kernel), List.mem_of_getElem? (i := 295) (by decide +kernel), List.mem_of_getElem? (i := 296) (by decide +kernel)⟩
theorem lw_p2 : lw_okq (⟨"EggScales$Reader", "readDigits", "()V"⟩, 7) := ⟨⟨by decide +kernel, by decide +kernel⟩, List.mem_of_getElem? (i := 23) (by decide +kernel), List.mem_of_getElem? (i := 299) (by decide +kernel), List.mem_of_getElem? (i := 300) (by decide +kernel)⟩
theorem lw_p3 : lw_okq (⟨"EggScales$Reader", "readItem", "()Z"⟩, 7) := ⟨⟨by decide +kernel, by decide +kernel⟩, List.mem_of_getElem? (i := 23) (by decide +kernel), List.mem_of_getElem? (i := 306) (by decide +kernel), List.mem_of_getElem? (i := 307) (by decide +kernel)⟩
theorem lw_p4 : lw_okq (⟨"EggScales$Reader", "readScale", "(I)Z"⟩, 7) := ⟨⟨by decide +kernel, by decide +kernel⟩, List.mem_of_getElem? (i := 23) (by decide +kernel), List.mem_of_getElem? (i := 310) (by decide +kernel), List.mem_of_getElem? (i := 311) (by decide +kernel)⟩
theorem lw_p5 : lw_okq (⟨"EggScales$Reader", "readNumber", "(II)Z"⟩, 7) := ⟨⟨by decide +kernel, by decide +kernel⟩, List.mem_of_getElem? (i := 23) (by decide +kernel), List.mem_of_getElem? (i := 314) (by decide +kernel), List.mem_of_getElem? (i := 315) (by decide +kernel)⟩
theorem lw_p6 : lw_okq (⟨"EggScales$Reader", "readEnd", "()Z"⟩, 7) := ⟨⟨by decide +kernel, by decide +kernel⟩, List.mem_of_getElem? (i := 23) (by decide +kernel), List.mem_of_getElem? (i := 319) (by decide +kernel), List.mem_of_getElem? (i := 320) (by decide +kernel)⟩
theorem lw_p7 : lw_okq (⟨"EggScales$Reader", "readEgg", "(I)Z"⟩, 7) := ⟨⟨by decide +kernel, by decide +kernel⟩, List.mem_of_getElem? (i := 23) (by decide +kernel), List.mem_of_getElem? (i := 323) (by decide +kernel), List.mem_of_getElem? (i := 324) (by decide +kernel)⟩
theorem lw_p8 : lw_okq (⟨"EggScales", "noScale", "(I)Z"⟩, 11) := ⟨⟨by decide +kernel, by decide +kernel⟩, List.mem_of_getElem? (i := 15) (by decide +kernel), List.mem_of_getElem? (i := 346) (by decide +kernel), List.mem_of_getElem? (i := 347) (by decide +kernel)⟩
theorem lw_p9 : lw_okq (⟨"EggScales", "noEgg", "(I)Z"⟩, 11) := ⟨⟨by decide +kernel, by decide +kernel⟩, List.mem_of_getElem? (i := 15) (by decide +kernel), List.mem_of_getElem? (i := 362) (by decide +kernel), List.mem_of_getElem? (i := 363) (by decide +kernel)⟩
theorem lw_p10 : lw_okq (⟨"EggScales$Floor", "highestMark", "(II)I"⟩, 6) := ⟨⟨by decide +kernel, by decide +kernel⟩, List.mem_of_getElem? (i := 109) (by decide +kernel), List.mem_of_getElem? (i := 408) (by decide +kernel), List.mem_of_getElem? (i := 409) (by decide +kernel)⟩
theorem lw_p11 : lw_okq (⟨"EggScales$Floor", "stiffness", "(I)I"⟩, 6) := ⟨⟨by decide +kernel, by decide +kernel⟩, List.mem_of_getElem? (i := 109) (by decide +kernel), List.mem_of_getElem? (i := 413) (by decide +kernel), List.mem_of_getElem? (i := 414) (by decide +kernel)⟩
theorem lw_p12 : lw_okq (⟨"EggScales$Floor", "isFull", "(I)Z"⟩, 6) := ⟨⟨by decide +kernel, by decide +kernel⟩, List.mem_of_getElem? (i := 109) (by decide +kernel), List.mem_of_getElem? (i := 417) (by decide +kernel), List.mem_of_getElem? (i := 418) (by decide +kernel)⟩
theorem lw_p13 : lw_okq (⟨"EggScales$Search", "rollOneMore", "(II)V"⟩, 6) := ⟨⟨by decide +kernel, by decide +kernel⟩, List.mem_of_getElem? (i := 161) (by decide +kernel), List.mem_of_getElem? (i := 485) (by decide +kernel), List.mem_of_getElem? (i := 486) (by decide +kernel)⟩
theorem lw_p14 : lw_okq (⟨"EggScales$Search", "keepTried", "(I)V"⟩, 6) := ⟨⟨by decide +kernel, by decide +kernel⟩, List.mem_of_getElem? (i := 161) (by decide +kernel), List.mem_of_getElem? (i := 489) (by decide +kernel), List.mem_of_getElem? (i := 490) (by decide +kernel)⟩
theorem lw_p15 : lw_okq (⟨"EggScales$Search", "rollEach", "(II)V"⟩, 6) := ⟨⟨by decide +kernel, by decide +kernel⟩, List.mem_of_getElem? (i := 161) (by decide +kernel), List.mem_of_getElem? (i := 494) (by decide +kernel), List.mem_of_getElem? (i := 495) (by decide +kernel)⟩
def lw_privs_1 : List (MethodName × Nat) := [(⟨"EggScales$Reader", "readToken", "()V"⟩, 7), (⟨"EggScales$Reader", "digitAt", "(I)Z"⟩, 7), (⟨"EggScales$Reader", "readDigits", "()V"⟩, 7), (⟨"EggScales$Reader", "readItem", "()Z"⟩, 7), (⟨"EggScales$Reader", "readScale", "(I)Z"⟩, 7), (⟨"EggScales$Reader", "readNumber", "(II)Z"⟩, 7), (⟨"EggScales$Reader", "readEnd", "()Z"⟩, 7), (⟨"EggScales$Reader", "readEgg", "(I)Z"⟩, 7), (⟨"EggScales", "noScale", "(I)Z"⟩, 11), (⟨"EggScales", "noEgg", "(I)Z"⟩, 11), (⟨"EggScales$Floor", "highestMark", "(II)I"⟩, 6), (⟨"EggScales$Floor", "stiffness", "(I)I"⟩, 6), (⟨"EggScales$Floor", "isFull", "(I)Z"⟩, 6), (⟨"EggScales$Search", "rollOneMore", "(II)V"⟩, 6), (⟨"EggScales$Search", "keepTried", "(I)V"⟩, 6), (⟨"EggScales$Search", "rollEach", "(II)V"⟩, 6)]
theorem lw_r1 : ∀ q ∈ lw_privs_1, lw_okq q := List.forall_mem_cons.mpr ⟨lw_p0, List.forall_mem_cons.mpr ⟨lw_p1, List.forall_mem_cons.mpr ⟨lw_p2, List.forall_mem_cons.mpr ⟨lw_p3, List.forall_mem_cons.mpr ⟨lw_p4, List.forall_mem_cons.mpr ⟨lw_p5, List.forall_mem_cons.mpr ⟨lw_p6, List.forall_mem_cons.mpr ⟨lw_p7, List.forall_mem_cons.mpr ⟨lw_p8, List.forall_mem_cons.mpr ⟨lw_p9, List.forall_mem_cons.mpr ⟨lw_p10, List.forall_mem_cons.mpr ⟨lw_p11, List.forall_mem_cons.mpr ⟨lw_p12, List.forall_mem_cons.mpr ⟨lw_p13, List.forall_mem_cons.mpr ⟨lw_p14, List.forall_mem_cons.mpr ⟨lw_p15, fun _ h => absurd h List.not_mem_nil⟩⟩⟩⟩⟩⟩⟩⟩⟩⟩⟩⟩⟩⟩⟩⟩
theorem lw_p16 : lw_okq (⟨"EggScales$Search", "placeOneMore", "(II)V"⟩, 6) := ⟨⟨by decide +kernel, by decide +kernel⟩, List.mem_of_getElem? (i := 161) (by decide +kernel), List.mem_of_getElem? (i := 508) (by decide +kernel), List.mem_of_getElem? (i := 509) (by decide +kernel)⟩
theorem lw_p17 : lw_okq (⟨"EggScales$Search", "tryRow", "()V"⟩, 6) := ⟨⟨by decide +kernel, by decide +kernel⟩, List.mem_of_getElem? (i := 161) (by decide +kernel), List.mem_of_getElem? (i := 512) (by decide +kernel), List.mem_of_getElem? (i := 513) (by decide +kernel)⟩
theorem lw_p18 : lw_okq (⟨"EggScales$Search", "placeEach", "(II)V"⟩, 6) := ⟨⟨by decide +kernel, by decide +kernel⟩, List.mem_of_getElem? (i := 161) (by decide +kernel), List.mem_of_getElem? (i := 516) (by decide +kernel), List.mem_of_getElem? (i := 517) (by decide +kernel)⟩
theorem lw_p19 : lw_okq (⟨"EggScales$Packer", "isBox", "(IIII)Z"⟩, 2) := ⟨⟨by decide +kernel, by decide +kernel⟩, List.mem_of_getElem? (i := 192) (by decide +kernel), List.mem_of_getElem? (i := 561) (by decide +kernel), List.mem_of_getElem? (i := 562) (by decide +kernel)⟩
theorem lw_p20 : lw_okq (⟨"EggScales$Tester", "addIfSo", "(II)V"⟩, 8) := ⟨⟨by decide +kernel, by decide +kernel⟩, List.mem_of_getElem? (i := 205) (by decide +kernel), List.mem_of_getElem? (i := 600) (by decide +kernel), List.mem_of_getElem? (i := 601) (by decide +kernel)⟩
theorem lw_p21 : lw_okq (⟨"EggScales$Tester", "fallsFrom", "(III)I"⟩, 8) := ⟨⟨by decide +kernel, by decide +kernel⟩, List.mem_of_getElem? (i := 205) (by decide +kernel), List.mem_of_getElem? (i := 604) (by decide +kernel), List.mem_of_getElem? (i := 605) (by decide +kernel)⟩
theorem lw_p22 : lw_okq (⟨"EggScales$Tester", "greatestPart", "(I)I"⟩, 8) := ⟨⟨by decide +kernel, by decide +kernel⟩, List.mem_of_getElem? (i := 205) (by decide +kernel), List.mem_of_getElem? (i := 624) (by decide +kernel), List.mem_of_getElem? (i := 625) (by decide +kernel)⟩
theorem lw_p23 : lw_okq (⟨"EggScales", "rateEgg", "(I)I"⟩, 11) := ⟨⟨by decide +kernel, by decide +kernel⟩, List.mem_of_getElem? (i := 15) (by decide +kernel), List.mem_of_getElem? (i := 635) (by decide +kernel), List.mem_of_getElem? (i := 636) (by decide +kernel)⟩
theorem lw_p24 : lw_okq (⟨"EggScales", "rateBrown", "(I)I"⟩, 11) := ⟨⟨by decide +kernel, by decide +kernel⟩, List.mem_of_getElem? (i := 15) (by decide +kernel), List.mem_of_getElem? (i := 639) (by decide +kernel), List.mem_of_getElem? (i := 640) (by decide +kernel)⟩
theorem lw_p25 : lw_okq (⟨"EggScales", "rateDouble", "(I)I"⟩, 11) := ⟨⟨by decide +kernel, by decide +kernel⟩, List.mem_of_getElem? (i := 15) (by decide +kernel), List.mem_of_getElem? (i := 644) (by decide +kernel), List.mem_of_getElem? (i := 645) (by decide +kernel)⟩
theorem lw_p26 : lw_okq (⟨"EggScales", "rateCracked", "(I)I"⟩, 11) := ⟨⟨by decide +kernel, by decide +kernel⟩, List.mem_of_getElem? (i := 15) (by decide +kernel), List.mem_of_getElem? (i := 649) (by decide +kernel), List.mem_of_getElem? (i := 650) (by decide +kernel)⟩
theorem lw_p27 : lw_okq (⟨"EggScales", "rateDuck", "(I)I"⟩, 11) := ⟨⟨by decide +kernel, by decide +kernel⟩, List.mem_of_getElem? (i := 15) (by decide +kernel), List.mem_of_getElem? (i := 654) (by decide +kernel), List.mem_of_getElem? (i := 655) (by decide +kernel)⟩
theorem lw_p28 : lw_okq (⟨"EggScales", "rateBantam", "(I)I"⟩, 11) := ⟨⟨by decide +kernel, by decide +kernel⟩, List.mem_of_getElem? (i := 15) (by decide +kernel), List.mem_of_getElem? (i := 659) (by decide +kernel), List.mem_of_getElem? (i := 660) (by decide +kernel)⟩
theorem lw_p29 : lw_okq (⟨"EggScalesModel", "reads", "()V"⟩, 31) := ⟨⟨by decide +kernel, by decide +kernel⟩, List.mem_of_getElem? (i := 680) (by decide +kernel), List.mem_of_getElem? (i := 795) (by decide +kernel), List.mem_of_getElem? (i := 796) (by decide +kernel)⟩
theorem lw_p30 : lw_okq (⟨"EggScalesModel", "letterAt", "(I)I"⟩, 31) := ⟨⟨by decide +kernel, by decide +kernel⟩, List.mem_of_getElem? (i := 680) (by decide +kernel), List.mem_of_getElem? (i := 799) (by decide +kernel), List.mem_of_getElem? (i := 800) (by decide +kernel)⟩
theorem lw_p31 : lw_okq (⟨"EggScalesModel", "readItem", "()V"⟩, 31) := ⟨⟨by decide +kernel, by decide +kernel⟩, List.mem_of_getElem? (i := 680) (by decide +kernel), List.mem_of_getElem? (i := 806) (by decide +kernel), List.mem_of_getElem? (i := 807) (by decide +kernel)⟩
def lw_privs_2 : List (MethodName × Nat) := [(⟨"EggScales$Search", "placeOneMore", "(II)V"⟩, 6), (⟨"EggScales$Search", "tryRow", "()V"⟩, 6), (⟨"EggScales$Search", "placeEach", "(II)V"⟩, 6), (⟨"EggScales$Packer", "isBox", "(IIII)Z"⟩, 2), (⟨"EggScales$Tester", "addIfSo", "(II)V"⟩, 8), (⟨"EggScales$Tester", "fallsFrom", "(III)I"⟩, 8), (⟨"EggScales$Tester", "greatestPart", "(I)I"⟩, 8), (⟨"EggScales", "rateEgg", "(I)I"⟩, 11), (⟨"EggScales", "rateBrown", "(I)I"⟩, 11), (⟨"EggScales", "rateDouble", "(I)I"⟩, 11), (⟨"EggScales", "rateCracked", "(I)I"⟩, 11), (⟨"EggScales", "rateDuck", "(I)I"⟩, 11), (⟨"EggScales", "rateBantam", "(I)I"⟩, 11), (⟨"EggScalesModel", "reads", "()V"⟩, 31), (⟨"EggScalesModel", "letterAt", "(I)I"⟩, 31), (⟨"EggScalesModel", "readItem", "()V"⟩, 31)]
theorem lw_r2 : ∀ q ∈ lw_privs_2, lw_okq q := List.forall_mem_cons.mpr ⟨lw_p16, List.forall_mem_cons.mpr ⟨lw_p17, List.forall_mem_cons.mpr ⟨lw_p18, List.forall_mem_cons.mpr ⟨lw_p19, List.forall_mem_cons.mpr ⟨lw_p20, List.forall_mem_cons.mpr ⟨lw_p21, List.forall_mem_cons.mpr ⟨lw_p22, List.forall_mem_cons.mpr ⟨lw_p23, List.forall_mem_cons.mpr ⟨lw_p24, List.forall_mem_cons.mpr ⟨lw_p25, List.forall_mem_cons.mpr ⟨lw_p26, List.forall_mem_cons.mpr ⟨lw_p27, List.forall_mem_cons.mpr ⟨lw_p28, List.forall_mem_cons.mpr ⟨lw_p29, List.forall_mem_cons.mpr ⟨lw_p30, List.forall_mem_cons.mpr ⟨lw_p31, fun _ h => absurd h List.not_mem_nil⟩⟩⟩⟩⟩⟩⟩⟩⟩⟩⟩⟩⟩⟩⟩⟩
theorem lw_p32 : lw_okq (⟨"EggScalesModel", "takesNumber", "(II)I"⟩, 31) := ⟨⟨by decide +kernel, by decide +kernel⟩, List.mem_of_getElem? (i := 680) (by decide +kernel), List.mem_of_getElem? (i := 810) (by decide +kernel), List.mem_of_getElem? (i := 811) (by decide +kernel)⟩
theorem lw_p33 : lw_okq (⟨"EggScalesModel", "settles", "()V"⟩, 31) := ⟨⟨by decide +kernel, by decide +kernel⟩, List.mem_of_getElem? (i := 680) (by decide +kernel), List.mem_of_getElem? (i := 814) (by decide +kernel), List.mem_of_getElem? (i := 815) (by decide +kernel)⟩
theorem lw_p34 : lw_okq (⟨"EggScalesModel", "isScale", "(I)Z"⟩, 31) := ⟨⟨by decide +kernel, by decide +kernel⟩, List.mem_of_getElem? (i := 680) (by decide +kernel), List.mem_of_getElem? (i := 822) (by decide +kernel), List.mem_of_getElem? (i := 823) (by decide +kernel)⟩
theorem lw_p35 : lw_okq (⟨"EggScalesModel", "asItIs", "()V"⟩, 31) := ⟨⟨by decide +kernel, by decide +kernel⟩, List.mem_of_getElem? (i := 680) (by decide +kernel), List.mem_of_getElem? (i := 826) (by decide +kernel), List.mem_of_getElem? (i := 827) (by decide +kernel)⟩
theorem lw_p36 : lw_okq (⟨"EggScalesModel", "placeOf", "(I)I"⟩, 31) := ⟨⟨by decide +kernel, by decide +kernel⟩, List.mem_of_getElem? (i := 680) (by decide +kernel), List.mem_of_getElem? (i := 833) (by decide +kernel), List.mem_of_getElem? (i := 834) (by decide +kernel)⟩
theorem lw_p37 : lw_okq (⟨"EggScalesModel", "inPlace", "(I)I"⟩, 31) := ⟨⟨by decide +kernel, by decide +kernel⟩, List.mem_of_getElem? (i := 680) (by decide +kernel), List.mem_of_getElem? (i := 837) (by decide +kernel), List.mem_of_getElem? (i := 838) (by decide +kernel)⟩
theorem lw_p38 : lw_okq (⟨"EggScalesModel", "isEgg", "(I)Z"⟩, 31) := ⟨⟨by decide +kernel, by decide +kernel⟩, List.mem_of_getElem? (i := 680) (by decide +kernel), List.mem_of_getElem? (i := 845) (by decide +kernel), List.mem_of_getElem? (i := 846) (by decide +kernel)⟩
theorem lw_p39 : lw_okq (⟨"EggScalesModel", "seemsAs", "(II)I"⟩, 31) := ⟨⟨by decide +kernel, by decide +kernel⟩, List.mem_of_getElem? (i := 680) (by decide +kernel), List.mem_of_getElem? (i := 849) (by decide +kernel), List.mem_of_getElem? (i := 850) (by decide +kernel)⟩
theorem lw_p40 : lw_okq (⟨"EggScalesModel", "belongsAs", "(I)I"⟩, 31) := ⟨⟨by decide +kernel, by decide +kernel⟩, List.mem_of_getElem? (i := 680) (by decide +kernel), List.mem_of_getElem? (i := 853) (by decide +kernel), List.mem_of_getElem? (i := 854) (by decide +kernel)⟩
theorem lw_p41 : lw_okq (⟨"EggScalesModel", "right", "()I"⟩, 31) := ⟨⟨by decide +kernel, by decide +kernel⟩, List.mem_of_getElem? (i := 680) (by decide +kernel), List.mem_of_getElem? (i := 861) (by decide +kernel), List.mem_of_getElem? (i := 862) (by decide +kernel)⟩
theorem lw_p42 : lw_okq (⟨"EggScalesModel", "fellAll", "()I"⟩, 31) := ⟨⟨by decide +kernel, by decide +kernel⟩, List.mem_of_getElem? (i := 680) (by decide +kernel), List.mem_of_getElem? (i := 865) (by decide +kernel), List.mem_of_getElem? (i := 866) (by decide +kernel)⟩
theorem lw_p43 : lw_okq (⟨"EggScalesModel", "remembers", "()V"⟩, 31) := ⟨⟨by decide +kernel, by decide +kernel⟩, List.mem_of_getElem? (i := 680) (by decide +kernel), List.mem_of_getElem? (i := 873) (by decide +kernel), List.mem_of_getElem? (i := 874) (by decide +kernel)⟩
theorem lw_p44 : lw_okq (⟨"EggScalesModel", "rolled", "(I)I"⟩, 31) := ⟨⟨by decide +kernel, by decide +kernel⟩, List.mem_of_getElem? (i := 680) (by decide +kernel), List.mem_of_getElem? (i := 877) (by decide +kernel), List.mem_of_getElem? (i := 878) (by decide +kernel)⟩
theorem lw_p45 : lw_okq (⟨"EggScalesModel", "stiffOf", "(I)I"⟩, 31) := ⟨⟨by decide +kernel, by decide +kernel⟩, List.mem_of_getElem? (i := 680) (by decide +kernel), List.mem_of_getElem? (i := 881) (by decide +kernel), List.mem_of_getElem? (i := 882) (by decide +kernel)⟩
theorem lw_p46 : lw_okq (⟨"EggScalesModel", "isFull", "(I)Z"⟩, 31) := ⟨⟨by decide +kernel, by decide +kernel⟩, List.mem_of_getElem? (i := 680) (by decide +kernel), List.mem_of_getElem? (i := 885) (by decide +kernel), List.mem_of_getElem? (i := 886) (by decide +kernel)⟩
theorem lw_p47 : lw_okq (⟨"EggScalesModel", "lighter", "(II)I"⟩, 31) := ⟨⟨by decide +kernel, by decide +kernel⟩, List.mem_of_getElem? (i := 680) (by decide +kernel), List.mem_of_getElem? (i := 892) (by decide +kernel), List.mem_of_getElem? (i := 893) (by decide +kernel)⟩
def lw_privs_3 : List (MethodName × Nat) := [(⟨"EggScalesModel", "takesNumber", "(II)I"⟩, 31), (⟨"EggScalesModel", "settles", "()V"⟩, 31), (⟨"EggScalesModel", "isScale", "(I)Z"⟩, 31), (⟨"EggScalesModel", "asItIs", "()V"⟩, 31), (⟨"EggScalesModel", "placeOf", "(I)I"⟩, 31), (⟨"EggScalesModel", "inPlace", "(I)I"⟩, 31), (⟨"EggScalesModel", "isEgg", "(I)Z"⟩, 31), (⟨"EggScalesModel", "seemsAs", "(II)I"⟩, 31), (⟨"EggScalesModel", "belongsAs", "(I)I"⟩, 31), (⟨"EggScalesModel", "right", "()I"⟩, 31), (⟨"EggScalesModel", "fellAll", "()I"⟩, 31), (⟨"EggScalesModel", "remembers", "()V"⟩, 31), (⟨"EggScalesModel", "rolled", "(I)I"⟩, 31), (⟨"EggScalesModel", "stiffOf", "(I)I"⟩, 31), (⟨"EggScalesModel", "isFull", "(I)Z"⟩, 31), (⟨"EggScalesModel", "lighter", "(II)I"⟩, 31)]
theorem lw_r3 : ∀ q ∈ lw_privs_3, lw_okq q := List.forall_mem_cons.mpr ⟨lw_p32, List.forall_mem_cons.mpr ⟨lw_p33, List.forall_mem_cons.mpr ⟨lw_p34, List.forall_mem_cons.mpr ⟨lw_p35, List.forall_mem_cons.mpr ⟨lw_p36, List.forall_mem_cons.mpr ⟨lw_p37, List.forall_mem_cons.mpr ⟨lw_p38, List.forall_mem_cons.mpr ⟨lw_p39, List.forall_mem_cons.mpr ⟨lw_p40, List.forall_mem_cons.mpr ⟨lw_p41, List.forall_mem_cons.mpr ⟨lw_p42, List.forall_mem_cons.mpr ⟨lw_p43, List.forall_mem_cons.mpr ⟨lw_p44, List.forall_mem_cons.mpr ⟨lw_p45, List.forall_mem_cons.mpr ⟨lw_p46, List.forall_mem_cons.mpr ⟨lw_p47, fun _ h => absurd h List.not_mem_nil⟩⟩⟩⟩⟩⟩⟩⟩⟩⟩⟩⟩⟩⟩⟩⟩
theorem lw_p48 : lw_okq (⟨"EggScalesModel", "isOrder", "(III)Z"⟩, 31) := ⟨⟨by decide +kernel, by decide +kernel⟩, List.mem_of_getElem? (i := 680) (by decide +kernel), List.mem_of_getElem? (i := 931) (by decide +kernel), List.mem_of_getElem? (i := 932) (by decide +kernel)⟩
theorem lw_p49 : lw_okq (⟨"EggScalesModel", "keepsOrder", "()V"⟩, 31) := ⟨⟨by decide +kernel, by decide +kernel⟩, List.mem_of_getElem? (i := 680) (by decide +kernel), List.mem_of_getElem? (i := 938) (by decide +kernel), List.mem_of_getElem? (i := 939) (by decide +kernel)⟩
theorem lw_p50 : lw_okq (⟨"EggScalesModel", "rollsAll", "()V"⟩, 31) := ⟨⟨by decide +kernel, by decide +kernel⟩, List.mem_of_getElem? (i := 680) (by decide +kernel), List.mem_of_getElem? (i := 946) (by decide +kernel), List.mem_of_getElem? (i := 947) (by decide +kernel)⟩
theorem lw_p51 : lw_okq (⟨"EggScalesModel", "boxed", "(III)I"⟩, 31) := ⟨⟨by decide +kernel, by decide +kernel⟩, List.mem_of_getElem? (i := 680) (by decide +kernel), List.mem_of_getElem? (i := 965) (by decide +kernel), List.mem_of_getElem? (i := 966) (by decide +kernel)⟩
theorem lw_p52 : lw_okq (⟨"EggScalesModel", "allWays", "()I"⟩, 31) := ⟨⟨by decide +kernel, by decide +kernel⟩, List.mem_of_getElem? (i := 680) (by decide +kernel), List.mem_of_getElem? (i := 985) (by decide +kernel), List.mem_of_getElem? (i := 986) (by decide +kernel)⟩
theorem lw_p53 : lw_okq (⟨"EggScalesModel", "isSo", "(II)Z"⟩, 31) := ⟨⟨by decide +kernel, by decide +kernel⟩, List.mem_of_getElem? (i := 680) (by decide +kernel), List.mem_of_getElem? (i := 989) (by decide +kernel), List.mem_of_getElem? (i := 990) (by decide +kernel)⟩
theorem lw_p54 : lw_okq (⟨"EggScalesModel", "fallsFrom", "(III)I"⟩, 31) := ⟨⟨by decide +kernel, by decide +kernel⟩, List.mem_of_getElem? (i := 680) (by decide +kernel), List.mem_of_getElem? (i := 993) (by decide +kernel), List.mem_of_getElem? (i := 994) (by decide +kernel)⟩
theorem lw_p55 : lw_okq (⟨"EggScalesModel", "waysOff", "(I)I"⟩, 31) := ⟨⟨by decide +kernel, by decide +kernel⟩, List.mem_of_getElem? (i := 680) (by decide +kernel), List.mem_of_getElem? (i := 997) (by decide +kernel), List.mem_of_getElem? (i := 998) (by decide +kernel)⟩
theorem lw_p56 : lw_okq (⟨"EggScalesModel", "greatest", "(I)I"⟩, 31) := ⟨⟨by decide +kernel, by decide +kernel⟩, List.mem_of_getElem? (i := 680) (by decide +kernel), List.mem_of_getElem? (i := 1005) (by decide +kernel), List.mem_of_getElem? (i := 1006) (by decide +kernel)⟩
theorem lw_p57 : lw_okq (⟨"EggScalesModel", "adds", "(III)V"⟩, 31) := ⟨⟨by decide +kernel, by decide +kernel⟩, List.mem_of_getElem? (i := 680) (by decide +kernel), List.mem_of_getElem? (i := 1009) (by decide +kernel), List.mem_of_getElem? (i := 1010) (by decide +kernel)⟩
def lw_privs_4 : List (MethodName × Nat) := [(⟨"EggScalesModel", "isOrder", "(III)Z"⟩, 31), (⟨"EggScalesModel", "keepsOrder", "()V"⟩, 31), (⟨"EggScalesModel", "rollsAll", "()V"⟩, 31), (⟨"EggScalesModel", "boxed", "(III)I"⟩, 31), (⟨"EggScalesModel", "allWays", "()I"⟩, 31), (⟨"EggScalesModel", "isSo", "(II)Z"⟩, 31), (⟨"EggScalesModel", "fallsFrom", "(III)I"⟩, 31), (⟨"EggScalesModel", "waysOff", "(I)I"⟩, 31), (⟨"EggScalesModel", "greatest", "(I)I"⟩, 31), (⟨"EggScalesModel", "adds", "(III)V"⟩, 31)]
theorem lw_r4 : ∀ q ∈ lw_privs_4, lw_okq q := List.forall_mem_cons.mpr ⟨lw_p48, List.forall_mem_cons.mpr ⟨lw_p49, List.forall_mem_cons.mpr ⟨lw_p50, List.forall_mem_cons.mpr ⟨lw_p51, List.forall_mem_cons.mpr ⟨lw_p52, List.forall_mem_cons.mpr ⟨lw_p53, List.forall_mem_cons.mpr ⟨lw_p54, List.forall_mem_cons.mpr ⟨lw_p55, List.forall_mem_cons.mpr ⟨lw_p56, List.forall_mem_cons.mpr ⟨lw_p57, fun _ h => absurd h List.not_mem_nil⟩⟩⟩⟩⟩⟩⟩⟩⟩⟩
def lw_privs : List (MethodName × Nat) := lw_privs_1 ++ (lw_privs_2 ++ (lw_privs_3 ++ (lw_privs_4)))
def lw_tbl : List Cond := k2_sels lw_privs ++ tables_1
theorem lw_privs_ok : ∀ q ∈ lw_privs, lw_okq q := by
  show ∀ q ∈ lw_privs_1 ++ (lw_privs_2 ++ (lw_privs_3 ++ (lw_privs_4))), lw_okq q
  exact List.forall_mem_append.mpr ⟨lw_r1, List.forall_mem_append.mpr ⟨lw_r2, List.forall_mem_append.mpr ⟨lw_r3, lw_r4⟩⟩⟩
-- ===== end of PART A; then your names; then what follows =====
def RX0 : String := "EggScales$Floor"
def TX0 : u_T := fun k => match k with
  | 0 => ("EggScales$Floor", "told", "LEggScales$Told;", true)
  | 1 => ("EggScales$Floor", "where", "[I", true)
  | 2 => ("EggScales$Floor", "weight", "[I", true)
  | 3 => ("EggScales$Floor", "mark", "[I", true)
  | 4 => ("EggScales$Floor", "row", "[I", true)
  | _ => ("EggScales$Floor", "fallen", "[I", true)
def tyX0 : Nat → FieldType := fun k => match k with
  | 0 => .object "EggScales$Told"
  | 1 => .array .int
  | 2 => .array .int
  | 3 => .array .int
  | 4 => .array .int
  | _ => .array .int
abbrev wsX00 : List Cond := u_ws RX0 TX0 6
theorem nmX0 : ∀ a, a < 6 → ∀ b, b < 6 → a ≠ b → (TX0 a).2.1 ≠ (TX0 b).2.1 := by decide +kernel
theorem tyX0_ok : ∀ k, k < 6 → parseFieldDescriptor (TX0 k).2.2.1 = some (tyX0 k) := by decide +kernel
abbrev cX0_init : ByteArray := prog_2_method_1_code
def yX0_init : MethodName := ⟨RX0, "<init>", "(LEggScales$Told;)V"⟩
abbrev cX0_begin : ByteArray := prog_2_method_2_code
def yX0_begin : MethodName := ⟨RX0, "begin", "()V"⟩
abbrev cX0_become : ByteArray := prog_2_method_3_code
def yX0_become : MethodName := ⟨RX0, "become", "(LEggScales$Floor;)V"⟩
abbrev cX0_roll : ByteArray := prog_2_method_4_code
def yX0_roll : MethodName := ⟨RX0, "roll", "(I)I"⟩
abbrev cX0_highestMark : ByteArray := prog_2_method_5_code
def yX0_highestMark : MethodName := ⟨RX0, "highestMark", "(II)I"⟩
abbrev cX0_stiffness : ByteArray := prog_2_method_6_code
def yX0_stiffness : MethodName := ⟨RX0, "stiffness", "(I)I"⟩
abbrev cX0_isFull : ByteArray := prog_2_method_7_code
def yX0_isFull : MethodName := ⟨RX0, "isFull", "(I)Z"⟩
abbrev cX0_leastChange : ByteArray := prog_2_method_8_code
def yX0_leastChange : MethodName := ⟨RX0, "leastChange", "(II)I"⟩
abbrev cX0_placeOf : ByteArray := prog_2_method_9_code
def yX0_placeOf : MethodName := ⟨RX0, "placeOf", "(I)I"⟩
abbrev cX0_belongs : ByteArray := prog_2_method_10_code
def yX0_belongs : MethodName := ⟨RX0, "belongs", "(I)I"⟩
abbrev cX0_isRight : ByteArray := prog_2_method_11_code
def yX0_isRight : MethodName := ⟨RX0, "isRight", "(I)Z"⟩
abbrev cX0_rightEggs : ByteArray := prog_2_method_12_code
def yX0_rightEggs : MethodName := ⟨RX0, "rightEggs", "()I"⟩
abbrev cX0_eggsAt : ByteArray := prog_2_method_13_code
def yX0_eggsAt : MethodName := ⟨RX0, "eggsAt", "(I)I"⟩
abbrev cX0_howManyAt : ByteArray := prog_2_method_14_code
def yX0_howManyAt : MethodName := ⟨RX0, "howManyAt", "(I)I"⟩
abbrev cX0_eggsInTrays : ByteArray := prog_2_method_15_code
def yX0_eggsInTrays : MethodName := ⟨RX0, "eggsInTrays", "()I"⟩
abbrev cX0_wholeInNest : ByteArray := prog_2_method_16_code
def yX0_wholeInNest : MethodName := ⟨RX0, "wholeInNest", "()I"⟩
abbrev cX0_gramsOf : ByteArray := prog_2_method_17_code
def yX0_gramsOf : MethodName := ⟨RX0, "gramsOf", "(I)I"⟩
abbrev cX0_allFallen : ByteArray := prog_2_method_18_code
def yX0_allFallen : MethodName := ⟨RX0, "allFallen", "()I"⟩
def RX1 : String := "EggScales$Packer"
def TX1 : u_T := fun k => match k with
  | 0 => ("EggScales$Packer", "floor", "LEggScales$Floor;", true)
  | _ => ("EggScales$Packer", "most", "[I", true)
def tyX1 : Nat → FieldType := fun k => match k with
  | 0 => .object "EggScales$Floor"
  | _ => .array .int
abbrev wsX10 : List Cond := u_ws RX1 TX1 2
theorem nmX1 : ∀ a, a < 2 → ∀ b, b < 2 → a ≠ b → (TX1 a).2.1 ≠ (TX1 b).2.1 := by decide +kernel
theorem tyX1_ok : ∀ k, k < 2 → parseFieldDescriptor (TX1 k).2.2.1 = some (tyX1 k) := by decide +kernel
abbrev cX1_init : ByteArray := prog_3_method_1_code
def yX1_init : MethodName := ⟨RX1, "<init>", "(LEggScales$Floor;)V"⟩
abbrev cX1_lightestBox : ByteArray := prog_3_method_2_code
def yX1_lightestBox : MethodName := ⟨RX1, "lightestBox", "(II)I"⟩
abbrev cX1_isBox : ByteArray := prog_3_method_3_code
def yX1_isBox : MethodName := ⟨RX1, "isBox", "(IIII)Z"⟩
abbrev cX1_mostBoxes : ByteArray := prog_3_method_4_code
def yX1_mostBoxes : MethodName := ⟨RX1, "mostBoxes", "(II)I"⟩
def RX2 : String := "EggScales$Past"
def TX2 : u_T := fun k => match k with
  | 0 => ("EggScales$Past", "floors", "[LEggScales$Floor;", true)
  | 1 => ("EggScales$Past", "latest", "I", false)
  | _ => ("EggScales$Past", "known", "I", false)
def tyX2 : Nat → FieldType := fun k => match k with
  | 0 => .array (.object "EggScales$Floor")
  | 1 => .int
  | _ => .int
abbrev wsX20 : List Cond := u_ws RX2 TX2 3
theorem nmX2 : ∀ a, a < 3 → ∀ b, b < 3 → a ≠ b → (TX2 a).2.1 ≠ (TX2 b).2.1 := by decide +kernel
theorem tyX2_ok : ∀ k, k < 3 → parseFieldDescriptor (TX2 k).2.2.1 = some (tyX2 k) := by decide +kernel
abbrev cX2_init : ByteArray := prog_4_method_1_code
def yX2_init : MethodName := ⟨RX2, "<init>", "(LEggScales$Told;)V"⟩
abbrev cX2_remember : ByteArray := prog_4_method_2_code
def yX2_remember : MethodName := ⟨RX2, "remember", "(LEggScales$Floor;)V"⟩
abbrev cX2_recall : ByteArray := prog_4_method_3_code
def yX2_recall : MethodName := ⟨RX2, "recall", "(LEggScales$Floor;)V"⟩
def RX3 : String := "EggScales$Reader"
def TX3 : u_T := fun k => match k with
  | 0 => ("EggScales$Reader", "letters", "[C", true)
  | 1 => ("EggScales$Reader", "length", "I", false)
  | 2 => ("EggScales$Reader", "draft", "LEggScales$Told;", true)
  | 3 => ("EggScales$Reader", "place", "I", false)
  | 4 => ("EggScales$Reader", "start", "I", false)
  | 5 => ("EggScales$Reader", "token", "I", false)
  | _ => ("EggScales$Reader", "number", "I", false)
def tyX3 : Nat → FieldType := fun k => match k with
  | 0 => .array .char
  | 1 => .int
  | 2 => .object "EggScales$Told"
  | 3 => .int
  | 4 => .int
  | 5 => .int
  | _ => .int
abbrev wsX30 : List Cond := u_ws RX3 TX3 7
theorem nmX3 : ∀ a, a < 7 → ∀ b, b < 7 → a ≠ b → (TX3 a).2.1 ≠ (TX3 b).2.1 := by decide +kernel
theorem tyX3_ok : ∀ k, k < 7 → parseFieldDescriptor (TX3 k).2.2.1 = some (tyX3 k) := by decide +kernel
abbrev cX3_init : ByteArray := prog_5_method_1_code
def yX3_init : MethodName := ⟨RX3, "<init>", "()V"⟩
abbrev cX3_readItems : ByteArray := prog_5_method_2_code
def yX3_readItems : MethodName := ⟨RX3, "readItems", "()I"⟩
abbrev cX3_readItem : ByteArray := prog_5_method_3_code
def yX3_readItem : MethodName := ⟨RX3, "readItem", "()Z"⟩
abbrev cX3_readScale : ByteArray := prog_5_method_4_code
def yX3_readScale : MethodName := ⟨RX3, "readScale", "(I)Z"⟩
abbrev cX3_readEgg : ByteArray := prog_5_method_5_code
def yX3_readEgg : MethodName := ⟨RX3, "readEgg", "(I)Z"⟩
abbrev cX3_readNumber : ByteArray := prog_5_method_6_code
def yX3_readNumber : MethodName := ⟨RX3, "readNumber", "(II)Z"⟩
abbrev cX3_readEnd : ByteArray := prog_5_method_7_code
def yX3_readEnd : MethodName := ⟨RX3, "readEnd", "()Z"⟩
abbrev cX3_readToken : ByteArray := prog_5_method_8_code
def yX3_readToken : MethodName := ⟨RX3, "readToken", "()V"⟩
abbrev cX3_readDigits : ByteArray := prog_5_method_9_code
def yX3_readDigits : MethodName := ⟨RX3, "readDigits", "()V"⟩
abbrev cX3_digitAt : ByteArray := prog_5_method_10_code
def yX3_digitAt : MethodName := ⟨RX3, "digitAt", "(I)Z"⟩
def RX4 : String := "EggScales$Search"
def TX4 : u_T := fun k => match k with
  | 0 => ("EggScales$Search", "told", "LEggScales$Told;", true)
  | 1 => ("EggScales$Search", "floors", "[LEggScales$Floor;", true)
  | 2 => ("EggScales$Search", "tried", "[I", true)
  | 3 => ("EggScales$Search", "found", "[I", true)
  | 4 => ("EggScales$Search", "length", "I", false)
  | _ => ("EggScales$Search", "most", "I", false)
def tyX4 : Nat → FieldType := fun k => match k with
  | 0 => .object "EggScales$Told"
  | 1 => .array (.object "EggScales$Floor")
  | 2 => .array .int
  | 3 => .array .int
  | 4 => .int
  | _ => .int
abbrev wsX40 : List Cond := u_ws RX4 TX4 6
theorem nmX4 : ∀ a, a < 6 → ∀ b, b < 6 → a ≠ b → (TX4 a).2.1 ≠ (TX4 b).2.1 := by decide +kernel
theorem tyX4_ok : ∀ k, k < 6 → parseFieldDescriptor (TX4 k).2.2.1 = some (tyX4 k) := by decide +kernel
abbrev cX4_init : ByteArray := prog_6_method_1_code
def yX4_init : MethodName := ⟨RX4, "<init>", "(LEggScales$Told;)V"⟩
abbrev cX4_orderEggs : ByteArray := prog_6_method_2_code
def yX4_orderEggs : MethodName := ⟨RX4, "orderEggs", "(LEggScales$Floor;)V"⟩
abbrev cX4_rollOneMore : ByteArray := prog_6_method_3_code
def yX4_rollOneMore : MethodName := ⟨RX4, "rollOneMore", "(II)V"⟩
abbrev cX4_rollEach : ByteArray := prog_6_method_4_code
def yX4_rollEach : MethodName := ⟨RX4, "rollEach", "(II)V"⟩
abbrev cX4_orderScales : ByteArray := prog_6_method_5_code
def yX4_orderScales : MethodName := ⟨RX4, "orderScales", "(LEggScales$Floor;)V"⟩
abbrev cX4_placeOneMore : ByteArray := prog_6_method_6_code
def yX4_placeOneMore : MethodName := ⟨RX4, "placeOneMore", "(II)V"⟩
abbrev cX4_placeEach : ByteArray := prog_6_method_7_code
def yX4_placeEach : MethodName := ⟨RX4, "placeEach", "(II)V"⟩
abbrev cX4_tryRow : ByteArray := prog_6_method_8_code
def yX4_tryRow : MethodName := ⟨RX4, "tryRow", "()V"⟩
abbrev cX4_keepTried : ByteArray := prog_6_method_9_code
def yX4_keepTried : MethodName := ⟨RX4, "keepTried", "(I)V"⟩
def RX5 : String := "EggScales$Tester"
def TX5 : u_T := fun k => match k with
  | 0 => ("EggScales$Tester", "told", "LEggScales$Told;", true)
  | 1 => ("EggScales$Tester", "testGrams", "[I", true)
  | 2 => ("EggScales$Tester", "testScale", "[I", true)
  | 3 => ("EggScales$Tester", "tests", "I", false)
  | 4 => ("EggScales$Tester", "wayScale", "[I", true)
  | 5 => ("EggScales$Tester", "wayOff", "[I", true)
  | 6 => ("EggScales$Tester", "ways", "I", false)
  | _ => ("EggScales$Tester", "parts", "[I", true)
def tyX5 : Nat → FieldType := fun k => match k with
  | 0 => .object "EggScales$Told"
  | 1 => .array .int
  | 2 => .array .int
  | 3 => .int
  | 4 => .array .int
  | 5 => .array .int
  | 6 => .int
  | _ => .array .int
abbrev wsX50 : List Cond := u_ws RX5 TX5 8
theorem nmX5 : ∀ a, a < 8 → ∀ b, b < 8 → a ≠ b → (TX5 a).2.1 ≠ (TX5 b).2.1 := by decide +kernel
theorem tyX5_ok : ∀ k, k < 8 → parseFieldDescriptor (TX5 k).2.2.1 = some (tyX5 k) := by decide +kernel
abbrev cX5_init : ByteArray := prog_7_method_1_code
def yX5_init : MethodName := ⟨RX5, "<init>", "(LEggScales$Told;)V"⟩
abbrev cX5_add : ByteArray := prog_7_method_2_code
def yX5_add : MethodName := ⟨RX5, "add", "(II)V"⟩
abbrev cX5_findWays : ByteArray := prog_7_method_3_code
def yX5_findWays : MethodName := ⟨RX5, "findWays", "()V"⟩
abbrev cX5_addIfSo : ByteArray := prog_7_method_4_code
def yX5_addIfSo : MethodName := ⟨RX5, "addIfSo", "(II)V"⟩
abbrev cX5_fallsFrom : ByteArray := prog_7_method_5_code
def yX5_fallsFrom : MethodName := ⟨RX5, "fallsFrom", "(III)I"⟩
abbrev cX5_scalesOff : ByteArray := prog_7_method_6_code
def yX5_scalesOff : MethodName := ⟨RX5, "scalesOff", "()I"⟩
abbrev cX5_noneOff : ByteArray := prog_7_method_7_code
def yX5_noneOff : MethodName := ⟨RX5, "noneOff", "()I"⟩
abbrev cX5_weightToTry : ByteArray := prog_7_method_8_code
def yX5_weightToTry : MethodName := ⟨RX5, "weightToTry", "()I"⟩
abbrev cX5_greatestPart : ByteArray := prog_7_method_9_code
def yX5_greatestPart : MethodName := ⟨RX5, "greatestPart", "(I)I"⟩
def RX6 : String := "EggScales$Told"
def TX6 : u_T := fun k => match k with
  | 0 => ("EggScales$Told", "scales", "I", false)
  | 1 => ("EggScales$Told", "eggs", "I", false)
  | 2 => ("EggScales$Told", "mark", "[I", true)
  | 3 => ("EggScales$Told", "sticks", "[I", true)
  | 4 => ("EggScales$Told", "room", "[I", true)
  | 5 => ("EggScales$Told", "weight", "[I", true)
  | _ => ("EggScales$Told", "kind", "[I", true)
def tyX6 : Nat → FieldType := fun k => match k with
  | 0 => .int
  | 1 => .int
  | 2 => .array .int
  | 3 => .array .int
  | 4 => .array .int
  | 5 => .array .int
  | _ => .array .int
abbrev wsX60 : List Cond := u_ws RX6 TX6 7
theorem nmX6 : ∀ a, a < 7 → ∀ b, b < 7 → a ≠ b → (TX6 a).2.1 ≠ (TX6 b).2.1 := by decide +kernel
theorem tyX6_ok : ∀ k, k < 7 → parseFieldDescriptor (TX6 k).2.2.1 = some (tyX6 k) := by decide +kernel
abbrev cX6_init : ByteArray := prog_8_method_1_code
def yX6_init : MethodName := ⟨RX6, "<init>", "()V"⟩
abbrev cX6_become : ByteArray := prog_8_method_2_code
def yX6_become : MethodName := ⟨RX6, "become", "(LEggScales$Told;)V"⟩
abbrev cX6_seems : ByteArray := prog_8_method_3_code
def yX6_seems : MethodName := ⟨RX6, "seems", "(II)I"⟩
abbrev cX6_leaked : ByteArray := prog_8_method_4_code
def yX6_leaked : MethodName := ⟨RX6, "leaked", "(II)I"⟩
def RX7 : String := "EggScales"
def TX7 : u_T := fun k => match k with
  | 0 => ("EggScales", "reader", "LEggScales$Reader;", true)
  | 1 => ("EggScales", "told", "LEggScales$Told;", true)
  | 2 => ("EggScales", "floor", "LEggScales$Floor;", true)
  | 3 => ("EggScales", "trial", "LEggScales$Floor;", true)
  | 4 => ("EggScales", "past", "LEggScales$Past;", true)
  | 5 => ("EggScales", "images", "[LEggScales$Floor;", true)
  | 6 => ("EggScales", "kept", "[Z", true)
  | 7 => ("EggScales", "search", "LEggScales$Search;", true)
  | 8 => ("EggScales", "packer", "LEggScales$Packer;", true)
  | 9 => ("EggScales", "tester", "LEggScales$Tester;", true)
  | _ => ("EggScales", "traced", "J", false)
def tyX7 : Nat → FieldType := fun k => match k with
  | 0 => .object "EggScales$Reader"
  | 1 => .object "EggScales$Told"
  | 2 => .object "EggScales$Floor"
  | 3 => .object "EggScales$Floor"
  | 4 => .object "EggScales$Past"
  | 5 => .array (.object "EggScales$Floor")
  | 6 => .array .boolean
  | 7 => .object "EggScales$Search"
  | 8 => .object "EggScales$Packer"
  | 9 => .object "EggScales$Tester"
  | _ => .long
abbrev wsX70 : List Cond := u_ws RX7 TX7 11
theorem nmX7 : ∀ a, a < 11 → ∀ b, b < 11 → a ≠ b → (TX7 a).2.1 ≠ (TX7 b).2.1 := by decide +kernel
theorem tyX7_ok : ∀ k, k < 11 → parseFieldDescriptor (TX7 k).2.2.1 = some (tyX7 k) := by decide +kernel
abbrev cX7_init : ByteArray := prog_1_method_1_code
def yX7_init : MethodName := ⟨RX7, "<init>", "()V"⟩
abbrev cX7_type : ByteArray := prog_1_method_2_code
def yX7_type : MethodName := ⟨RX7, "type", "(I)I"⟩
abbrev cX7_clear : ByteArray := prog_1_method_3_code
def yX7_clear : MethodName := ⟨RX7, "clear", "()I"⟩
abbrev cX7_barn : ByteArray := prog_1_method_4_code
def yX7_barn : MethodName := ⟨RX7, "barn", "()I"⟩
abbrev cX7_scale : ByteArray := prog_1_method_5_code
def yX7_scale : MethodName := ⟨RX7, "scale", "(II)I"⟩
abbrev cX7_egg : ByteArray := prog_1_method_6_code
def yX7_egg : MethodName := ⟨RX7, "egg", "(II)I"⟩
abbrev cX7_now : ByteArray := prog_1_method_7_code
def yX7_now : MethodName := ⟨RX7, "now", "(I)I"⟩
abbrev cX7_rolls : ByteArray := prog_1_method_8_code
def yX7_rolls : MethodName := ⟨RX7, "rolls", "(I)I"⟩
abbrev cX7_takes : ByteArray := prog_1_method_9_code
def yX7_takes : MethodName := ⟨RX7, "takes", "(I)I"⟩
abbrev cX7_wipes : ByteArray := prog_1_method_10_code
def yX7_wipes : MethodName := ⟨RX7, "wipes", "(I)I"⟩
abbrev cX7_sets : ByteArray := prog_1_method_11_code
def yX7_sets : MethodName := ⟨RX7, "sets", "(II)I"⟩
abbrev cX7_shifts : ByteArray := prog_1_method_12_code
def yX7_shifts : MethodName := ⟨RX7, "shifts", "(I)I"⟩
abbrev cX7_drops : ByteArray := prog_1_method_13_code
def yX7_drops : MethodName := ⟨RX7, "drops", "(I)I"⟩
abbrev cX7_undo : ByteArray := prog_1_method_14_code
def yX7_undo : MethodName := ⟨RX7, "undo", "()I"⟩
abbrev cX7_goes : ByteArray := prog_1_method_15_code
def yX7_goes : MethodName := ⟨RX7, "goes", "(I)I"⟩
abbrev cX7_order : ByteArray := prog_1_method_16_code
def yX7_order : MethodName := ⟨RX7, "order", "(I)I"⟩
abbrev cX7_row : ByteArray := prog_1_method_17_code
def yX7_row : MethodName := ⟨RX7, "row", "(I)I"⟩
abbrev cX7_reset : ByteArray := prog_1_method_18_code
def yX7_reset : MethodName := ⟨RX7, "reset", "(II)I"⟩
abbrev cX7_cracks : ByteArray := prog_1_method_19_code
def yX7_cracks : MethodName := ⟨RX7, "cracks", "(III)I"⟩
abbrev cX7_box : ByteArray := prog_1_method_20_code
def yX7_box : MethodName := ⟨RX7, "box", "(III)I"⟩
abbrev cX7_boxes : ByteArray := prog_1_method_21_code
def yX7_boxes : MethodName := ⟨RX7, "boxes", "(II)I"⟩
abbrev cX7_tested : ByteArray := prog_1_method_22_code
def yX7_tested : MethodName := ⟨RX7, "tested", "(II)I"⟩
abbrev cX7_forget : ByteArray := prog_1_method_23_code
def yX7_forget : MethodName := ⟨RX7, "forget", "()I"⟩
abbrev cX7_can : ByteArray := prog_1_method_24_code
def yX7_can : MethodName := ⟨RX7, "can", "(I)I"⟩
abbrev cX7_next : ByteArray := prog_1_method_25_code
def yX7_next : MethodName := ⟨RX7, "next", "()I"⟩
abbrev cX7_rate : ByteArray := prog_1_method_26_code
def yX7_rate : MethodName := ⟨RX7, "rate", "(II)I"⟩
abbrev cX7_keep : ByteArray := prog_1_method_27_code
def yX7_keep : MethodName := ⟨RX7, "keep", "(I)I"⟩
abbrev cX7_back : ByteArray := prog_1_method_28_code
def yX7_back : MethodName := ⟨RX7, "back", "(I)I"⟩
abbrev cX7_count : ByteArray := prog_1_method_29_code
def yX7_count : MethodName := ⟨RX7, "count", "(I)I"⟩
abbrev cX7_trace : ByteArray := prog_1_method_30_code
def yX7_trace : MethodName := ⟨RX7, "trace", "()J"⟩
abbrev cX7_beyond : ByteArray := prog_1_method_31_code
def yX7_beyond : MethodName := ⟨RX7, "beyond", "(III)Z"⟩
abbrev cX7_noScale : ByteArray := prog_1_method_32_code
def yX7_noScale : MethodName := ⟨RX7, "noScale", "(I)Z"⟩
abbrev cX7_noEgg : ByteArray := prog_1_method_33_code
def yX7_noEgg : MethodName := ⟨RX7, "noEgg", "(I)Z"⟩
abbrev cX7_noBox : ByteArray := prog_1_method_34_code
def yX7_noBox : MethodName := ⟨RX7, "noBox", "(II)Z"⟩
abbrev cX7_rateEgg : ByteArray := prog_1_method_35_code
def yX7_rateEgg : MethodName := ⟨RX7, "rateEgg", "(I)I"⟩
abbrev cX7_rateBrown : ByteArray := prog_1_method_36_code
def yX7_rateBrown : MethodName := ⟨RX7, "rateBrown", "(I)I"⟩
abbrev cX7_rateDouble : ByteArray := prog_1_method_37_code
def yX7_rateDouble : MethodName := ⟨RX7, "rateDouble", "(I)I"⟩
abbrev cX7_rateCracked : ByteArray := prog_1_method_38_code
def yX7_rateCracked : MethodName := ⟨RX7, "rateCracked", "(I)I"⟩
abbrev cX7_rateDuck : ByteArray := prog_1_method_39_code
def yX7_rateDuck : MethodName := ⟨RX7, "rateDuck", "(I)I"⟩
abbrev cX7_rateBantam : ByteArray := prog_1_method_40_code
def yX7_rateBantam : MethodName := ⟨RX7, "rateBantam", "(I)I"⟩
abbrev cX7_waysToCrack : ByteArray := prog_1_method_41_code
def yX7_waysToCrack : MethodName := ⟨RX7, "waysToCrack", "(III)I"⟩
abbrev cX7_power : ByteArray := prog_1_method_42_code
def yX7_power : MethodName := ⟨RX7, "power", "(II)I"⟩
abbrev cX7_greatestCommon : ByteArray := prog_1_method_43_code
def yX7_greatestCommon : MethodName := ⟨RX7, "greatestCommon", "(II)I"⟩
def RX8 : String := "EggScalesModel"
def TX8 : u_T := fun k => match k with
  | 0 => ("EggScalesModel", "scales", "I", false)
  | 1 => ("EggScalesModel", "marks", "[I", true)
  | 2 => ("EggScalesModel", "sticks", "[I", true)
  | 3 => ("EggScalesModel", "rooms", "[I", true)
  | 4 => ("EggScalesModel", "eggs", "I", false)
  | 5 => ("EggScalesModel", "kinds", "[I", true)
  | 6 => ("EggScalesModel", "st", "[I", true)
  | 7 => ("EggScalesModel", "was", "[I", true)
  | 8 => ("EggScalesModel", "known", "I", false)
  | 9 => ("EggScalesModel", "images", "[I", true)
  | 10 => ("EggScalesModel", "isKept", "[Z", true)
  | 11 => ("EggScalesModel", "testMany", "I", false)
  | 12 => ("EggScalesModel", "tests", "[I", true)
  | 13 => ("EggScalesModel", "trace", "J", false)
  | 14 => ("EggScalesModel", "text", "[I", true)
  | 15 => ("EggScalesModel", "texted", "I", false)
  | 16 => ("EggScalesModel", "cursor", "I", false)
  | 17 => ("EggScalesModel", "start", "I", false)
  | 18 => ("EggScalesModel", "token", "I", false)
  | 19 => ("EggScalesModel", "number", "I", false)
  | 20 => ("EggScalesModel", "isWrong", "Z", false)
  | 21 => ("EggScalesModel", "items", "I", false)
  | 22 => ("EggScalesModel", "saidScales", "I", false)
  | 23 => ("EggScalesModel", "saidScale", "[I", true)
  | 24 => ("EggScalesModel", "saidEggs", "I", false)
  | 25 => ("EggScalesModel", "saidEgg", "[I", true)
  | 26 => ("EggScalesModel", "now", "[I", true)
  | 27 => ("EggScalesModel", "order", "[I", true)
  | 28 => ("EggScalesModel", "best", "[I", true)
  | 29 => ("EggScalesModel", "most", "[I", true)
  | _ => ("EggScalesModel", "parts", "[I", true)
def tyX8 : Nat → FieldType := fun k => match k with
  | 0 => .int
  | 1 => .array .int
  | 2 => .array .int
  | 3 => .array .int
  | 4 => .int
  | 5 => .array .int
  | 6 => .array .int
  | 7 => .array .int
  | 8 => .int
  | 9 => .array .int
  | 10 => .array .boolean
  | 11 => .int
  | 12 => .array .int
  | 13 => .long
  | 14 => .array .int
  | 15 => .int
  | 16 => .int
  | 17 => .int
  | 18 => .int
  | 19 => .int
  | 20 => .boolean
  | 21 => .int
  | 22 => .int
  | 23 => .array .int
  | 24 => .int
  | 25 => .array .int
  | 26 => .array .int
  | 27 => .array .int
  | 28 => .array .int
  | 29 => .array .int
  | _ => .array .int
abbrev wsX80 : List Cond := u_ws RX8 TX8 31
theorem nmX8 : ∀ a, a < 31 → ∀ b, b < 31 → a ≠ b → (TX8 a).2.1 ≠ (TX8 b).2.1 := by decide +kernel
theorem tyX8_ok : ∀ k, k < 31 → parseFieldDescriptor (TX8 k).2.2.1 = some (tyX8 k) := by decide +kernel
abbrev cX8_init : ByteArray := prog_10_method_1_code
def yX8_init : MethodName := ⟨RX8, "<init>", "()V"⟩
abbrev cX8_in : ByteArray := prog_10_method_3_code
def yX8_in : MethodName := ⟨RX8, "in", "(III)Z"⟩
abbrev cX8_has : ByteArray := prog_10_method_4_code
def yX8_has : MethodName := ⟨RX8, "has", "(II)Z"⟩
abbrev cX8_bits : ByteArray := prog_10_method_5_code
def yX8_bits : MethodName := ⟨RX8, "bits", "(I)I"⟩
abbrev cX8_isScale : ByteArray := prog_10_method_6_code
def yX8_isScale : MethodName := ⟨RX8, "isScale", "(I)Z"⟩
abbrev cX8_isEgg : ByteArray := prog_10_method_7_code
def yX8_isEgg : MethodName := ⟨RX8, "isEgg", "(I)Z"⟩
abbrev cX8_copy : ByteArray := prog_10_method_8_code
def yX8_copy : MethodName := ⟨RX8, "copy", "([II[II)V"⟩
abbrev cX8_type : ByteArray := prog_10_method_9_code
def yX8_type : MethodName := ⟨RX8, "type", "(I)I"⟩
abbrev cX8_clear : ByteArray := prog_10_method_10_code
def yX8_clear : MethodName := ⟨RX8, "clear", "()I"⟩
abbrev cX8_letterAt : ByteArray := prog_10_method_11_code
def yX8_letterAt : MethodName := ⟨RX8, "letterAt", "(I)I"⟩
abbrev cX8_isFigure : ByteArray := prog_10_method_12_code
def yX8_isFigure : MethodName := ⟨RX8, "isFigure", "(I)Z"⟩
abbrev cX8_reads : ByteArray := prog_10_method_13_code
def yX8_reads : MethodName := ⟨RX8, "reads", "()V"⟩
abbrev cX8_takesNumber : ByteArray := prog_10_method_14_code
def yX8_takesNumber : MethodName := ⟨RX8, "takesNumber", "(II)I"⟩
abbrev cX8_readItem : ByteArray := prog_10_method_15_code
def yX8_readItem : MethodName := ⟨RX8, "readItem", "()V"⟩
abbrev cX8_barn : ByteArray := prog_10_method_16_code
def yX8_barn : MethodName := ⟨RX8, "barn", "()I"⟩
abbrev cX8_settles : ByteArray := prog_10_method_17_code
def yX8_settles : MethodName := ⟨RX8, "settles", "()V"⟩
abbrev cX8_asItIs : ByteArray := prog_10_method_18_code
def yX8_asItIs : MethodName := ⟨RX8, "asItIs", "()V"⟩
abbrev cX8_seemsAs : ByteArray := prog_10_method_19_code
def yX8_seemsAs : MethodName := ⟨RX8, "seemsAs", "(II)I"⟩
abbrev cX8_stiffOf : ByteArray := prog_10_method_20_code
def yX8_stiffOf : MethodName := ⟨RX8, "stiffOf", "(I)I"⟩
abbrev cX8_inPlace : ByteArray := prog_10_method_21_code
def yX8_inPlace : MethodName := ⟨RX8, "inPlace", "(I)I"⟩
abbrev cX8_isFull : ByteArray := prog_10_method_22_code
def yX8_isFull : MethodName := ⟨RX8, "isFull", "(I)Z"⟩
abbrev cX8_lighter : ByteArray := prog_10_method_23_code
def yX8_lighter : MethodName := ⟨RX8, "lighter", "(II)I"⟩
abbrev cX8_rolled : ByteArray := prog_10_method_24_code
def yX8_rolled : MethodName := ⟨RX8, "rolled", "(I)I"⟩
abbrev cX8_belongsAs : ByteArray := prog_10_method_25_code
def yX8_belongsAs : MethodName := ⟨RX8, "belongsAs", "(I)I"⟩
abbrev cX8_right : ByteArray := prog_10_method_26_code
def yX8_right : MethodName := ⟨RX8, "right", "()I"⟩
abbrev cX8_fellAll : ByteArray := prog_10_method_27_code
def yX8_fellAll : MethodName := ⟨RX8, "fellAll", "()I"⟩
abbrev cX8_placeOf : ByteArray := prog_10_method_28_code
def yX8_placeOf : MethodName := ⟨RX8, "placeOf", "(I)I"⟩
abbrev cX8_scale : ByteArray := prog_10_method_29_code
def yX8_scale : MethodName := ⟨RX8, "scale", "(II)I"⟩
abbrev cX8_egg : ByteArray := prog_10_method_30_code
def yX8_egg : MethodName := ⟨RX8, "egg", "(II)I"⟩
abbrev cX8_now : ByteArray := prog_10_method_31_code
def yX8_now : MethodName := ⟨RX8, "now", "(I)I"⟩
abbrev cX8_remembers : ByteArray := prog_10_method_32_code
def yX8_remembers : MethodName := ⟨RX8, "remembers", "()V"⟩
abbrev cX8_rolls : ByteArray := prog_10_method_33_code
def yX8_rolls : MethodName := ⟨RX8, "rolls", "(I)I"⟩
abbrev cX8_takes : ByteArray := prog_10_method_34_code
def yX8_takes : MethodName := ⟨RX8, "takes", "(I)I"⟩
abbrev cX8_wipes : ByteArray := prog_10_method_35_code
def yX8_wipes : MethodName := ⟨RX8, "wipes", "(I)I"⟩
abbrev cX8_sets : ByteArray := prog_10_method_36_code
def yX8_sets : MethodName := ⟨RX8, "sets", "(II)I"⟩
abbrev cX8_shifts : ByteArray := prog_10_method_37_code
def yX8_shifts : MethodName := ⟨RX8, "shifts", "(I)I"⟩
abbrev cX8_drops : ByteArray := prog_10_method_38_code
def yX8_drops : MethodName := ⟨RX8, "drops", "(I)I"⟩
abbrev cX8_undo : ByteArray := prog_10_method_39_code
def yX8_undo : MethodName := ⟨RX8, "undo", "()I"⟩
abbrev cX8_goes : ByteArray := prog_10_method_40_code
def yX8_goes : MethodName := ⟨RX8, "goes", "(I)I"⟩
abbrev cX8_isOrder : ByteArray := prog_10_method_41_code
def yX8_isOrder : MethodName := ⟨RX8, "isOrder", "(III)Z"⟩
abbrev cX8_sixes : ByteArray := prog_10_method_42_code
def yX8_sixes : MethodName := ⟨RX8, "sixes", "(I)I"⟩
abbrev cX8_keepsOrder : ByteArray := prog_10_method_43_code
def yX8_keepsOrder : MethodName := ⟨RX8, "keepsOrder", "()V"⟩
abbrev cX8_order : ByteArray := prog_10_method_44_code
def yX8_order : MethodName := ⟨RX8, "order", "(I)I"⟩
abbrev cX8_rollsAll : ByteArray := prog_10_method_45_code
def yX8_rollsAll : MethodName := ⟨RX8, "rollsAll", "()V"⟩
abbrev cX8_row : ByteArray := prog_10_method_46_code
def yX8_row : MethodName := ⟨RX8, "row", "(I)I"⟩
abbrev cX8_reset : ByteArray := prog_10_method_47_code
def yX8_reset : MethodName := ⟨RX8, "reset", "(II)I"⟩
abbrev cX8_lowest : ByteArray := prog_10_method_48_code
def yX8_lowest : MethodName := ⟨RX8, "lowest", "(III)I"⟩
abbrev cX8_cracks : ByteArray := prog_10_method_49_code
def yX8_cracks : MethodName := ⟨RX8, "cracks", "(III)I"⟩
abbrev cX8_boxed : ByteArray := prog_10_method_50_code
def yX8_boxed : MethodName := ⟨RX8, "boxed", "(III)I"⟩
abbrev cX8_box : ByteArray := prog_10_method_51_code
def yX8_box : MethodName := ⟨RX8, "box", "(III)I"⟩
abbrev cX8_boxes : ByteArray := prog_10_method_52_code
def yX8_boxes : MethodName := ⟨RX8, "boxes", "(II)I"⟩
abbrev cX8_tested : ByteArray := prog_10_method_53_code
def yX8_tested : MethodName := ⟨RX8, "tested", "(II)I"⟩
abbrev cX8_forget : ByteArray := prog_10_method_54_code
def yX8_forget : MethodName := ⟨RX8, "forget", "()I"⟩
abbrev cX8_fallsFrom : ByteArray := prog_10_method_55_code
def yX8_fallsFrom : MethodName := ⟨RX8, "fallsFrom", "(III)I"⟩
abbrev cX8_isSo : ByteArray := prog_10_method_56_code
def yX8_isSo : MethodName := ⟨RX8, "isSo", "(II)Z"⟩
abbrev cX8_waysOff : ByteArray := prog_10_method_57_code
def yX8_waysOff : MethodName := ⟨RX8, "waysOff", "(I)I"⟩
abbrev cX8_allWays : ByteArray := prog_10_method_58_code
def yX8_allWays : MethodName := ⟨RX8, "allWays", "()I"⟩
abbrev cX8_can : ByteArray := prog_10_method_59_code
def yX8_can : MethodName := ⟨RX8, "can", "(I)I"⟩
abbrev cX8_adds : ByteArray := prog_10_method_60_code
def yX8_adds : MethodName := ⟨RX8, "adds", "(III)V"⟩
abbrev cX8_greatest : ByteArray := prog_10_method_61_code
def yX8_greatest : MethodName := ⟨RX8, "greatest", "(I)I"⟩
abbrev cX8_next : ByteArray := prog_10_method_62_code
def yX8_next : MethodName := ⟨RX8, "next", "()I"⟩
abbrev cX8_rate : ByteArray := prog_10_method_63_code
def yX8_rate : MethodName := ⟨RX8, "rate", "(II)I"⟩
abbrev cX8_keep : ByteArray := prog_10_method_64_code
def yX8_keep : MethodName := ⟨RX8, "keep", "(I)I"⟩
abbrev cX8_back : ByteArray := prog_10_method_65_code
def yX8_back : MethodName := ⟨RX8, "back", "(I)I"⟩
abbrev cX8_count : ByteArray := prog_10_method_66_code
def yX8_count : MethodName := ⟨RX8, "count", "(I)I"⟩
abbrev cX8_trace : ByteArray := prog_10_method_67_code
def yX8_trace : MethodName := ⟨RX8, "trace", "()J"⟩
def RJ6 : String := "java/lang/Integer"
def TJ6 : u_T := fun k => match k with
  | _ => ("", "", "", false)
def tyJ6 : Nat → FieldType := fun k => match k with
  | _ => .int
abbrev wsJ60 : List Cond := u_ws RJ6 TJ6 0
theorem nmJ6 : ∀ a, a < 0 → ∀ b, b < 0 → a ≠ b → (TJ6 a).2.1 ≠ (TJ6 b).2.1 := by decide +kernel
theorem tyJ6_ok : ∀ k, k < 0 → parseFieldDescriptor (TJ6 k).2.2.1 = some (tyJ6 k) := by decide +kernel
abbrev cJ6_bitCount_0f7a4 : ByteArray := prog_11_method_49_code
def yJ6_bitCount_0f7a4 : MethodName := ⟨RJ6, "bitCount", "(I)I"⟩
def RJ9 : String := "java/lang/Math"
def TJ9 : u_T := fun k => match k with
  | _ => ("", "", "", false)
def tyJ9 : Nat → FieldType := fun k => match k with
  | _ => .int
abbrev wsJ90 : List Cond := u_ws RJ9 TJ9 0
theorem nmJ9 : ∀ a, a < 0 → ∀ b, b < 0 → a ≠ b → (TJ9 a).2.1 ≠ (TJ9 b).2.1 := by decide +kernel
theorem tyJ9_ok : ∀ k, k < 0 → parseFieldDescriptor (TJ9 k).2.2.1 = some (tyJ9 k) := by decide +kernel
abbrev cJ9_max_7cf53 : ByteArray := prog_12_method_65_code
def yJ9_max_7cf53 : MethodName := ⟨RJ9, "max", "(II)I"⟩
abbrev cJ9_min_7cf53 : ByteArray := prog_12_method_69_code
def yJ9_min_7cf53 : MethodName := ⟨RJ9, "min", "(II)I"⟩
def RJ10 : String := "java/lang/System"
def TJ10 : u_T := fun k => match k with
  | _ => ("", "", "", false)
def tyJ10 : Nat → FieldType := fun k => match k with
  | _ => .int
abbrev wsJ100 : List Cond := u_ws RJ10 TJ10 0
theorem nmJ10 : ∀ a, a < 0 → ∀ b, b < 0 → a ≠ b → (TJ10 a).2.1 ≠ (TJ10 b).2.1 := by decide +kernel
theorem tyJ10_ok : ∀ k, k < 0 → parseFieldDescriptor (TJ10 k).2.2.1 = some (tyJ10 k) := by decide +kernel
def RJ7 : String := "java/util/Arrays"
def TJ7 : u_T := fun k => match k with
  | _ => ("", "", "", false)
def tyJ7 : Nat → FieldType := fun k => match k with
  | _ => .int
abbrev wsJ70 : List Cond := u_ws RJ7 TJ7 0
theorem nmJ7 : ∀ a, a < 0 → ∀ b, b < 0 → a ≠ b → (TJ7 a).2.1 ≠ (TJ7 b).2.1 := by decide +kernel
theorem tyJ7_ok : ∀ k, k < 0 → parseFieldDescriptor (TJ7 k).2.2.1 = some (tyJ7 k) := by decide +kernel
abbrev cJ7_fill_53178 : ByteArray := prog_14_method_103_code
def yJ7_fill_53178 : MethodName := ⟨RJ7, "fill", "([II)V"⟩
def RL : String := "EggScalesLaw"
abbrev cL_law : ByteArray := code
def yL_law : MethodName := ⟨RL, "law", "([I)Z"⟩
abbrev vwCl : List vw_C := [(RX0, TX0, 6), (RX1, TX1, 2), (RX2, TX2, 3), (RX3, TX3, 7), (RX4, TX4, 6), (RX5, TX5, 8), (RX6, TX6, 7), (RX7, TX7, 11), (RX8, TX8, 31)]
end
section
/-! the world: every object of the class and of the reference has a number; row 0 of an object is its own cell (slot k: its field k, where that is an int), row j + 1 the array that its field j holds; a floor is i + 9 (0 floor, 1 trial, 2 3 images, 4 .. 13 past, 14 .. 20 search) -/
abbrev xMem : Type := Nat → Nat → Nat → Int32
abbrev xLL : Type := Nat → Int64
abbrev xG : Type := (Nat → ClassId) × (Nat → Nat → Nat) × (Nat → Nat → Nat) × (Nat → ClassId)
abbrev xD (G : xG) : va_G := (G.1, G.2.1)
def xq (G : xG) (o r : Nat) : Nat := G.2.2.1 o r
def xk (G : xG) (k : Nat) : ClassId := G.2.2.2 k
abbrev xT (G : xG) : List (ClassId × FieldType) := [(xk G 0, .int), (xk G 1, .char), (xk G 2, .boolean), (xk G 3, .object "EggScales$Floor")]
def xo (G : xG) (o : Nat) (w : Nat → Int32) (v : Int64) : va_E := match o with
  | 0 => .inr (7, [.ref (xq G 1 0), .ref (xq G 3 0), .ref (xq G (0 + 9) 0), .ref (xq G (1 + 9) 0), .ref (xq G 4 0), .ref (xq G 0 6), .ref (xq G 0 7), .ref (xq G 5 0), .ref (xq G 6 0), .ref (xq G 7 0), .long v])
  | 1 => .inr (3, [.ref (xq G 1 1), .int (w 1), .ref (xq G 2 0), .int (w 3), .int (w 4), .int (w 5), .int (w 6)])
  | 2 => .inr (6, [.int (w 0), .int (w 1), .ref (xq G 2 3), .ref (xq G 2 4), .ref (xq G 2 5), .ref (xq G 2 6), .ref (xq G 2 7)])
  | 3 => .inr (6, [.int (w 0), .int (w 1), .ref (xq G 3 3), .ref (xq G 3 4), .ref (xq G 3 5), .ref (xq G 3 6), .ref (xq G 3 7)])
  | 4 => .inr (2, [.ref (xq G 4 1), .int (w 1), .int (w 2)])
  | 5 => .inr (4, [.ref (xq G 3 0), .ref (xq G 5 2), .ref (xq G 5 3), .ref (xq G 5 4), .int (w 4), .int (w 5)])
  | 6 => .inr (1, [.ref (xq G (0 + 9) 0), .ref (xq G 6 2)])
  | 7 => .inr (5, [.ref (xq G 3 0), .ref (xq G 7 2), .ref (xq G 7 3), .int (w 3), .ref (xq G 7 5), .ref (xq G 7 6), .int (w 6), .ref (xq G 7 8)])
  | 8 => .inr (8, [.int (w 0), .ref (xq G 8 2), .ref (xq G 8 3), .ref (xq G 8 4), .int (w 4), .ref (xq G 8 6), .ref (xq G 8 7), .ref (xq G 8 8), .int (w 8), .ref (xq G 8 10), .ref (xq G 8 11), .int (w 11), .ref (xq G 8 13), .long v, .ref (xq G 8 15), .int (w 15), .int (w 16), .int (w 17), .int (w 18), .int (w 19), .int (w 20), .int (w 21), .int (w 22), .ref (xq G 8 24), .int (w 24), .ref (xq G 8 26), .ref (xq G 8 27), .ref (xq G 8 28), .ref (xq G 8 29), .ref (xq G 8 30), .ref (xq G 8 31)])
  | i + 9 => .inr (0, [.ref (xq G 3 0), .ref (xq G (i + 9) 2), .ref (xq G (i + 9) 3), .ref (xq G (i + 9) 4), .ref (xq G (i + 9) 5), .ref (xq G (i + 9) 6)])
def xn (o r : Nat) : Nat := match o with
  | 2 => (match r with | 3 => 5 | 4 => 5 | 5 => 5 | 6 => 6 | _ => 6)
  | 3 => (match r with | 3 => 5 | 4 => 5 | 5 => 5 | 6 => 6 | _ => 6)
  | 5 => 6
  | 6 => 64
  | 7 => (match r with | 2 => 6 | 3 => 6 | 5 => 91 | 6 => 91 | _ => 6)
  | 8 => (match r with | 2 => 5 | 3 => 5 | 4 => 5 | 6 => 6 | 7 => 27 | 8 => 270 | 10 => 54 | 13 => 12 | 15 => 120 | 24 => 15 | 26 => 12 | 27 => 27 | 28 => 6 | 29 => 6 | 30 => 64 | _ => 6)
  | _ => (match r with | 2 => 6 | 3 => 6 | 4 => 5 | 5 => 5 | _ => 5)
def xr (G : xG) (o r : Nat) (w : Nat → Int32) : va_E := match o with
  | 0 => (match r with | 6 => .inl (xk G 3, 2, .inr (.inr (.inr (.inr (fun k => some (xq G (k + 2 + 9) 0)))))) | _ => .inl (xk G 2, 2, .inl w))
  | 1 => .inl (xk G 1, 120, .inl w)
  | 4 => .inl (xk G 3, 10, .inr (.inr (.inr (.inr (fun k => some (xq G (k + 4 + 9) 0))))))
  | 5 => (match r with | 2 => .inl (xk G 3, 7, .inr (.inr (.inr (.inr (fun k => some (xq G (k + 14 + 9) 0)))))) | _ => .inl (xk G 0, xn 5 r, .inl w))
  | 8 => (match r with | 11 => .inl (xk G 2, 2, .inl w) | _ => .inl (xk G 0, xn 8 r, .inl w))
  | o => .inl (xk G 0, xn o r, .inl w)
def xc (G : xG) (o r : Nat) (w : Nat → Int32) (v : Int64) : va_E := match r with
  | 0 => xo G o w v
  | r + 1 => xr G o (r + 1) w
def ixs : List (Nat × Nat) := [(0, 0), (0, 6), (0, 7), (1, 0), (1, 1), (2, 0), (2, 3), (2, 4), (2, 5), (2, 6), (2, 7), (3, 0), (3, 3), (3, 4), (3, 5), (3, 6), (3, 7), (4, 0), (4, 1), (5, 0), (5, 2), (5, 3), (5, 4), (6, 0), (6, 2), (7, 0), (7, 2), (7, 3), (7, 5), (7, 6), (7, 8), (8, 0), (8, 2), (8, 3), (8, 4), (8, 6), (8, 7), (8, 8), (8, 10), (8, 11), (8, 13), (8, 15), (8, 24), (8, 26), (8, 27), (8, 28), (8, 29), (8, 30), (8, 31)] ++ (List.range 21).flatMap (fun i => [(i + 9, 0), (i + 9, 2), (i + 9, 3), (i + 9, 4), (i + 9, 5), (i + 9, 6)])
theorem ixs_nd : ixs.Nodup := by decide +kernel
theorem mx_0_0 : (0, 0) ∈ ixs := by decide +kernel
theorem mx_0_6 : (0, 6) ∈ ixs := by decide +kernel
theorem mx_0_7 : (0, 7) ∈ ixs := by decide +kernel
theorem mx_1_0 : (1, 0) ∈ ixs := by decide +kernel
theorem mx_1_1 : (1, 1) ∈ ixs := by decide +kernel
theorem mx_2_0 : (2, 0) ∈ ixs := by decide +kernel
theorem mx_2_3 : (2, 3) ∈ ixs := by decide +kernel
theorem mx_2_4 : (2, 4) ∈ ixs := by decide +kernel
theorem mx_2_5 : (2, 5) ∈ ixs := by decide +kernel
theorem mx_2_6 : (2, 6) ∈ ixs := by decide +kernel
theorem mx_2_7 : (2, 7) ∈ ixs := by decide +kernel
theorem mx_3_0 : (3, 0) ∈ ixs := by decide +kernel
theorem mx_3_3 : (3, 3) ∈ ixs := by decide +kernel
theorem mx_3_4 : (3, 4) ∈ ixs := by decide +kernel
theorem mx_3_5 : (3, 5) ∈ ixs := by decide +kernel
theorem mx_3_6 : (3, 6) ∈ ixs := by decide +kernel
theorem mx_3_7 : (3, 7) ∈ ixs := by decide +kernel
theorem mx_4_0 : (4, 0) ∈ ixs := by decide +kernel
theorem mx_4_1 : (4, 1) ∈ ixs := by decide +kernel
theorem mx_5_0 : (5, 0) ∈ ixs := by decide +kernel
theorem mx_5_2 : (5, 2) ∈ ixs := by decide +kernel
theorem mx_5_3 : (5, 3) ∈ ixs := by decide +kernel
theorem mx_5_4 : (5, 4) ∈ ixs := by decide +kernel
theorem mx_6_0 : (6, 0) ∈ ixs := by decide +kernel
theorem mx_6_2 : (6, 2) ∈ ixs := by decide +kernel
theorem mx_7_0 : (7, 0) ∈ ixs := by decide +kernel
theorem mx_7_2 : (7, 2) ∈ ixs := by decide +kernel
theorem mx_7_3 : (7, 3) ∈ ixs := by decide +kernel
theorem mx_7_5 : (7, 5) ∈ ixs := by decide +kernel
theorem mx_7_6 : (7, 6) ∈ ixs := by decide +kernel
theorem mx_7_8 : (7, 8) ∈ ixs := by decide +kernel
theorem mx_8_0 : (8, 0) ∈ ixs := by decide +kernel
theorem mx_8_2 : (8, 2) ∈ ixs := by decide +kernel
theorem mx_8_3 : (8, 3) ∈ ixs := by decide +kernel
theorem mx_8_4 : (8, 4) ∈ ixs := by decide +kernel
theorem mx_8_6 : (8, 6) ∈ ixs := by decide +kernel
theorem mx_8_7 : (8, 7) ∈ ixs := by decide +kernel
theorem mx_8_8 : (8, 8) ∈ ixs := by decide +kernel
theorem mx_8_10 : (8, 10) ∈ ixs := by decide +kernel
theorem mx_8_11 : (8, 11) ∈ ixs := by decide +kernel
theorem mx_8_13 : (8, 13) ∈ ixs := by decide +kernel
theorem mx_8_15 : (8, 15) ∈ ixs := by decide +kernel
theorem mx_8_24 : (8, 24) ∈ ixs := by decide +kernel
theorem mx_8_26 : (8, 26) ∈ ixs := by decide +kernel
theorem mx_8_27 : (8, 27) ∈ ixs := by decide +kernel
theorem mx_8_28 : (8, 28) ∈ ixs := by decide +kernel
theorem mx_8_29 : (8, 29) ∈ ixs := by decide +kernel
theorem mx_8_30 : (8, 30) ∈ ixs := by decide +kernel
theorem mx_8_31 : (8, 31) ∈ ixs := by decide +kernel
theorem mf_0 {i : Nat} (h : i < 21) : (i + 9, 0) ∈ ixs := List.mem_append_right _ (List.mem_flatMap.mpr ⟨i, List.mem_range.mpr h, by simp⟩)
theorem mf_2 {i : Nat} (h : i < 21) : (i + 9, 2) ∈ ixs := List.mem_append_right _ (List.mem_flatMap.mpr ⟨i, List.mem_range.mpr h, by simp⟩)
theorem mf_3 {i : Nat} (h : i < 21) : (i + 9, 3) ∈ ixs := List.mem_append_right _ (List.mem_flatMap.mpr ⟨i, List.mem_range.mpr h, by simp⟩)
theorem mf_4 {i : Nat} (h : i < 21) : (i + 9, 4) ∈ ixs := List.mem_append_right _ (List.mem_flatMap.mpr ⟨i, List.mem_range.mpr h, by simp⟩)
theorem mf_5 {i : Nat} (h : i < 21) : (i + 9, 5) ∈ ixs := List.mem_append_right _ (List.mem_flatMap.mpr ⟨i, List.mem_range.mpr h, by simp⟩)
theorem mf_6 {i : Nat} (h : i < 21) : (i + 9, 6) ∈ ixs := List.mem_append_right _ (List.mem_flatMap.mpr ⟨i, List.mem_range.mpr h, by simp⟩)
def xw (G : xG) (M : xMem) (L : xLL) : va_W := ixs.map (fun p => (xq G p.1 p.2, xc G p.1 p.2 (M p.1 p.2) (L p.1)))
theorem xw_get (G : xG) (M : xMem) (L : xLL) {o r : Nat} (h : (o, r) ∈ ixs) : ∃ k : Nat, ixs[k]? = some (o, r) ∧ (xw G M L)[k]? = some (xq G o r, xc G o r (M o r) (L o)) := by
  obtain ⟨k, hk⟩ := List.getElem?_of_mem h
  exact ⟨k, hk, by simp [xw, hk]⟩
def xs (M : xMem) (o r : Nat) (w : Nat → Int32) : xMem := va_up M o (va_up (M o) r w)
theorem xs_same (M : xMem) (o r : Nat) (w : Nat → Int32) : xs M o r w o r = w := by simp [xs, va_up]
theorem xs_ne (M : xMem) (o r : Nat) (w : Nat → Int32) {o' r' : Nat} (h : (o', r') ≠ (o, r)) : xs M o r w o' r' = M o' r' := by
  unfold xs va_up
  by_cases h1 : o' = o
  · subst h1
    by_cases h2 : r' = r
    · subst h2; exact absurd rfl h
    · simp [h2]
  · simp [h1]
theorem ixs_uniq {j k : Nat} {p : Nat × Nat} (hj : ixs[j]? = some p) (hk : ixs[k]? = some p) : j = k := by
  obtain ⟨h1, e1⟩ := List.getElem?_eq_some_iff.mp hj
  obtain ⟨h2, e2⟩ := List.getElem?_eq_some_iff.mp hk
  exact (List.getElem?_inj h1 ixs_nd).mp (hj.trans hk.symm)
theorem xw_set (G : xG) (M : xMem) (L : xLL) {o r k : Nat} (hk : ixs[k]? = some (o, r)) (w : Nat → Int32) : (xw G M L).set k (xq G o r, xc G o r w (L o)) = xw G (xs M o r w) L := by
  apply List.ext_getElem?
  intro j
  have hl : k < ixs.length := (List.getElem?_eq_some_iff.mp hk).1
  by_cases hj : j = k
  · subst hj
    rw [List.getElem?_set_self (by simpa [xw] using hl)]
    simp [xw, hk, xs_same]
  · rw [List.getElem?_set_ne (fun e => hj e.symm)]
    simp only [xw, List.getElem?_map]
    cases hq : ixs[j]? with
    | none => rfl
    | some q =>
      obtain ⟨a, b⟩ := q
      have hne : (a, b) ≠ (o, r) := fun e => hj (ixs_uniq hq (by rw [e]; exact hk))
      simp [xs_ne M o r w hne]
theorem xc_long (G : xG) {o r : Nat} (h : r ≠ 0) (w : Nat → Int32) (v v' : Int64) : xc G o r w v = xc G o r w v' := by
  cases r with
  | zero => exact absurd rfl h
  | succ r => rfl
theorem xw_setL (G : xG) (M : xMem) (L : xLL) {o k : Nat} (hk : ixs[k]? = some (o, 0)) (v : Int64) : (xw G M L).set k (xq G o 0, xc G o 0 (M o 0) v) = xw G M (va_up L o v) := by
  apply List.ext_getElem?
  intro j
  have hl : k < ixs.length := (List.getElem?_eq_some_iff.mp hk).1
  by_cases hj : j = k
  · subst hj
    rw [List.getElem?_set_self (by simpa [xw] using hl)]
    simp [xw, hk, va_up]
  · rw [List.getElem?_set_ne (fun e => hj e.symm)]
    simp only [xw, List.getElem?_map]
    cases hq : ixs[j]? with
    | none => rfl
    | some q =>
      obtain ⟨a, b⟩ := q
      by_cases ha : a = o
      · subst ha
        have hb : b ≠ 0 := fun e => hj (ixs_uniq hq (by rw [e]; exact hk))
        simp only [Option.map_some]
        rw [xc_long G hb (M a b) (L a) (va_up L a v a)]
      · simp [va_up, ha]
def xX (G : xG) : Prop := ∀ p ∈ ixs, ∀ p' ∈ ixs, xq G p.1 p.2 = xq G p'.1 p'.2 → p = p'
def xZ (G : xG) (sz : Nat) : Nat → Prop := fun a => (∃ p ∈ ixs, a = xq G p.1 p.2) ∨ sz ≤ a
theorem xw_D {G : xG} {M : xMem} {L : xLL} {sz : Nat} (h : xX G) : va_D (xZ G sz) (xw G M L) := by
  have key : ∀ (i : Nat) (p : Nat × va_E), (xw G M L)[i]? = some p → ∃ q, ixs[i]? = some q ∧ p.1 = xq G q.1 q.2 := by
    intro i p hp
    simp only [xw, List.getElem?_map] at hp
    cases hq : ixs[i]? with
    | none => rw [hq] at hp; cases hp
    | some q => rw [hq] at hp; cases hp; exact ⟨q, rfl, rfl⟩
  refine ⟨fun i j p q hi hj e => ?_, fun k q hk => ?_⟩
  · obtain ⟨a, ha, ea⟩ := key i p hi
    obtain ⟨b, hb, eb⟩ := key j q hj
    have hab := h a (List.mem_of_getElem? ha) b (List.mem_of_getElem? hb) (by rw [← ea, ← eb]; exact e)
    subst hab
    exact ixs_uniq ha hb
  · obtain ⟨a, ha, ea⟩ := key k q hk
    exact Or.inl ⟨a, List.mem_of_getElem? ha, ea⟩
abbrev nw_beyond : Cond := .methodLinkNest RX3 78 yX7_beyond RX7
def xK (G : xG) (U : State) : Prop := va_K (xD G) vwCl (xT G) U ∧ xX G ∧ va_Nw nw_beyond U
def xW (G : xG) (M : xMem) (L : xLL) (U : State) : Prop := va_P (xD G) vwCl (xw G M L) U.heap ∧ xK G U
def xI (G : xG) (M : xMem) (L : xLL) (H0 H : Heap) (locs : List Loc) : Prop := va_P (xD G) vwCl (xw G M L) H ∧ va_S (xZ G H0.size) H0 H locs
def xTB : List Cond := lw_tbl.filter goodWord
theorem tb_in {w : Cond} (h : w ∈ lw_tbl) (hg : goodWord w = true) : w ∈ xTB := List.mem_filter.mpr ⟨h, hg⟩
theorem tb_t {w : Cond} (i : Nat) (h : tables_1[i]? = some w) (hg : goodWord w = true) : w ∈ xTB := tb_in (List.mem_append_right _ (List.mem_of_getElem? h)) hg
theorem tb_p {w : Cond} (i : Nat) (h : (k2_sels lw_privs)[i]? = some w) (hg : goodWord w = true) : w ∈ xTB := tb_in (List.mem_append_left _ (List.mem_of_getElem? h)) hg
theorem tb_good {c c' : Cond} (h : c' ∈ xTB) : GoodIn (c :: xTB) (c' :: xTB) := fun w hw => by
  have hm : w ∈ xTB := by
    rcases List.mem_cons.mp hw with e | e
    · rw [e]; exact h
    · exact e
  exact ⟨List.mem_cons_of_mem _ hm, good_of_word (List.mem_filter.mp hm).2⟩
theorem tb_good' {c' : Cond} (h : c' ∈ xTB) : GoodIn xTB (c' :: xTB) := fun w hw => by
  have hm : w ∈ xTB := by
    rcases List.mem_cons.mp hw with e | e
    · rw [e]; exact h
    · exact e
  exact ⟨hm, good_of_word (List.mem_filter.mp hm).2⟩
/-- a method's setting: the machine, its code, the tables' words, the world's tables -/
def xE (p : Program) (s : State) (m : MethodId) (args : Array Value) (meth : Method) (c : Code) (cc : ByteArray) (nL : Nat) (rt : Option FieldType) (own : String) (G : xG) : Prop :=
  p.tables.exec = Jvm.exec ∧ c.code = cc ∧ meth.sig.returnType = rt ∧ c.maxLocals = nL ∧ s.vm.findClass own = some m.cls ∧ (∀ w ∈ xTB, w.before args s = true) ∧ meth.locks = false ∧ xK G s
def xR (h : Nat) : Room := { frames := h, cells := 0, slots := 0, locals := 60 * h }
abbrev xP (G : xG) (M : xMem) (L : xLL) (sz : Nat) (av : List Value) : Array Value → State → Prop := va_Pc av (fun U => U.heap.size = sz ∧ xW G M L U)
def xQi (G : xG) (r' : Int32) (M' : xMem) (L' : xLL) (sz : Nat) : Array Value → State → Outcome → State → Prop := va_Qi (fun r (_ : Unit) => r = r') (fun _ t => xW G M' L' t) (xZ G sz)
def xQl (G : xG) (r' : Int64) (M' : xMem) (L' : xLL) (sz : Nat) : Array Value → State → Outcome → State → Prop := va_Ql (fun r (_ : Unit) => r = r') (fun _ t => xW G M' L' t) (xZ G sz)
def xQv (G : xG) (M' : xMem) (L' : xLL) (sz : Nat) : Array Value → State → Outcome → State → Prop := va_Qv (fun (_ : Unit) => True) (fun _ t => xW G M' L' t) (xZ G sz)
-- lifted words
def xchk {α : Type} (b : Bool) (k : Option α) : Option α := if b = true then k else none
theorem xchk_s {α : Type} {b : Bool} {k : Option α} {r : α} (h : xchk b k = some r) : b = true ∧ k = some r := by
  unfold xchk at h
  by_cases hb : b = true
  · rw [if_pos hb] at h; exact ⟨hb, h⟩
  · rw [if_neg hb] at h; cases h
def xb1 {α β : Type} (g : Option α) (k : α → Option β) : Option β := match g with
  | some a => k a
  | none => none
theorem xb1_s {α β : Type} {g : Option α} {k : α → Option β} {r : β} (h : xb1 g k = some r) : ∃ a, g = some a ∧ k a = some r := by
  cases g with
  | none => cases h
  | some a => exact ⟨a, rfl, h⟩
def xb2 {α β γ : Type} (g : Option (α × β)) (k : α → β → Option γ) : Option γ := match g with
  | some (a, b) => k a b
  | none => none
theorem xb2_s {α β γ : Type} {g : Option (α × β)} {k : α → β → Option γ} {r : γ} (h : xb2 g k = some r) : ∃ a b, g = some (a, b) ∧ k a b = some r := by
  cases g with
  | none => cases h
  | some q => obtain ⟨a, b⟩ := q; exact ⟨a, b, rfl, h⟩
def xlet {α β : Type} (a : α) (k : α → β) : β := k a
theorem xlet_s {α β : Type} {a : α} {k : α → β} {r : β} (h : xlet a k = r) : ∃ b, a = b ∧ k b = r := ⟨a, rfl, h⟩
theorem xif_t {α : Type} {c : Prop} [Decidable c] {A B r : α} (h : c) (hf : (if c then A else B) = r) : A = r := by rw [if_pos h] at hf; exact hf
theorem xif_f {α : Type} {c : Prop} [Decidable c] {A B r : α} (h : ¬ c) (hf : (if c then A else B) = r) : B = r := by rw [if_neg h] at hf; exact hf
def xb (i : Int32) (n : Nat) : Bool := !(decide (i < 0) || decide (n ≤ i.toNatClampNeg))
theorem xb_in {i : Int32} {n : Nat} (h : xb i n = true) : vp_in i n := by
  unfold xb at h
  unfold vp_in
  simpa using h
theorem xb_fl {i : Int32} {n b : Nat} (h : xb i n = true) (hb : n + b ≤ 21) : i.toNatClampNeg + b < 21 := by
  have := xb_in h
  unfold vp_in at this
  omega
def xnz (y : Int32) : Bool := decide (¬ y = 0)
theorem xnz_s {y : Int32} (h : xnz y = true) : ¬ y = 0 := by simpa [xnz] using h
def xbo (v : Int32) : Bool := decide (narrow .boolean (.int v) = .int v)
theorem xbo_s {v : Int32} (h : xbo v = true) : narrow .boolean (.int v) = .int v := by simpa [xbo] using h
def xbf (v : Int32) : Bool := decide (fits .boolean (.int v) = true)
theorem xbf_s {v : Int32} (h : xbf v = true) : fits .boolean (.int v) = true := by simpa [xbf] using h
def xcb (sp dp n : Int32) (n0 n1 : Nat) : Bool := decide (¬ sp < 0) && decide (¬ dp < 0) && decide (¬ n < 0) && decide (sp.toNatClampNeg + n.toNatClampNeg ≤ n0) && decide (dp.toNatClampNeg + n.toNatClampNeg ≤ n1)
theorem xcb_s {sp dp n : Int32} {n0 n1 : Nat} (h : xcb sp dp n n0 n1 = true) : ¬ sp < 0 ∧ ¬ dp < 0 ∧ ¬ n < 0 ∧ sp.toNatClampNeg + n.toNatClampNeg ≤ n0 ∧ dp.toNatClampNeg + n.toNatClampNeg ≤ n1 := by
  simpa [xcb, and_assoc] using h
/-- an element, a field is written; a row is copied -/
def xst (M : xMem) (o r : Nat) (i v : Int32) : xMem := xs M o r (upd (M o r) i.toNatClampNeg v)
def xsf (M : xMem) (o k : Nat) (v : Int32) : xMem := xs M o 0 (upd (M o 0) k v)
def xcp (M : xMem) (o0 r0 : Nat) (sp : Int32) (o1 r1 : Nat) (dp n : Int32) : xMem := xs M o1 r1 (va_cpy (M o0 r0) (M o1 r1) sp.toNatClampNeg dp.toNatClampNeg n.toNatClampNeg)
def FU : Nat := 100000
section XR
variable {p : Program} {l : Launch} {e : Env} {R : Room} {s : State} {m : MethodId} {args : Array Value} {below : List Frame} {meth : Method} {c : Code} {H : Heap} {locs : List Loc} {Q : State → Prop}
variable {cc : ByteArray} {nL : Nat} {rt : Option FieldType} {own : String} {G : xG} {M : xMem} {L : xLL} {pc : Nat} {ls : Array Slot} {rest : List Value}
theorem x_iald (E : xE p s m args meth c cc nL rt own G) (hI : xI G M L s.heap H locs) {o r n : Nat} (hm : (o, r) ∈ ixs) (hc : ∀ w v, xc G o r w v = .inl (xk G 0, n, .inl w)) {i : Int32} (hin : xb i n = true) (hdg : decode cc pc = .ok (.iaload, 1))
    (kk : W p l e R s m args below meth c H locs 0 0 Q (F0 m (pc + 1) ls (.int (M o r i.toNatClampNeg) :: rest))) : W p l e R s m args below meth c H locs 0 0 Q (F0 m pc ls (.int i :: .ref (xq G o r) :: rest)) := by
  obtain ⟨k, h1, h2⟩ := xw_get G M L hm
  rw [hc] at h2
  exact va_iald E.1 E.2.1 E.2.2.2.2.2.2.2.1 hI.1 k 0 h2 rfl (xb_in hin) hdg kk
theorem x_cald (E : xE p s m args meth c cc nL rt own G) (hI : xI G M L s.heap H locs) {o r n : Nat} (hm : (o, r) ∈ ixs) (hc : ∀ w v, xc G o r w v = .inl (xk G 1, n, .inl w)) {i : Int32} (hin : xb i n = true) (hdg : decode cc pc = .ok (.caload, 1))
    (kk : W p l e R s m args below meth c H locs 0 0 Q (F0 m (pc + 1) ls (.int (M o r i.toNatClampNeg) :: rest))) : W p l e R s m args below meth c H locs 0 0 Q (F0 m pc ls (.int i :: .ref (xq G o r) :: rest)) := by
  obtain ⟨k, h1, h2⟩ := xw_get G M L hm
  rw [hc] at h2
  exact va_cald E.1 E.2.1 E.2.2.2.2.2.2.2.1 hI.1 k 1 h2 rfl (xb_in hin) hdg kk
theorem x_zald (E : xE p s m args meth c cc nL rt own G) (hI : xI G M L s.heap H locs) {o r n : Nat} (hm : (o, r) ∈ ixs) (hc : ∀ w v, xc G o r w v = .inl (xk G 2, n, .inl w)) {i : Int32} (hin : xb i n = true) (hdg : decode cc pc = .ok (.baload, 1))
    (kk : W p l e R s m args below meth c H locs 0 0 Q (F0 m (pc + 1) ls (.int (M o r i.toNatClampNeg) :: rest))) : W p l e R s m args below meth c H locs 0 0 Q (F0 m pc ls (.int i :: .ref (xq G o r) :: rest)) := by
  obtain ⟨k, h1, h2⟩ := xw_get G M L hm
  rw [hc] at h2
  exact va_zald E.1 E.2.1 E.2.2.2.2.2.2.2.1 hI.1 k 2 h2 rfl (xb_in hin) hdg kk
theorem x_aald (E : xE p s m args meth c cc nL rt own G) (hI : xI G M L s.heap H locs) {o r n b : Nat} (hm : (o, r) ∈ ixs) (hc : ∀ w v, xc G o r w v = .inl (xk G 3, n, .inr (.inr (.inr (.inr (fun k => some (xq G (k + b + 9) 0))))))) {i : Int32} (hin : xb i n = true) (hdg : decode cc pc = .ok (.aaload, 1))
    (kk : W p l e R s m args below meth c H locs 0 0 Q (F0 m (pc + 1) ls (.ref (xq G (i.toNatClampNeg + b + 9) 0) :: rest))) : W p l e R s m args below meth c H locs 0 0 Q (F0 m pc ls (.int i :: .ref (xq G o r) :: rest)) := by
  obtain ⟨k, h1, h2⟩ := xw_get G M L hm
  rw [hc] at h2
  exact va_aldq (C := "EggScales$Floor") E.1 E.2.1 E.2.2.2.2.2.2.2.1 hI.1 k 3 h2 rfl (xb_in hin) hdg kk
theorem x_iast (E : xE p s m args meth c cc nL rt own G) (hI : xI G M L s.heap H locs) {o r n : Nat} (hm : (o, r) ∈ ixs) (hc : ∀ w v, xc G o r w v = .inl (xk G 0, n, .inl w)) {i x : Int32} (hin : xb i n = true) (hdg : decode cc pc = .ok (.iastore, 1)) {M1 : xMem} (hM : xst M o r i x = M1)
    (kk : ∀ (H : Heap) (locs : List Loc), xI G M1 L s.heap H locs → W p l e R s m args below meth c H locs 0 0 Q (F0 m (pc + 1) ls rest)) : W p l e R s m args below meth c H locs 0 0 Q (F0 m pc ls (.int x :: .int i :: .ref (xq G o r) :: rest)) := by
  obtain ⟨k, h1, h2⟩ := xw_get G M L hm
  have h3 := h2
  rw [hc] at h3
  refine va_iast E.1 E.2.1 E.2.2.2.2.2.2.2.1 hI.1 (xw_D E.2.2.2.2.2.2.2.2.1) hI.2 k 0 h3 rfl (xb_in hin) hdg (fun H1 locs1 hP hD hS => ?_)
  have e1 := xw_set G M L h1 (upd (M o r) i.toNatClampNeg x)
  rw [hc] at e1
  rw [e1] at hP
  subst hM
  exact kk H1 locs1 ⟨hP, hS⟩
theorem x_cast (E : xE p s m args meth c cc nL rt own G) (hI : xI G M L s.heap H locs) {o r n : Nat} (hm : (o, r) ∈ ixs) (hc : ∀ w v, xc G o r w v = .inl (xk G 1, n, .inl w)) {i x : Int32} (hin : xb i n = true) (hdg : decode cc pc = .ok (.castore, 1)) {M1 : xMem} (hM : xst M o r i (vp_nar .char x) = M1)
    (kk : ∀ (H : Heap) (locs : List Loc), xI G M1 L s.heap H locs → W p l e R s m args below meth c H locs 0 0 Q (F0 m (pc + 1) ls rest)) : W p l e R s m args below meth c H locs 0 0 Q (F0 m pc ls (.int x :: .int i :: .ref (xq G o r) :: rest)) := by
  obtain ⟨k, h1, h2⟩ := xw_get G M L hm
  have h3 := h2
  rw [hc] at h3
  refine va_cast E.1 E.2.1 E.2.2.2.2.2.2.2.1 hI.1 (xw_D E.2.2.2.2.2.2.2.2.1) hI.2 k 1 h3 rfl (xb_in hin) hdg (fun H1 locs1 hP hD hS => ?_)
  have e1 := xw_set G M L h1 (upd (M o r) i.toNatClampNeg (vp_nar .char x))
  rw [hc] at e1
  rw [e1] at hP
  subst hM
  exact kk H1 locs1 ⟨hP, hS⟩
theorem x_zast (E : xE p s m args meth c cc nL rt own G) (hI : xI G M L s.heap H locs) {o r n : Nat} (hm : (o, r) ∈ ixs) (hc : ∀ w v, xc G o r w v = .inl (xk G 2, n, .inl w)) {i x : Int32} (hin : xb i n = true) (hdg : decode cc pc = .ok (.bastore, 1)) {M1 : xMem} (hM : xst M o r i (vp_nar .boolean x) = M1)
    (kk : ∀ (H : Heap) (locs : List Loc), xI G M1 L s.heap H locs → W p l e R s m args below meth c H locs 0 0 Q (F0 m (pc + 1) ls rest)) : W p l e R s m args below meth c H locs 0 0 Q (F0 m pc ls (.int x :: .int i :: .ref (xq G o r) :: rest)) := by
  obtain ⟨k, h1, h2⟩ := xw_get G M L hm
  have h3 := h2
  rw [hc] at h3
  refine va_zast E.1 E.2.1 E.2.2.2.2.2.2.2.1 hI.1 (xw_D E.2.2.2.2.2.2.2.2.1) hI.2 k 2 h3 rfl (xb_in hin) hdg (fun H1 locs1 hP hD hS => ?_)
  have e1 := xw_set G M L h1 (upd (M o r) i.toNatClampNeg (vp_nar .boolean x))
  rw [hc] at e1
  rw [e1] at hP
  subst hM
  exact kk H1 locs1 ⟨hP, hS⟩
theorem x_alen (E : xE p s m args meth c cc nL rt own G) (hI : xI G M L s.heap H locs) {o r n : Nat} (hm : (o, r) ∈ ixs) (hc : ∀ w v, xc G o r w v = .inl (xk G 0, n, .inl w)) (hdg : decode cc pc = .ok (.arraylength, 1))
    (kk : W p l e R s m args below meth c H locs 0 0 Q (F0 m (pc + 1) ls (.int (Int32.ofNat n) :: rest))) : W p l e R s m args below meth c H locs 0 0 Q (F0 m pc ls (.ref (xq G o r) :: rest)) := by
  obtain ⟨k, h1, h2⟩ := xw_get G M L hm
  rw [hc] at h2
  exact va_alen E.1 E.2.1 E.2.2.2.2.2.2.2.1 hI.1 k 0 h2 rfl rfl hdg kk
theorem x_get (E : xE p s m args meth c cc nL rt own G) (hI : xI G M L s.heap H locs) {ref C : String} {T : u_T} {N ci index o : Nat} (hm : (o, 0) ∈ ixs) {fs : List Value} (he : xo G o (M o 0) (L o) = .inr (ci, fs)) (hc : vwCl[ci]? = some (C, T, N)) (hin : ∀ w ∈ u_ws C T N, w ∈ xTB) (k : Nat) (hk : k < N) (hlink : Cond.fieldLink own index ref (T k).2.1 (T k).2.2.1 ∈ xTB) (hsame : ∀ x, s.fieldFound? (T k).1 (T k).2.1 (T k).2.2.1 = some x → s.fieldFound? ref (T k).2.1 (T k).2.2.1 = some x) {v : Value} (hv : fs[k]? = some v) (hdg : decode cc pc = .ok (.getfield index, 3))
    (kk : W p l e R s m args below meth c H locs 0 0 Q (F0 m (pc + 3) ls (v :: rest))) : W p l e R s m args below meth c H locs 0 0 Q (F0 m pc ls (.ref (xq G o 0) :: rest)) := by
  obtain ⟨q, h1, h2⟩ := xw_get G M L hm
  have h3 : (xw G M L)[q]? = some (xq G o 0, .inr (ci, fs)) := by rw [h2, ← he]; rfl
  exact va_get E.1 E.2.1 E.2.2.2.2.2.1 hin E.2.2.2.2.1 E.2.2.2.2.2.2.2.1 hI.1 q h3 hc k hk (E.2.2.2.2.2.1 _ hlink) hsame hv hdg kk
theorem x_put (E : xE p s m args meth c cc nL rt own G) (hI : xI G M L s.heap H locs) {ref C : String} {T : u_T} {N ci index o : Nat} (hm : (o, 0) ∈ ixs) {fs : List Value} (he : xo G o (M o 0) (L o) = .inr (ci, fs)) (hc : vwCl[ci]? = some (C, T, N)) (hin : ∀ w ∈ u_ws C T N, w ∈ xTB) (ty0 : Nat → FieldType) (hty : ∀ k, k < N → parseFieldDescriptor (T k).2.2.1 = some (ty0 k)) (hnm : ∀ a, a < N → ∀ b, b < N → a ≠ b → (T a).2.1 ≠ (T b).2.1) (k : Nat) (hk : k < N) (hlink : Cond.fieldLink own index ref (T k).2.1 (T k).2.2.1 ∈ xTB) (hsame : ∀ x, s.fieldFound? (T k).1 (T k).2.1 (T k).2.2.1 = some x → s.fieldFound? ref (T k).2.1 (T k).2.2.1 = some x) (hfin : (T k).2.2.2 = false) {ty : FieldType} {v : Int32} (hd : parseFieldDescriptor (T k).2.2.1 = some ty) (hn : narrow ty (.int v) = .int v) (hfit : fits ty (.int v) = true) (hl : k < fs.length) (hnew : xo G o (upd (M o 0) k v) (L o) = .inr (ci, fs.set k (.int v))) (hdg : decode cc pc = .ok (.putfield index, 3)) {M1 : xMem} (hM : xsf M o k v = M1)
    (kk : ∀ (H : Heap) (locs : List Loc), xI G M1 L s.heap H locs → W p l e R s m args below meth c H locs 0 0 Q (F0 m (pc + 3) ls rest)) : W p l e R s m args below meth c H locs 0 0 Q (F0 m pc ls (.int v :: .ref (xq G o 0) :: rest)) := by
  obtain ⟨q, h1, h2⟩ := xw_get G M L hm
  have h3 : (xw G M L)[q]? = some (xq G o 0, .inr (ci, fs)) := by rw [h2, ← he]; rfl
  refine va_put E.1 E.2.1 E.2.2.2.2.2.1 hin ty0 hty hnm E.2.2.2.2.1 E.2.2.2.2.2.2.2.1 hI.1 (xw_D E.2.2.2.2.2.2.2.2.1) hI.2 q h3 hc k hk (E.2.2.2.2.2.1 _ hlink) hsame hfin hd hn hfit hl hdg (fun H1 locs1 hP hD hS => ?_)
  have e1 := xw_set G M L h1 (upd (M o 0) k v)
  have e2 : xc G o 0 (upd (M o 0) k v) (L o) = .inr (ci, fs.set k (.int v)) := hnew
  rw [e2] at e1
  rw [e1] at hP
  subst hM
  exact kk H1 locs1 ⟨hP, hS⟩
theorem x_putl (E : xE p s m args meth c cc nL rt own G) (hI : xI G M L s.heap H locs) {ref C : String} {T : u_T} {N ci index o : Nat} (hm : (o, 0) ∈ ixs) {fs : List Value} (he : xo G o (M o 0) (L o) = .inr (ci, fs)) (hc : vwCl[ci]? = some (C, T, N)) (hin : ∀ w ∈ u_ws C T N, w ∈ xTB) (ty0 : Nat → FieldType) (hty : ∀ k, k < N → parseFieldDescriptor (T k).2.2.1 = some (ty0 k)) (hnm : ∀ a, a < N → ∀ b, b < N → a ≠ b → (T a).2.1 ≠ (T b).2.1) (k : Nat) (hk : k < N) (hlink : Cond.fieldLink own index ref (T k).2.1 (T k).2.2.1 ∈ xTB) (hsame : ∀ x, s.fieldFound? (T k).1 (T k).2.1 (T k).2.2.1 = some x → s.fieldFound? ref (T k).2.1 (T k).2.2.1 = some x) (hfin : (T k).2.2.2 = false) {ty : FieldType} {v : Int64} (hd : parseFieldDescriptor (T k).2.2.1 = some ty) (hn : narrow ty (.long v) = .long v) (hfit : fits ty (.long v) = true) (hl : k < fs.length) (hnew : xo G o (M o 0) v = .inr (ci, fs.set k (.long v))) (hdg : decode cc pc = .ok (.putfield index, 3)) {L1 : xLL} (hM : va_up L o v = L1)
    (kk : ∀ (H : Heap) (locs : List Loc), xI G M L1 s.heap H locs → W p l e R s m args below meth c H locs 0 0 Q (F0 m (pc + 3) ls rest)) : W p l e R s m args below meth c H locs 0 0 Q (F0 m pc ls (.long v :: .ref (xq G o 0) :: rest)) := by
  obtain ⟨q, h1, h2⟩ := xw_get G M L hm
  have h3 : (xw G M L)[q]? = some (xq G o 0, .inr (ci, fs)) := by rw [h2, ← he]; rfl
  refine va_put E.1 E.2.1 E.2.2.2.2.2.1 hin ty0 hty hnm E.2.2.2.2.1 E.2.2.2.2.2.2.2.1 hI.1 (xw_D E.2.2.2.2.2.2.2.2.1) hI.2 q h3 hc k hk (E.2.2.2.2.2.1 _ hlink) hsame hfin hd hn hfit hl hdg (fun H1 locs1 hP hD hS => ?_)
  have e1 := xw_setL G M L h1 v
  have e2 : xc G o 0 (M o 0) v = .inr (ci, fs.set k (.long v)) := hnew
  rw [e2] at e1
  rw [e1] at hP
  subst hM
  exact kk H1 locs1 ⟨hP, hS⟩
theorem x_iret {r' : Int32} (E : xE p s m args meth c cc nL (some .int) own G) (hI : xI G M L s.heap H locs) {v : Int32} (hv : v = r') (hdg : decode cc pc = .ok (.ireturn, 1)) : W p l e R s m args below meth c H locs 0 0 (MQ below (xQi G r' M L s.heap.size) args s 0 0 (xZ G s.heap.size)) (F0 m pc ls [.int v]) := by
  subst hv
  exact W.iret E.1 E.2.1 E.2.2.1 (fun t ht hW => ⟨⟨v, (), rfl, rfl, by rw [ht]; exact hI.1, va_K.moved hW.alike E.2.2.2.2.2.2.2.1, E.2.2.2.2.2.2.2.2.1, va_Nw.warmM hW E.2.2.2.2.2.2.2.2.2⟩, hI.2.F ht⟩) hI.2.2.2 hdg E.2.2.2.2.2.2.1
theorem x_zret {r' : Int32} (E : xE p s m args meth c cc nL (some .boolean) own G) (hI : xI G M L s.heap H locs) {v : Int32} (hn : narrow .boolean (.int v) = .int v) (hv : v = r') (hdg : decode cc pc = .ok (.ireturn, 1)) : W p l e R s m args below meth c H locs 0 0 (MQ below (xQi G r' M L s.heap.size) args s 0 0 (xZ G s.heap.size)) (F0 m pc ls [.int v]) := by
  subst hv
  exact W.zret E.1 E.2.1 E.2.2.1 hn (fun t ht hW => ⟨⟨v, (), rfl, rfl, by rw [ht]; exact hI.1, va_K.moved hW.alike E.2.2.2.2.2.2.2.1, E.2.2.2.2.2.2.2.2.1, va_Nw.warmM hW E.2.2.2.2.2.2.2.2.2⟩, hI.2.F ht⟩) hI.2.2.2 hdg E.2.2.2.2.2.2.1
theorem x_lret {r' : Int64} (E : xE p s m args meth c cc nL (some .long) own G) (hI : xI G M L s.heap H locs) {v : Int64} (hv : v = r') (hdg : decode cc pc = .ok (.lreturn, 1)) : W p l e R s m args below meth c H locs 0 0 (MQ below (xQl G r' M L s.heap.size) args s 0 0 (xZ G s.heap.size)) (F0 m pc ls [.long v]) := by
  subst hv
  exact W.lret E.1 E.2.1 E.2.2.1 (fun t ht hW => ⟨⟨v, (), rfl, rfl, by rw [ht]; exact hI.1, va_K.moved hW.alike E.2.2.2.2.2.2.2.1, E.2.2.2.2.2.2.2.2.1, va_Nw.warmM hW E.2.2.2.2.2.2.2.2.2⟩, hI.2.F ht⟩) hI.2.2.2 hdg E.2.2.2.2.2.2.1
theorem x_vret (E : xE p s m args meth c cc nL none own G) (hI : xI G M L s.heap H locs) (hdg : decode cc pc = .ok (.return_, 1)) : W p l e R s m args below meth c H locs 0 0 (MQ below (xQv G M L s.heap.size) args s 0 0 (xZ G s.heap.size)) (F0 m pc ls []) := by
  exact W.vret E.1 E.2.1 E.2.2.1 (fun t ht hW => ⟨⟨(), rfl, trivial, by rw [ht]; exact hI.1, va_K.moved hW.alike E.2.2.2.2.2.2.2.1, E.2.2.2.2.2.2.2.2.1, va_Nw.warmM hW E.2.2.2.2.2.2.2.2.2⟩, hI.2.F ht⟩) hI.2.2.2 hdg E.2.2.2.2.2.2.1
end XR
end
section
theorem xW_calling {G : xG} {M : xMem} {L : xLL} {U : State} {g : JFrame} {mk : MethodId} {a : Array Value} (h : xW G M L U) : xW G M L (U.calling g mk a) :=
  ⟨h.1, va_K.moved (u := U) (U := U.calling g mk a) (Vm.Alike.refl U.vm) h.2.1, h.2.2.1, va_Nw.same rfl rfl h.2.2.2⟩
theorem xP_blind (G : xG) (M : xMem) (L : xLL) (sz : Nat) (av : List Value) : FrameBlind (xP G M L sz av) := fun _ _ _ _ q => ⟨q.1, q.2.1, xW_calling q.2.2⟩
def xYV (y : MethodName) (bytes : ByteArray) (maxL : Nat) (rt' : Option FieldType) (n : Nat) : Prop := Cond.instanceMethod y ∈ xTB ∧ Cond.selects y.cls y y ∈ xTB ∧ Cond.initialized y.cls ∈ xTB ∧ Cond.code y bytes maxL rt' ∈ xTB ∧ (y.cls ≠ "java/lang/invoke/MethodHandle" ∧ y.cls ≠ "java/lang/invoke/VarHandle" ∧ (parseMethodDescriptor y.desc).map (fun d => d.parameters.length) = some n)
def xYS (y : MethodName) (bytes : ByteArray) (maxL : Nat) (rt' : Option FieldType) (n : Nat) : Prop := Cond.static y ∈ xTB ∧ Cond.initialized y.cls ∈ xTB ∧ Cond.code y bytes maxL rt' ∈ xTB ∧ (y.cls ≠ "java/lang/invoke/MethodHandle" ∧ y.cls ≠ "java/lang/invoke/VarHandle" ∧ (parseMethodDescriptor y.desc).map (fun d => d.parameters.length) = some n)
theorem xZ_up {G : xG} {a b : Nat} (h : a ≤ b) (q : Nat) (hq : xZ G b q) : xZ G a q := by
  rcases hq with hq | hq
  · exact Or.inl hq
  · exact Or.inr (Nat.le_trans h hq)
theorem xR_up {h1 h2 maxL : Nat} (hh : h1 + 1 ≤ h2) (hm : maxL ≤ 40) : (xR h1).frames + 1 ≤ (xR h2).frames ∧ 8 + (maxL + 11) + (xR h1).locals ≤ (xR h2).locals := by
  refine ⟨hh, ?_⟩
  show 8 + (maxL + 11) + 60 * h1 ≤ 60 * h2
  omega
section XCall
variable {p : Program} {l : Launch} {e : Env} {s : State} {m : MethodId} {args : Array Value} {below : List Frame} {meth : Method} {c : Code} {H : Heap} {locs : List Loc} {Q : State → Prop}
variable {cc : ByteArray} {nL : Nat} {rt : Option FieldType} {own : String} {G : xG} {M M1 : xMem} {L L1 : xLL} {pc : Nat} {ls : Array Slot} {rest st0 As : List Value} {h1 h2 : Nat}
variable {y : MethodName} {bytes : ByteArray} {maxL n index : Nat} {rt' : Option FieldType}
theorem x_cwV (E : xE p s m args meth c cc nL rt own G) (hY : xYV y bytes maxL rt' n) (hL : Cond.methodLink own index y ∈ xTB) (hh : h1 + 1 ≤ h2) (hm : maxL ≤ 40) : CallW (xR h2) s args own y.cls index y bytes maxL rt' (Cond.code y bytes maxL rt' :: xTB) (xR h1) 0 0 n := by
  refine cwV (Ts := xTB) n E.2.2.2.2.2.1 ?_ rfl rfl rfl ⟨rfl, hY.2.2.2.2⟩ (xR_up hh hm)
  intro w hw
  rcases List.mem_append.mp hw with hw | hw
  · have hi : w ∈ xTB := by
      simp only [List.mem_cons, List.not_mem_nil, or_false] at hw
      rcases hw with e | e | e | e
      · rw [e]; exact hL
      · rw [e]; exact hY.1
      · rw [e]; exact hY.2.1
      · rw [e]; exact hY.2.2.1
    exact ⟨hi, good_of_word (List.mem_filter.mp hi).2⟩
  · exact tb_good' hY.2.2.2.1 w hw
theorem x_cwS (E : xE p s m args meth c cc nL rt own G) (hY : xYS y bytes maxL rt' n) (hL : Cond.methodLink own index y ∈ xTB) (hh : h1 + 1 ≤ h2) (hm : maxL ≤ 40) : CallB (xR h2) s args own index y bytes maxL rt' (Cond.code y bytes maxL rt' :: xTB) (xR h1) 0 0 n ∧ (Cond.static y).before args s = true :=
  ⟨callB_of (Ts := xTB) n E.2.2.2.2.2.1 (tb_good' hY.2.2.1) rfl rfl rfl (E.2.2.2.2.2.1 _ hY.2.1) (E.2.2.2.2.2.1 _ hL) hY.2.2.2 (xR_up hh hm), E.2.2.2.2.2.1 _ hY.1⟩
theorem x_pre (E : xE p s m args meth c cc nL rt own G) (hI : xI G M L s.heap H locs) (av : List Value) (U : State) (hU : U.heap = H) (hW : s.WarmedH U.vm) : xP G M L H.size av av.toArray U :=
  ⟨rfl, by rw [hU], by rw [hU]; exact hI.1, va_K.moved hW.alike E.2.2.2.2.2.2.2.1, E.2.2.2.2.2.2.2.2.1, va_Nw.warmM hW E.2.2.2.2.2.2.2.2.2⟩
theorem x_recv (E : xE p s m args meth c cc nL rt own G) (hI : xI G M L s.heap H locs) {o ci : Nat} {fs : List Value} (hm : (o, 0) ∈ ixs) (he : xo G o (M o 0) (L o) = .inr (ci, fs)) {q : vw_C} (hc : vwCl[ci]? = some q) : ∃ cell : Cell, H[xq G o 0]? = some cell ∧ cell.vm.isStatics = false ∧ s.vm.findClass q.1 = some cell.cls := by
  obtain ⟨k, g1, g2⟩ := xw_get G M L hm
  have g3 : (xw G M L)[k]? = some (xq G o 0, .inr (ci, fs)) := by rw [g2, ← he]; rfl
  exact va_recv E.2.2.2.2.2.2.2.1 hI.1 hc g3
theorem x_callVi {r1 : Int32} (E : xE p s m args meth c cc nL rt own G) (hI : xI G M L s.heap H locs) {o ci : Nat} {fs : List Value} (hm : (o, 0) ∈ ixs) (he : xo G o (M o 0) (L o) = .inr (ci, fs)) {q : vw_C} (hc : vwCl[ci]? = some q) (hq : q.1 = y.cls)
    (hM : Met l y (Cond.code y bytes maxL rt' :: xTB) (xR h1) (xP G M L H.size (.ref (xq G o 0) :: As)) (xQi G r1 M1 L1 H.size) 0 0 (xZ G H.size)) (hY : xYV y bytes maxL rt' n) (hL : Cond.methodLink own index y ∈ xTB) (hh : h1 + 1 ≤ h2) (hmx : maxL ≤ 40)
    (hst : st0 = As.reverse ++ .ref (xq G o 0) :: rest) (hn : As.length = n) (hsz : ls.size = nL) (hro : (rest.map fun v => v.category).sum ≤ 8) (hdg : decode cc pc = .ok (.invokevirtual index, 3))
    (kk : ∀ (H : Heap) (locs : List Loc), xI G M1 L1 s.heap H locs → W p l e (xR h2) s m args below meth c H locs 0 0 Q (F0 m (pc + 3) ls (.int r1 :: rest))) : W p l e (xR h2) s m args below meth c H locs 0 0 Q (F0 m pc ls st0) := by
  subst hst
  refine va_calli (va_runV (C := y.cls) (As := As) (rest := rest) ⟨E.1, E.2.1, E.2.2.2.1, E.2.2.2.2.1, E.2.2.2.2.2.1⟩ hM (x_cwV E hY hL hh hmx) ⟨xP_blind _ _ _ _ _, by rw [← hq]; exact x_recv E hI hm he hc, x_pre E hI _⟩ rfl hn hsz rfl (lv_room hro) hdg ⟨Nat.zero_le _, Nat.zero_le _⟩) hI.2 (fun q _ h => xZ_up hI.2.1 q h) (xZ_up hI.2.1) (fun r u t H1 locs1 ht hvm hw hB hz hk hS => ?_)
  subst hw
  exact kk H1 locs1 ⟨by rw [← ht]; exact hB.1, hS⟩
theorem x_callVl {r1 : Int64} (E : xE p s m args meth c cc nL rt own G) (hI : xI G M L s.heap H locs) {o ci : Nat} {fs : List Value} (hm : (o, 0) ∈ ixs) (he : xo G o (M o 0) (L o) = .inr (ci, fs)) {q : vw_C} (hc : vwCl[ci]? = some q) (hq : q.1 = y.cls)
    (hM : Met l y (Cond.code y bytes maxL rt' :: xTB) (xR h1) (xP G M L H.size (.ref (xq G o 0) :: As)) (xQl G r1 M1 L1 H.size) 0 0 (xZ G H.size)) (hY : xYV y bytes maxL rt' n) (hL : Cond.methodLink own index y ∈ xTB) (hh : h1 + 1 ≤ h2) (hmx : maxL ≤ 40)
    (hst : st0 = As.reverse ++ .ref (xq G o 0) :: rest) (hn : As.length = n) (hsz : ls.size = nL) (hro : (rest.map fun v => v.category).sum ≤ 8) (hdg : decode cc pc = .ok (.invokevirtual index, 3))
    (kk : ∀ (H : Heap) (locs : List Loc), xI G M1 L1 s.heap H locs → W p l e (xR h2) s m args below meth c H locs 0 0 Q (F0 m (pc + 3) ls (.long r1 :: rest))) : W p l e (xR h2) s m args below meth c H locs 0 0 Q (F0 m pc ls st0) := by
  subst hst
  refine va_calll (va_runV (C := y.cls) (As := As) (rest := rest) ⟨E.1, E.2.1, E.2.2.2.1, E.2.2.2.2.1, E.2.2.2.2.2.1⟩ hM (x_cwV E hY hL hh hmx) ⟨xP_blind _ _ _ _ _, by rw [← hq]; exact x_recv E hI hm he hc, x_pre E hI _⟩ rfl hn hsz rfl (lv_room hro) hdg ⟨Nat.zero_le _, Nat.zero_le _⟩) hI.2 (fun q _ h => xZ_up hI.2.1 q h) (xZ_up hI.2.1) (fun r u t H1 locs1 ht hvm hw hB hz hk hS => ?_)
  subst hw
  exact kk H1 locs1 ⟨by rw [← ht]; exact hB.1, hS⟩
theorem x_callVv (E : xE p s m args meth c cc nL rt own G) (hI : xI G M L s.heap H locs) {o ci : Nat} {fs : List Value} (hm : (o, 0) ∈ ixs) (he : xo G o (M o 0) (L o) = .inr (ci, fs)) {q : vw_C} (hc : vwCl[ci]? = some q) (hq : q.1 = y.cls)
    (hM : Met l y (Cond.code y bytes maxL rt' :: xTB) (xR h1) (xP G M L H.size (.ref (xq G o 0) :: As)) (xQv G M1 L1 H.size) 0 0 (xZ G H.size)) (hY : xYV y bytes maxL rt' n) (hL : Cond.methodLink own index y ∈ xTB) (hh : h1 + 1 ≤ h2) (hmx : maxL ≤ 40)
    (hst : st0 = As.reverse ++ .ref (xq G o 0) :: rest) (hn : As.length = n) (hsz : ls.size = nL) (hro : (rest.map fun v => v.category).sum ≤ 8) (hdg : decode cc pc = .ok (.invokevirtual index, 3))
    (kk : ∀ (H : Heap) (locs : List Loc), xI G M1 L1 s.heap H locs → W p l e (xR h2) s m args below meth c H locs 0 0 Q (F0 m (pc + 3) ls rest)) : W p l e (xR h2) s m args below meth c H locs 0 0 Q (F0 m pc ls st0) := by
  subst hst
  refine va_callv (va_runV (C := y.cls) (As := As) (rest := rest) ⟨E.1, E.2.1, E.2.2.2.1, E.2.2.2.2.1, E.2.2.2.2.2.1⟩ hM (x_cwV E hY hL hh hmx) ⟨xP_blind _ _ _ _ _, by rw [← hq]; exact x_recv E hI hm he hc, x_pre E hI _⟩ rfl hn hsz rfl (lv_room hro) hdg ⟨Nat.zero_le _, Nat.zero_le _⟩) hI.2 (fun q _ h => xZ_up hI.2.1 q h) (xZ_up hI.2.1) (fun u t H1 locs1 ht hvm hw hB hz hk hS => ?_)
  exact kk H1 locs1 ⟨by rw [← ht]; exact hB.1, hS⟩
theorem x_callSi {r1 : Int32} (E : xE p s m args meth c cc nL rt own G) (hI : xI G M L s.heap H locs)
    (hM : Met l y (Cond.code y bytes maxL rt' :: xTB) (xR h1) (xP G M L H.size As) (xQi G r1 M1 L1 H.size) 0 0 (xZ G H.size)) (hY : xYS y bytes maxL rt' n) (hL : Cond.methodLink own index y ∈ xTB) (hh : h1 + 1 ≤ h2) (hmx : maxL ≤ 40)
    (hst : st0 = As.reverse ++ rest) (hn : As.length = n) (hsz : ls.size = nL) (hro : (rest.map fun v => v.category).sum ≤ 8) (hdg : decode cc pc = .ok (.invokestatic index, 3))
    (kk : ∀ (H : Heap) (locs : List Loc), xI G M1 L1 s.heap H locs → W p l e (xR h2) s m args below meth c H locs 0 0 Q (F0 m (pc + 3) ls (.int r1 :: rest))) : W p l e (xR h2) s m args below meth c H locs 0 0 Q (F0 m pc ls st0) := by
  subst hst
  refine va_calli (va_runS (As := As) (rest := rest) ⟨E.1, E.2.1, E.2.2.2.1, E.2.2.2.2.1, E.2.2.2.2.2.1⟩ hM (x_cwS E hY hL hh hmx) ⟨xP_blind _ _ _ _ _, x_pre E hI _⟩ rfl hn hsz rfl (lv_room hro) hdg ⟨Nat.zero_le _, Nat.zero_le _⟩) hI.2 (fun q _ h => xZ_up hI.2.1 q h) (xZ_up hI.2.1) (fun r u t H1 locs1 ht hvm hw hB hz hk hS => ?_)
  subst hw
  exact kk H1 locs1 ⟨by rw [← ht]; exact hB.1, hS⟩
theorem x_callSv (E : xE p s m args meth c cc nL rt own G) (hI : xI G M L s.heap H locs)
    (hM : Met l y (Cond.code y bytes maxL rt' :: xTB) (xR h1) (xP G M L H.size As) (xQv G M1 L1 H.size) 0 0 (xZ G H.size)) (hY : xYS y bytes maxL rt' n) (hL : Cond.methodLink own index y ∈ xTB) (hh : h1 + 1 ≤ h2) (hmx : maxL ≤ 40)
    (hst : st0 = As.reverse ++ rest) (hn : As.length = n) (hsz : ls.size = nL) (hro : (rest.map fun v => v.category).sum ≤ 8) (hdg : decode cc pc = .ok (.invokestatic index, 3))
    (kk : ∀ (H : Heap) (locs : List Loc), xI G M1 L1 s.heap H locs → W p l e (xR h2) s m args below meth c H locs 0 0 Q (F0 m (pc + 3) ls rest)) : W p l e (xR h2) s m args below meth c H locs 0 0 Q (F0 m pc ls st0) := by
  subst hst
  refine va_callv (va_runS (As := As) (rest := rest) ⟨E.1, E.2.1, E.2.2.2.1, E.2.2.2.2.1, E.2.2.2.2.2.1⟩ hM (x_cwS E hY hL hh hmx) ⟨xP_blind _ _ _ _ _, x_pre E hI _⟩ rfl hn hsz rfl (lv_room hro) hdg ⟨Nat.zero_le _, Nat.zero_le _⟩) hI.2 (fun q _ h => xZ_up hI.2.1 q h) (xZ_up hI.2.1) (fun u t H1 locs1 ht hvm hw hB hz hk hS => ?_)
  exact kk H1 locs1 ⟨by rw [← ht]; exact hB.1, hS⟩
/-- Reader's call of EggScales.beyond, a nest mate's private method -/
theorem x_callNi {r1 : Int32} (E : xE p s m args meth c cc nL rt RX3 G) (hI : xI G M L s.heap H locs)
    (hM : Met l yX7_beyond (Cond.code yX7_beyond bytes maxL rt' :: xTB) (xR h1) (xP G M L H.size As) (xQi G r1 M1 L1 H.size) 0 0 (xZ G H.size)) (hY : xYS yX7_beyond bytes maxL rt' n) (hh : h1 + 1 ≤ h2) (hmx : maxL ≤ 40)
    (hst : st0 = As.reverse ++ rest) (hn : As.length = n) (hsz : ls.size = nL) (hro : (rest.map fun v => v.category).sum ≤ 8) (hdg : decode cc pc = .ok (.invokestatic 78, 3))
    (kk : ∀ (H : Heap) (locs : List Loc), xI G M1 L1 s.heap H locs → W p l e (xR h2) s m args below meth c H locs 0 0 Q (F0 m (pc + 3) ls (.int r1 :: rest))) : W p l e (xR h2) s m args below meth c H locs 0 0 Q (F0 m pc ls st0) := by
  subst hst
  refine va_calli (va_runSN (host := RX7) (Ts := xTB) (As := As) (rest := rest) ⟨E.1, E.2.1, E.2.2.2.1, E.2.2.2.2.1, E.2.2.2.2.2.1⟩ hM ⟨va_cnB n E.2.2.2.2.2.1 (tb_good' hY.2.2.1) rfl rfl rfl E.2.2.2.2.2.2.2.2.2 (E.2.2.2.2.2.1 _ hY.2.1) hY.2.2.2 (xR_up hh hmx), E.2.2.2.2.2.1 _ hY.1, trivial⟩ ⟨xP_blind _ _ _ _ _, x_pre E hI _⟩ rfl hn hsz rfl (lv_room hro) hdg ⟨Nat.zero_le _, Nat.zero_le _⟩) hI.2 (fun q _ h => xZ_up hI.2.1 q h) (xZ_up hI.2.1) (fun r u t H1 locs1 ht hvm hw hB hz hk hS => ?_)
  subst hw
  exact kk H1 locs1 ⟨by rw [← ht]; exact hB.1, hS⟩
theorem x_met {Qc : Array Value → State → Outcome → State → Prop} {sz h : Nat} {av : List Value} (hy : plainName y.cls = true) (hlen : (lg_sl av).length ≤ nL)
    (body : ∀ (p : Program) (e : Env) (s : State) (m : MethodId) (below : List Frame) (meth : Method) (c : Code) (ls : Array Slot), s.heap.size = sz → xE p s m av.toArray meth c cc nL rt y.cls G → lv_has ls nL (lv_args 0 av) → xI G M L s.heap s.heap [] →
      W p l e (xR h) s m av.toArray below meth c s.heap [] 0 0 (MQ below Qc av.toArray s 0 0 (xZ G sz)) (F0 m 0 ls [])) : Met l y (Cond.code y cc nL rt :: xTB) (xR h) (xP G M L sz av) Qc 0 0 (xZ G sz) := by
  refine Met.ofW (cc := cc) (maxL := nL) (ret := rt) hy rfl ?_
  intro p e s m args below meth c s₁ B hml hv
  obtain ⟨rfl, hsz, hW⟩ := hv
  have hts := atoms_spec (ws := Cond.code y cc nL rt :: xTB) B.pre
  have hown : s.vm.findClass y.cls = some m.cls := findClass_of_methodNamed B.named
  rw [lg_entry_eq]
  exact body p e s m below meth c _ hsz ⟨B.exec, B.bytes, B.returns, hml, hown, fun w hw => hts w (List.mem_cons_of_mem _ hw), B.notSynchronized, hW.2⟩ (lv_entry av hlen) ⟨hW.1, va_S.rf⟩
theorem x_max (E : xE p s m args meth c cc nL rt own G) (hL : Cond.methodLink own index Lib.Math.max.name ∈ xTB) (hS : Cond.static Lib.Math.max.name ∈ xTB) (hi : Cond.initialized "java/lang/Math" ∈ xTB) (hC : Cond.code Lib.Math.max.name Lib.Math.max.code 2 (some .int) ∈ xTB) (hh : 1 ≤ h2) (hsz : ls.size = nL) (hro : (rest.map fun v => v.category).sum ≤ 8) {x z : Int32} (hdg : decode cc pc = .ok (.invokestatic index, 3))
    (kk : W p l e (xR h2) s m args below meth c H locs 0 0 Q (F0 m (pc + 3) ls (.int (if x < z then z else x) :: rest))) : W p l e (xR h2) s m args below meth c H locs 0 0 Q (F0 m pc ls (.int z :: .int x :: rest)) :=
  va_mmax E.1 E.2.1 (by rw [hsz]; exact E.2.2.2.1) E.2.2.2.2.1 (E.2.2.2.2.2.1 _ hL) (E.2.2.2.2.2.1 _ hS) (E.2.2.2.2.2.1 _ hi) (E.2.2.2.2.2.1 _ hC) hh (by show _ ≤ 60 * h2; omega) (Nat.le_refl _) (Nat.le_refl _) hdg kk
theorem x_min (E : xE p s m args meth c cc nL rt own G) (hL : Cond.methodLink own index Lib.Math.min.name ∈ xTB) (hS : Cond.static Lib.Math.min.name ∈ xTB) (hi : Cond.initialized "java/lang/Math" ∈ xTB) (hC : Cond.code Lib.Math.min.name Lib.Math.min.code 2 (some .int) ∈ xTB) (hh : 1 ≤ h2) (hsz : ls.size = nL) (hro : (rest.map fun v => v.category).sum ≤ 8) {x z : Int32} (hdg : decode cc pc = .ok (.invokestatic index, 3))
    (kk : W p l e (xR h2) s m args below meth c H locs 0 0 Q (F0 m (pc + 3) ls (.int (if z < x then z else x) :: rest))) : W p l e (xR h2) s m args below meth c H locs 0 0 Q (F0 m pc ls (.int z :: .int x :: rest)) :=
  va_mmin E.1 E.2.1 (by rw [hsz]; exact E.2.2.2.1) E.2.2.2.2.1 (E.2.2.2.2.2.1 _ hL) (E.2.2.2.2.2.1 _ hS) (E.2.2.2.2.2.1 _ hi) (E.2.2.2.2.2.1 _ hC) hh (by show _ ≤ 60 * h2; omega) (Nat.le_refl _) (Nat.le_refl _) hdg kk
theorem x_copy (E : xE p s m args meth c cc nL rt own G) (hI : xI G M L s.heap H locs) {o0 r0 n0 o1 r1 n1 : Nat} (hm0 : (o0, r0) ∈ ixs) (hc0 : ∀ w v, xc G o0 r0 w v = .inl (xk G 0, n0, .inl w)) (hm1 : (o1, r1) ∈ ixs) (hc1 : ∀ w v, xc G o1 r1 w v = .inl (xk G 0, n1, .inl w)) (hL : Cond.methodLink own index arraycopyName ∈ xTB) (hN : Cond.native arraycopyName ∈ xTB) (hS : Cond.static arraycopyName ∈ xTB) (hi : Cond.initialized "java/lang/System" ∈ xTB) (hh : 1 ≤ h2) (hsz : ls.size = nL) (hro : (rest.map fun v => v.category).sum ≤ 8) {sp dp k : Int32} (hb : xcb sp dp k n0 n1 = true) (hdg : decode cc pc = .ok (.invokestatic index, 3)) (hM : xcp M o0 r0 sp o1 r1 dp k = M1)
    (kk : ∀ (H : Heap) (locs : List Loc), xI G M1 L s.heap H locs → W p l e (xR h2) s m args below meth c H locs 0 0 Q (F0 m (pc + 3) ls rest)) : W p l e (xR h2) s m args below meth c H locs 0 0 Q (F0 m pc ls (.int k :: .int dp :: .ref (xq G o1 r1) :: .int sp :: .ref (xq G o0 r0) :: rest)) := by
  obtain ⟨k0, h10, h20⟩ := xw_get G M L hm0
  obtain ⟨k1, h11, h21⟩ := xw_get G M L hm1
  rw [hc0] at h20
  rw [hc1] at h21
  obtain ⟨b1, b2, b3, b4, b5⟩ := xcb_s hb
  refine va_copyi E.1 E.2.1 (by rw [hsz]; exact E.2.2.2.1) E.2.2.2.2.1 (E.2.2.2.2.2.1 _ hL) (E.2.2.2.2.2.1 _ hN) (E.2.2.2.2.2.1 _ hS) (E.2.2.2.2.2.1 _ hi) E.2.2.2.2.2.2.2.1 hI.1 (xw_D E.2.2.2.2.2.2.2.2.1) hI.2 k0 k1 0 0 h20 h21 rfl rfl rfl b1 b2 b3 b4 b5 (fun _ _ => rfl) hh (by
    have h9 : nativeFrameWords "java/lang/System" "arraycopy" 5 + 11 ≤ 40 := by decide +kernel
    show _ ≤ 60 * h2
    omega) hdg (fun H1 locs1 hP hD hS => ?_)
  have e1 := xw_set G M L h11 (va_cpy (M o0 r0) (M o1 r1) sp.toNatClampNeg dp.toNatClampNeg k.toNatClampNeg)
  rw [hc1] at e1
  rw [e1] at hP
  subst hM
  exact kk H1 locs1 ⟨hP, hS⟩
end XCall
section XSw
variable {p : Program} {l : Launch} {e : Env} {R : Room} {s : State} {m : MethodId} {args : Array Value} {below : List Frame} {meth : Method} {c : Code} {H : Heap} {locs : List Loc} {Q : State → Prop}
variable {cc : ByteArray} {pc : Nat} {ls : Array Slot} {rest : List Value}
theorem x_tsIn (hexec : p.tables.exec = Jvm.exec) (hb : c.code = cc) {dflt lo hi : Int} {offs : Array Int} {len : Nat} {x v : Int32} {off : Int} {tgt : Nat} (hx : x = v) (hdg : decode cc pc = .ok (.tableswitch dflt lo hi offs, len)) (h1 : ¬ v.toInt < lo) (h2 : ¬ hi < v.toInt) (ho : offs[(v.toInt - lo).toNat]? = some off) (ht : (pc : Int) + off = (tgt : Int))
    (k : W p l e R s m args below meth c H locs 0 0 Q (F0 m tgt ls rest)) : W p l e R s m args below meth c H locs 0 0 Q (F0 m pc ls (.int x :: rest)) := by
  subst hx
  exact lv_tableIn hexec hb hdg h1 h2 ho ht k
theorem x_tsOut (hexec : p.tables.exec = Jvm.exec) (hb : c.code = cc) {dflt lo hi : Int} {offs : Array Int} {len : Nat} {x : Int32} {tgt : Nat} (hdg : decode cc pc = .ok (.tableswitch dflt lo hi offs, len)) (hx : ∀ k : Nat, k < (hi - lo + 1).toNat → ¬ x = Int32.ofInt (lo + k)) (ht : (pc : Int) + dflt = (tgt : Int))
    (k : W p l e R s m args below meth c H locs 0 0 Q (F0 m tgt ls rest)) : W p l e R s m args below meth c H locs 0 0 Q (F0 m pc ls (.int x :: rest)) := by
  refine lv_tableOut hexec hb hdg ?_ ht k
  by_cases h1 : x.toInt < lo
  · exact Or.inl h1
  · by_cases h2 : hi < x.toInt
    · exact Or.inr h2
    · exact absurd (by rw [show lo + ((x.toInt - lo).toNat : Int) = x.toInt by omega]; exact (Int32.ofInt_toInt x).symm) (hx (x.toInt - lo).toNat (by omega))
end XSw
end
section
theorem in_X0 : ∀ w ∈ u_ws RX0 TX0 6, w ∈ xTB := fun w h => tb_in ((by decide +kernel : ∀ w ∈ u_ws RX0 TX0 6, w ∈ lw_tbl) w h) ((by decide +kernel : ∀ w ∈ u_ws RX0 TX0 6, goodWord w = true) w h)
theorem in_X1 : ∀ w ∈ u_ws RX1 TX1 2, w ∈ xTB := fun w h => tb_in ((by decide +kernel : ∀ w ∈ u_ws RX1 TX1 2, w ∈ lw_tbl) w h) ((by decide +kernel : ∀ w ∈ u_ws RX1 TX1 2, goodWord w = true) w h)
theorem in_X2 : ∀ w ∈ u_ws RX2 TX2 3, w ∈ xTB := fun w h => tb_in ((by decide +kernel : ∀ w ∈ u_ws RX2 TX2 3, w ∈ lw_tbl) w h) ((by decide +kernel : ∀ w ∈ u_ws RX2 TX2 3, goodWord w = true) w h)
theorem in_X3 : ∀ w ∈ u_ws RX3 TX3 7, w ∈ xTB := fun w h => tb_in ((by decide +kernel : ∀ w ∈ u_ws RX3 TX3 7, w ∈ lw_tbl) w h) ((by decide +kernel : ∀ w ∈ u_ws RX3 TX3 7, goodWord w = true) w h)
theorem in_X4 : ∀ w ∈ u_ws RX4 TX4 6, w ∈ xTB := fun w h => tb_in ((by decide +kernel : ∀ w ∈ u_ws RX4 TX4 6, w ∈ lw_tbl) w h) ((by decide +kernel : ∀ w ∈ u_ws RX4 TX4 6, goodWord w = true) w h)
theorem in_X5 : ∀ w ∈ u_ws RX5 TX5 8, w ∈ xTB := fun w h => tb_in ((by decide +kernel : ∀ w ∈ u_ws RX5 TX5 8, w ∈ lw_tbl) w h) ((by decide +kernel : ∀ w ∈ u_ws RX5 TX5 8, goodWord w = true) w h)
theorem in_X6 : ∀ w ∈ u_ws RX6 TX6 7, w ∈ xTB := fun w h => tb_in ((by decide +kernel : ∀ w ∈ u_ws RX6 TX6 7, w ∈ lw_tbl) w h) ((by decide +kernel : ∀ w ∈ u_ws RX6 TX6 7, goodWord w = true) w h)
theorem in_X7 : ∀ w ∈ u_ws RX7 TX7 11, w ∈ xTB := fun w h => tb_in ((by decide +kernel : ∀ w ∈ u_ws RX7 TX7 11, w ∈ lw_tbl) w h) ((by decide +kernel : ∀ w ∈ u_ws RX7 TX7 11, goodWord w = true) w h)
theorem in_X8 : ∀ w ∈ u_ws RX8 TX8 31, w ∈ xTB := fun w h => tb_in ((by decide +kernel : ∀ w ∈ u_ws RX8 TX8 31, w ∈ lw_tbl) w h) ((by decide +kernel : ∀ w ∈ u_ws RX8 TX8 31, goodWord w = true) w h)
theorem fl_X0_9 : Cond.fieldLink RX0 9 "EggScales$Floor" "where" "[I" ∈ xTB := tb_t 115 (by decide +kernel) (by decide +kernel)
theorem fl_X0_15 : Cond.fieldLink RX0 15 "EggScales$Floor" "weight" "[I" ∈ xTB := tb_t 118 (by decide +kernel) (by decide +kernel)
theorem fl_X0_18 : Cond.fieldLink RX0 18 "EggScales$Floor" "mark" "[I" ∈ xTB := tb_t 120 (by decide +kernel) (by decide +kernel)
theorem fl_X0_21 : Cond.fieldLink RX0 21 "EggScales$Floor" "row" "[I" ∈ xTB := tb_t 122 (by decide +kernel) (by decide +kernel)
theorem fl_X0_24 : Cond.fieldLink RX0 24 "EggScales$Floor" "fallen" "[I" ∈ xTB := tb_t 125 (by decide +kernel) (by decide +kernel)
theorem fl_X0_27 : Cond.fieldLink RX0 27 "EggScales$Floor" "told" "LEggScales$Told;" ∈ xTB := tb_t 114 (by decide +kernel) (by decide +kernel)
theorem fl_X0_37 : Cond.fieldLink RX0 37 "EggScales$Told" "weight" "[I" ∈ xTB := tb_t 58 (by decide +kernel) (by decide +kernel)
theorem fl_X0_46 : Cond.fieldLink RX0 46 "EggScales$Told" "mark" "[I" ∈ xTB := tb_t 46 (by decide +kernel) (by decide +kernel)
theorem fl_X0_47 : Cond.fieldLink RX0 47 "EggScales$Told" "scales" "I" ∈ xTB := tb_t 37 (by decide +kernel) (by decide +kernel)
theorem fl_X0_74 : Cond.fieldLink RX0 74 "EggScales$Told" "sticks" "[I" ∈ xTB := tb_t 52 (by decide +kernel) (by decide +kernel)
theorem fl_X0_85 : Cond.fieldLink RX0 85 "EggScales$Told" "room" "[I" ∈ xTB := tb_t 56 (by decide +kernel) (by decide +kernel)
theorem fl_X0_94 : Cond.fieldLink RX0 94 "EggScales$Told" "eggs" "I" ∈ xTB := tb_t 43 (by decide +kernel) (by decide +kernel)
theorem fl_X0_100 : Cond.fieldLink RX0 100 "EggScales$Told" "kind" "[I" ∈ xTB := tb_t 63 (by decide +kernel) (by decide +kernel)
theorem fl_X1_11 : Cond.fieldLink RX1 11 "EggScales$Packer" "most" "[I" ∈ xTB := tb_t 198 (by decide +kernel) (by decide +kernel)
theorem fl_X1_15 : Cond.fieldLink RX1 15 "EggScales$Packer" "floor" "LEggScales$Floor;" ∈ xTB := tb_t 197 (by decide +kernel) (by decide +kernel)
theorem fl_X2_11 : Cond.fieldLink RX2 11 "EggScales$Past" "floors" "[LEggScales$Floor;" ∈ xTB := tb_t 149 (by decide +kernel) (by decide +kernel)
theorem fl_X2_20 : Cond.fieldLink RX2 20 "EggScales$Past" "latest" "I" ∈ xTB := tb_t 150 (by decide +kernel) (by decide +kernel)
theorem fl_X2_28 : Cond.fieldLink RX2 28 "EggScales$Past" "known" "I" ∈ xTB := tb_t 151 (by decide +kernel) (by decide +kernel)
theorem fl_X3_9 : Cond.fieldLink RX3 9 "EggScales$Reader" "letters" "[C" ∈ xTB := tb_t 81 (by decide +kernel) (by decide +kernel)
theorem fl_X3_18 : Cond.fieldLink RX3 18 "EggScales$Reader" "draft" "LEggScales$Told;" ∈ xTB := tb_t 85 (by decide +kernel) (by decide +kernel)
theorem fl_X3_22 : Cond.fieldLink RX3 22 "EggScales$Told" "scales" "I" ∈ xTB := tb_t 35 (by decide +kernel) (by decide +kernel)
theorem fl_X3_26 : Cond.fieldLink RX3 26 "EggScales$Told" "eggs" "I" ∈ xTB := tb_t 41 (by decide +kernel) (by decide +kernel)
theorem fl_X3_29 : Cond.fieldLink RX3 29 "EggScales$Reader" "place" "I" ∈ xTB := tb_t 87 (by decide +kernel) (by decide +kernel)
theorem fl_X3_35 : Cond.fieldLink RX3 35 "EggScales$Reader" "token" "I" ∈ xTB := tb_t 89 (by decide +kernel) (by decide +kernel)
theorem fl_X3_42 : Cond.fieldLink RX3 42 "EggScales$Reader" "start" "I" ∈ xTB := tb_t 88 (by decide +kernel) (by decide +kernel)
theorem fl_X3_59 : Cond.fieldLink RX3 59 "EggScales$Told" "mark" "[I" ∈ xTB := tb_t 47 (by decide +kernel) (by decide +kernel)
theorem fl_X3_63 : Cond.fieldLink RX3 63 "EggScales$Reader" "number" "I" ∈ xTB := tb_t 90 (by decide +kernel) (by decide +kernel)
theorem fl_X3_66 : Cond.fieldLink RX3 66 "EggScales$Told" "sticks" "[I" ∈ xTB := tb_t 50 (by decide +kernel) (by decide +kernel)
theorem fl_X3_69 : Cond.fieldLink RX3 69 "EggScales$Told" "room" "[I" ∈ xTB := tb_t 54 (by decide +kernel) (by decide +kernel)
theorem fl_X3_72 : Cond.fieldLink RX3 72 "EggScales$Told" "weight" "[I" ∈ xTB := tb_t 59 (by decide +kernel) (by decide +kernel)
theorem fl_X3_75 : Cond.fieldLink RX3 75 "EggScales$Told" "kind" "[I" ∈ xTB := tb_t 61 (by decide +kernel) (by decide +kernel)
theorem fl_X3_82 : Cond.fieldLink RX3 82 "EggScales$Reader" "length" "I" ∈ xTB := tb_t 84 (by decide +kernel) (by decide +kernel)
theorem fl_X4_11 : Cond.fieldLink RX4 11 "EggScales$Search" "floors" "[LEggScales$Floor;" ∈ xTB := tb_t 169 (by decide +kernel) (by decide +kernel)
theorem fl_X4_17 : Cond.fieldLink RX4 17 "EggScales$Search" "tried" "[I" ∈ xTB := tb_t 170 (by decide +kernel) (by decide +kernel)
theorem fl_X4_21 : Cond.fieldLink RX4 21 "EggScales$Search" "found" "[I" ∈ xTB := tb_t 171 (by decide +kernel) (by decide +kernel)
theorem fl_X4_24 : Cond.fieldLink RX4 24 "EggScales$Search" "told" "LEggScales$Told;" ∈ xTB := tb_t 168 (by decide +kernel) (by decide +kernel)
theorem fl_X4_39 : Cond.fieldLink RX4 39 "EggScales$Search" "length" "I" ∈ xTB := tb_t 173 (by decide +kernel) (by decide +kernel)
theorem fl_X4_43 : Cond.fieldLink RX4 43 "EggScales$Search" "most" "I" ∈ xTB := tb_t 175 (by decide +kernel) (by decide +kernel)
theorem fl_X4_66 : Cond.fieldLink RX4 66 "EggScales$Told" "eggs" "I" ∈ xTB := tb_t 42 (by decide +kernel) (by decide +kernel)
theorem fl_X4_71 : Cond.fieldLink RX4 71 "EggScales$Floor" "where" "[I" ∈ xTB := tb_t 116 (by decide +kernel) (by decide +kernel)
theorem fl_X4_81 : Cond.fieldLink RX4 81 "EggScales$Told" "scales" "I" ∈ xTB := tb_t 38 (by decide +kernel) (by decide +kernel)
theorem fl_X4_93 : Cond.fieldLink RX4 93 "EggScales$Floor" "row" "[I" ∈ xTB := tb_t 123 (by decide +kernel) (by decide +kernel)
theorem fl_X5_9 : Cond.fieldLink RX5 9 "EggScales$Tester" "testGrams" "[I" ∈ xTB := tb_t 211 (by decide +kernel) (by decide +kernel)
theorem fl_X5_15 : Cond.fieldLink RX5 15 "EggScales$Tester" "testScale" "[I" ∈ xTB := tb_t 212 (by decide +kernel) (by decide +kernel)
theorem fl_X5_18 : Cond.fieldLink RX5 18 "EggScales$Tester" "wayScale" "[I" ∈ xTB := tb_t 215 (by decide +kernel) (by decide +kernel)
theorem fl_X5_21 : Cond.fieldLink RX5 21 "EggScales$Tester" "wayOff" "[I" ∈ xTB := tb_t 216 (by decide +kernel) (by decide +kernel)
theorem fl_X5_24 : Cond.fieldLink RX5 24 "EggScales$Tester" "parts" "[I" ∈ xTB := tb_t 219 (by decide +kernel) (by decide +kernel)
theorem fl_X5_27 : Cond.fieldLink RX5 27 "EggScales$Tester" "told" "LEggScales$Told;" ∈ xTB := tb_t 210 (by decide +kernel) (by decide +kernel)
theorem fl_X5_31 : Cond.fieldLink RX5 31 "EggScales$Tester" "tests" "I" ∈ xTB := tb_t 213 (by decide +kernel) (by decide +kernel)
theorem fl_X5_35 : Cond.fieldLink RX5 35 "EggScales$Tester" "ways" "I" ∈ xTB := tb_t 217 (by decide +kernel) (by decide +kernel)
theorem fl_X5_42 : Cond.fieldLink RX5 42 "EggScales$Told" "scales" "I" ∈ xTB := tb_t 36 (by decide +kernel) (by decide +kernel)
theorem fl_X5_51 : Cond.fieldLink RX5 51 "EggScales$Told" "mark" "[I" ∈ xTB := tb_t 48 (by decide +kernel) (by decide +kernel)
theorem fl_X6_9 : Cond.fieldLink RX6 9 "EggScales$Told" "mark" "[I" ∈ xTB := tb_t 45 (by decide +kernel) (by decide +kernel)
theorem fl_X6_15 : Cond.fieldLink RX6 15 "EggScales$Told" "sticks" "[I" ∈ xTB := tb_t 49 (by decide +kernel) (by decide +kernel)
theorem fl_X6_18 : Cond.fieldLink RX6 18 "EggScales$Told" "room" "[I" ∈ xTB := tb_t 53 (by decide +kernel) (by decide +kernel)
theorem fl_X6_21 : Cond.fieldLink RX6 21 "EggScales$Told" "weight" "[I" ∈ xTB := tb_t 57 (by decide +kernel) (by decide +kernel)
theorem fl_X6_24 : Cond.fieldLink RX6 24 "EggScales$Told" "kind" "[I" ∈ xTB := tb_t 60 (by decide +kernel) (by decide +kernel)
theorem fl_X6_27 : Cond.fieldLink RX6 27 "EggScales$Told" "scales" "I" ∈ xTB := tb_t 34 (by decide +kernel) (by decide +kernel)
theorem fl_X6_31 : Cond.fieldLink RX6 31 "EggScales$Told" "eggs" "I" ∈ xTB := tb_t 40 (by decide +kernel) (by decide +kernel)
theorem fl_X7_10 : Cond.fieldLink RX7 10 "EggScales" "reader" "LEggScales$Reader;" ∈ xTB := tb_t 237 (by decide +kernel) (by decide +kernel)
theorem fl_X7_19 : Cond.fieldLink RX7 19 "EggScales" "told" "LEggScales$Told;" ∈ xTB := tb_t 238 (by decide +kernel) (by decide +kernel)
theorem fl_X7_28 : Cond.fieldLink RX7 28 "EggScales" "floor" "LEggScales$Floor;" ∈ xTB := tb_t 239 (by decide +kernel) (by decide +kernel)
theorem fl_X7_32 : Cond.fieldLink RX7 32 "EggScales" "trial" "LEggScales$Floor;" ∈ xTB := tb_t 240 (by decide +kernel) (by decide +kernel)
theorem fl_X7_38 : Cond.fieldLink RX7 38 "EggScales" "past" "LEggScales$Past;" ∈ xTB := tb_t 241 (by decide +kernel) (by decide +kernel)
theorem fl_X7_42 : Cond.fieldLink RX7 42 "EggScales" "images" "[LEggScales$Floor;" ∈ xTB := tb_t 242 (by decide +kernel) (by decide +kernel)
theorem fl_X7_46 : Cond.fieldLink RX7 46 "EggScales" "kept" "[Z" ∈ xTB := tb_t 243 (by decide +kernel) (by decide +kernel)
theorem fl_X7_53 : Cond.fieldLink RX7 53 "EggScales" "search" "LEggScales$Search;" ∈ xTB := tb_t 244 (by decide +kernel) (by decide +kernel)
theorem fl_X7_62 : Cond.fieldLink RX7 62 "EggScales" "packer" "LEggScales$Packer;" ∈ xTB := tb_t 245 (by decide +kernel) (by decide +kernel)
theorem fl_X7_69 : Cond.fieldLink RX7 69 "EggScales" "tester" "LEggScales$Tester;" ∈ xTB := tb_t 246 (by decide +kernel) (by decide +kernel)
theorem fl_X7_77 : Cond.fieldLink RX7 77 "EggScales$Reader" "length" "I" ∈ xTB := tb_t 83 (by decide +kernel) (by decide +kernel)
theorem fl_X7_81 : Cond.fieldLink RX7 81 "EggScales$Reader" "letters" "[C" ∈ xTB := tb_t 82 (by decide +kernel) (by decide +kernel)
theorem fl_X7_89 : Cond.fieldLink RX7 89 "EggScales$Reader" "draft" "LEggScales$Told;" ∈ xTB := tb_t 86 (by decide +kernel) (by decide +kernel)
theorem fl_X7_98 : Cond.fieldLink RX7 98 "EggScales$Past" "known" "I" ∈ xTB := tb_t 152 (by decide +kernel) (by decide +kernel)
theorem fl_X7_101 : Cond.fieldLink RX7 101 "EggScales$Tester" "tests" "I" ∈ xTB := tb_t 214 (by decide +kernel) (by decide +kernel)
theorem fl_X7_108 : Cond.fieldLink RX7 108 "EggScales$Floor" "mark" "[I" ∈ xTB := tb_t 121 (by decide +kernel) (by decide +kernel)
theorem fl_X7_112 : Cond.fieldLink RX7 112 "EggScales$Told" "sticks" "[I" ∈ xTB := tb_t 51 (by decide +kernel) (by decide +kernel)
theorem fl_X7_115 : Cond.fieldLink RX7 115 "EggScales$Told" "room" "[I" ∈ xTB := tb_t 55 (by decide +kernel) (by decide +kernel)
theorem fl_X7_118 : Cond.fieldLink RX7 118 "EggScales$Floor" "fallen" "[I" ∈ xTB := tb_t 126 (by decide +kernel) (by decide +kernel)
theorem fl_X7_131 : Cond.fieldLink RX7 131 "EggScales$Floor" "weight" "[I" ∈ xTB := tb_t 119 (by decide +kernel) (by decide +kernel)
theorem fl_X7_134 : Cond.fieldLink RX7 134 "EggScales$Told" "kind" "[I" ∈ xTB := tb_t 62 (by decide +kernel) (by decide +kernel)
theorem fl_X7_137 : Cond.fieldLink RX7 137 "EggScales$Floor" "where" "[I" ∈ xTB := tb_t 117 (by decide +kernel) (by decide +kernel)
theorem fl_X7_162 : Cond.fieldLink RX7 162 "EggScales$Told" "scales" "I" ∈ xTB := tb_t 39 (by decide +kernel) (by decide +kernel)
theorem fl_X7_165 : Cond.fieldLink RX7 165 "EggScales$Floor" "row" "[I" ∈ xTB := tb_t 124 (by decide +kernel) (by decide +kernel)
theorem fl_X7_176 : Cond.fieldLink RX7 176 "EggScales$Search" "most" "I" ∈ xTB := tb_t 176 (by decide +kernel) (by decide +kernel)
theorem fl_X7_179 : Cond.fieldLink RX7 179 "EggScales$Search" "length" "I" ∈ xTB := tb_t 174 (by decide +kernel) (by decide +kernel)
theorem fl_X7_180 : Cond.fieldLink RX7 180 "EggScales$Search" "found" "[I" ∈ xTB := tb_t 172 (by decide +kernel) (by decide +kernel)
theorem fl_X7_222 : Cond.fieldLink RX7 222 "EggScales$Tester" "ways" "I" ∈ xTB := tb_t 218 (by decide +kernel) (by decide +kernel)
theorem fl_X7_253 : Cond.fieldLink RX7 253 "EggScales$Told" "eggs" "I" ∈ xTB := tb_t 44 (by decide +kernel) (by decide +kernel)
theorem fl_X7_256 : Cond.fieldLink RX7 256 "EggScales" "traced" "J" ∈ xTB := tb_t 247 (by decide +kernel) (by decide +kernel)
theorem fl_X8_7 : Cond.fieldLink RX8 7 "EggScalesModel" "marks" "[I" ∈ xTB := tb_t 686 (by decide +kernel) (by decide +kernel)
theorem fl_X8_13 : Cond.fieldLink RX8 13 "EggScalesModel" "sticks" "[I" ∈ xTB := tb_t 687 (by decide +kernel) (by decide +kernel)
theorem fl_X8_16 : Cond.fieldLink RX8 16 "EggScalesModel" "rooms" "[I" ∈ xTB := tb_t 688 (by decide +kernel) (by decide +kernel)
theorem fl_X8_19 : Cond.fieldLink RX8 19 "EggScalesModel" "kinds" "[I" ∈ xTB := tb_t 690 (by decide +kernel) (by decide +kernel)
theorem fl_X8_22 : Cond.fieldLink RX8 22 "EggScalesModel" "st" "[I" ∈ xTB := tb_t 691 (by decide +kernel) (by decide +kernel)
theorem fl_X8_25 : Cond.fieldLink RX8 25 "EggScalesModel" "was" "[I" ∈ xTB := tb_t 692 (by decide +kernel) (by decide +kernel)
theorem fl_X8_28 : Cond.fieldLink RX8 28 "EggScalesModel" "images" "[I" ∈ xTB := tb_t 694 (by decide +kernel) (by decide +kernel)
theorem fl_X8_31 : Cond.fieldLink RX8 31 "EggScalesModel" "isKept" "[Z" ∈ xTB := tb_t 695 (by decide +kernel) (by decide +kernel)
theorem fl_X8_35 : Cond.fieldLink RX8 35 "EggScalesModel" "tests" "[I" ∈ xTB := tb_t 697 (by decide +kernel) (by decide +kernel)
theorem fl_X8_38 : Cond.fieldLink RX8 38 "EggScalesModel" "text" "[I" ∈ xTB := tb_t 699 (by decide +kernel) (by decide +kernel)
theorem fl_X8_41 : Cond.fieldLink RX8 41 "EggScalesModel" "saidScale" "[I" ∈ xTB := tb_t 708 (by decide +kernel) (by decide +kernel)
theorem fl_X8_44 : Cond.fieldLink RX8 44 "EggScalesModel" "saidEgg" "[I" ∈ xTB := tb_t 710 (by decide +kernel) (by decide +kernel)
theorem fl_X8_47 : Cond.fieldLink RX8 47 "EggScalesModel" "now" "[I" ∈ xTB := tb_t 711 (by decide +kernel) (by decide +kernel)
theorem fl_X8_50 : Cond.fieldLink RX8 50 "EggScalesModel" "order" "[I" ∈ xTB := tb_t 712 (by decide +kernel) (by decide +kernel)
theorem fl_X8_53 : Cond.fieldLink RX8 53 "EggScalesModel" "best" "[I" ∈ xTB := tb_t 713 (by decide +kernel) (by decide +kernel)
theorem fl_X8_56 : Cond.fieldLink RX8 56 "EggScalesModel" "most" "[I" ∈ xTB := tb_t 714 (by decide +kernel) (by decide +kernel)
theorem fl_X8_59 : Cond.fieldLink RX8 59 "EggScalesModel" "parts" "[I" ∈ xTB := tb_t 715 (by decide +kernel) (by decide +kernel)
theorem fl_X8_62 : Cond.fieldLink RX8 62 "EggScalesModel" "scales" "I" ∈ xTB := tb_t 685 (by decide +kernel) (by decide +kernel)
theorem fl_X8_70 : Cond.fieldLink RX8 70 "EggScalesModel" "eggs" "I" ∈ xTB := tb_t 689 (by decide +kernel) (by decide +kernel)
theorem fl_X8_73 : Cond.fieldLink RX8 73 "EggScalesModel" "texted" "I" ∈ xTB := tb_t 700 (by decide +kernel) (by decide +kernel)
theorem fl_X8_76 : Cond.fieldLink RX8 76 "EggScalesModel" "cursor" "I" ∈ xTB := tb_t 701 (by decide +kernel) (by decide +kernel)
theorem fl_X8_83 : Cond.fieldLink RX8 83 "EggScalesModel" "start" "I" ∈ xTB := tb_t 702 (by decide +kernel) (by decide +kernel)
theorem fl_X8_86 : Cond.fieldLink RX8 86 "EggScalesModel" "number" "I" ∈ xTB := tb_t 704 (by decide +kernel) (by decide +kernel)
theorem fl_X8_89 : Cond.fieldLink RX8 89 "EggScalesModel" "token" "I" ∈ xTB := tb_t 703 (by decide +kernel) (by decide +kernel)
theorem fl_X8_96 : Cond.fieldLink RX8 96 "EggScalesModel" "isWrong" "Z" ∈ xTB := tb_t 705 (by decide +kernel) (by decide +kernel)
theorem fl_X8_103 : Cond.fieldLink RX8 103 "EggScalesModel" "saidScales" "I" ∈ xTB := tb_t 707 (by decide +kernel) (by decide +kernel)
theorem fl_X8_106 : Cond.fieldLink RX8 106 "EggScalesModel" "saidEggs" "I" ∈ xTB := tb_t 709 (by decide +kernel) (by decide +kernel)
theorem fl_X8_113 : Cond.fieldLink RX8 113 "EggScalesModel" "items" "I" ∈ xTB := tb_t 706 (by decide +kernel) (by decide +kernel)
theorem fl_X8_122 : Cond.fieldLink RX8 122 "EggScalesModel" "known" "I" ∈ xTB := tb_t 693 (by decide +kernel) (by decide +kernel)
theorem fl_X8_125 : Cond.fieldLink RX8 125 "EggScalesModel" "testMany" "I" ∈ xTB := tb_t 696 (by decide +kernel) (by decide +kernel)
theorem fl_X8_221 : Cond.fieldLink RX8 221 "EggScalesModel" "trace" "J" ∈ xTB := tb_t 698 (by decide +kernel) (by decide +kernel)
theorem ml_L_9 : Cond.methodLink RL 9 yX7_init ∈ xTB := tb_t 16 (by decide +kernel) (by decide +kernel)
theorem ml_L_12 : Cond.methodLink RL 12 yX8_init ∈ xTB := tb_t 681 (by decide +kernel) (by decide +kernel)
theorem ml_L_13 : Cond.methodLink RL 13 yX7_type ∈ xTB := tb_t 271 (by decide +kernel) (by decide +kernel)
theorem ml_L_17 : Cond.methodLink RL 17 yX8_type ∈ xTB := tb_t 779 (by decide +kernel) (by decide +kernel)
theorem ml_L_18 : Cond.methodLink RL 18 yX7_clear ∈ xTB := tb_t 278 (by decide +kernel) (by decide +kernel)
theorem ml_L_22 : Cond.methodLink RL 22 yX8_clear ∈ xTB := tb_t 786 (by decide +kernel) (by decide +kernel)
theorem ml_L_23 : Cond.methodLink RL 23 yX7_barn ∈ xTB := tb_t 282 (by decide +kernel) (by decide +kernel)
theorem ml_L_26 : Cond.methodLink RL 26 yX8_barn ∈ xTB := tb_t 790 (by decide +kernel) (by decide +kernel)
theorem ml_L_27 : Cond.methodLink RL 27 yX7_scale ∈ xTB := tb_t 341 (by decide +kernel) (by decide +kernel)
theorem ml_L_31 : Cond.methodLink RL 31 yX8_scale ∈ xTB := tb_t 817 (by decide +kernel) (by decide +kernel)
theorem ml_L_32 : Cond.methodLink RL 32 yX7_egg ∈ xTB := tb_t 357 (by decide +kernel) (by decide +kernel)
theorem ml_L_35 : Cond.methodLink RL 35 yX8_egg ∈ xTB := tb_t 840 (by decide +kernel) (by decide +kernel)
theorem ml_L_36 : Cond.methodLink RL 36 yX7_now ∈ xTB := tb_t 373 (by decide +kernel) (by decide +kernel)
theorem ml_L_39 : Cond.methodLink RL 39 yX8_now ∈ xTB := tb_t 856 (by decide +kernel) (by decide +kernel)
theorem ml_L_40 : Cond.methodLink RL 40 yX7_rolls ∈ xTB := tb_t 390 (by decide +kernel) (by decide +kernel)
theorem ml_L_43 : Cond.methodLink RL 43 yX8_rolls ∈ xTB := tb_t 868 (by decide +kernel) (by decide +kernel)
theorem ml_L_44 : Cond.methodLink RL 44 yX7_takes ∈ xTB := tb_t 435 (by decide +kernel) (by decide +kernel)
theorem ml_L_47 : Cond.methodLink RL 47 yX8_takes ∈ xTB := tb_t 895 (by decide +kernel) (by decide +kernel)
theorem ml_L_48 : Cond.methodLink RL 48 yX7_wipes ∈ xTB := tb_t 443 (by decide +kernel) (by decide +kernel)
theorem ml_L_51 : Cond.methodLink RL 51 yX8_wipes ∈ xTB := tb_t 899 (by decide +kernel) (by decide +kernel)
theorem ml_L_52 : Cond.methodLink RL 52 yX7_sets ∈ xTB := tb_t 447 (by decide +kernel) (by decide +kernel)
theorem ml_L_55 : Cond.methodLink RL 55 yX8_sets ∈ xTB := tb_t 903 (by decide +kernel) (by decide +kernel)
theorem ml_L_56 : Cond.methodLink RL 56 yX7_shifts ∈ xTB := tb_t 451 (by decide +kernel) (by decide +kernel)
theorem ml_L_59 : Cond.methodLink RL 59 yX8_shifts ∈ xTB := tb_t 907 (by decide +kernel) (by decide +kernel)
theorem ml_L_60 : Cond.methodLink RL 60 yX7_drops ∈ xTB := tb_t 455 (by decide +kernel) (by decide +kernel)
theorem ml_L_63 : Cond.methodLink RL 63 yX8_drops ∈ xTB := tb_t 911 (by decide +kernel) (by decide +kernel)
theorem ml_L_64 : Cond.methodLink RL 64 yX7_undo ∈ xTB := tb_t 459 (by decide +kernel) (by decide +kernel)
theorem ml_L_67 : Cond.methodLink RL 67 yX8_undo ∈ xTB := tb_t 915 (by decide +kernel) (by decide +kernel)
theorem ml_L_68 : Cond.methodLink RL 68 yX7_goes ∈ xTB := tb_t 467 (by decide +kernel) (by decide +kernel)
theorem ml_L_71 : Cond.methodLink RL 71 yX8_goes ∈ xTB := tb_t 919 (by decide +kernel) (by decide +kernel)
theorem ml_L_72 : Cond.methodLink RL 72 yX7_order ∈ xTB := tb_t 472 (by decide +kernel) (by decide +kernel)
theorem ml_L_75 : Cond.methodLink RL 75 yX8_order ∈ xTB := tb_t 923 (by decide +kernel) (by decide +kernel)
theorem ml_L_76 : Cond.methodLink RL 76 yX7_row ∈ xTB := tb_t 499 (by decide +kernel) (by decide +kernel)
theorem ml_L_79 : Cond.methodLink RL 79 yX8_row ∈ xTB := tb_t 941 (by decide +kernel) (by decide +kernel)
theorem ml_L_80 : Cond.methodLink RL 80 yX7_reset ∈ xTB := tb_t 519 (by decide +kernel) (by decide +kernel)
theorem ml_L_83 : Cond.methodLink RL 83 yX8_reset ∈ xTB := tb_t 949 (by decide +kernel) (by decide +kernel)
theorem ml_L_84 : Cond.methodLink RL 84 yX7_cracks ∈ xTB := tb_t 528 (by decide +kernel) (by decide +kernel)
theorem ml_L_88 : Cond.methodLink RL 88 yX8_cracks ∈ xTB := tb_t 953 (by decide +kernel) (by decide +kernel)
theorem ml_L_89 : Cond.methodLink RL 89 yX7_box ∈ xTB := tb_t 545 (by decide +kernel) (by decide +kernel)
theorem ml_L_92 : Cond.methodLink RL 92 yX8_box ∈ xTB := tb_t 960 (by decide +kernel) (by decide +kernel)
theorem ml_L_93 : Cond.methodLink RL 93 yX7_boxes ∈ xTB := tb_t 570 (by decide +kernel) (by decide +kernel)
theorem ml_L_96 : Cond.methodLink RL 96 yX8_boxes ∈ xTB := tb_t 968 (by decide +kernel) (by decide +kernel)
theorem ml_L_97 : Cond.methodLink RL 97 yX7_tested ∈ xTB := tb_t 579 (by decide +kernel) (by decide +kernel)
theorem ml_L_100 : Cond.methodLink RL 100 yX8_tested ∈ xTB := tb_t 972 (by decide +kernel) (by decide +kernel)
theorem ml_L_101 : Cond.methodLink RL 101 yX7_forget ∈ xTB := tb_t 587 (by decide +kernel) (by decide +kernel)
theorem ml_L_104 : Cond.methodLink RL 104 yX8_forget ∈ xTB := tb_t 976 (by decide +kernel) (by decide +kernel)
theorem ml_L_105 : Cond.methodLink RL 105 yX7_can ∈ xTB := tb_t 591 (by decide +kernel) (by decide +kernel)
theorem ml_L_108 : Cond.methodLink RL 108 yX8_can ∈ xTB := tb_t 980 (by decide +kernel) (by decide +kernel)
theorem ml_L_109 : Cond.methodLink RL 109 yX7_next ∈ xTB := tb_t 615 (by decide +kernel) (by decide +kernel)
theorem ml_L_112 : Cond.methodLink RL 112 yX8_next ∈ xTB := tb_t 1000 (by decide +kernel) (by decide +kernel)
theorem ml_L_113 : Cond.methodLink RL 113 yX7_rate ∈ xTB := tb_t 629 (by decide +kernel) (by decide +kernel)
theorem ml_L_116 : Cond.methodLink RL 116 yX8_rate ∈ xTB := tb_t 1012 (by decide +kernel) (by decide +kernel)
theorem ml_L_117 : Cond.methodLink RL 117 yX7_keep ∈ xTB := tb_t 663 (by decide +kernel) (by decide +kernel)
theorem ml_L_120 : Cond.methodLink RL 120 yX8_keep ∈ xTB := tb_t 1022 (by decide +kernel) (by decide +kernel)
theorem ml_L_121 : Cond.methodLink RL 121 yX7_back ∈ xTB := tb_t 667 (by decide +kernel) (by decide +kernel)
theorem ml_L_124 : Cond.methodLink RL 124 yX8_back ∈ xTB := tb_t 1026 (by decide +kernel) (by decide +kernel)
theorem ml_L_125 : Cond.methodLink RL 125 yX7_count ∈ xTB := tb_t 671 (by decide +kernel) (by decide +kernel)
theorem ml_L_128 : Cond.methodLink RL 128 yX8_count ∈ xTB := tb_t 1030 (by decide +kernel) (by decide +kernel)
theorem ml_L_129 : Cond.methodLink RL 129 yX7_trace ∈ xTB := tb_t 675 (by decide +kernel) (by decide +kernel)
theorem ml_L_133 : Cond.methodLink RL 133 yX8_trace ∈ xTB := tb_t 1034 (by decide +kernel) (by decide +kernel)
theorem ml_X0_3 : Cond.methodLink RX0 3 objectInit ∈ xTB := tb_t 113 (by decide +kernel) (by decide +kernel)
theorem ml_X0_31 : Cond.methodLink RX0 31 yJ7_fill_53178 ∈ xTB := tb_t 337 (by decide +kernel) (by decide +kernel)
theorem ml_X0_40 : Cond.methodLink RX0 40 arraycopyName ∈ xTB := tb_t 340 (by decide +kernel) (by decide +kernel)
theorem ml_X0_51 : Cond.methodLink RX0 51 yX0_highestMark ∈ xTB := tb_t 407 (by decide +kernel) (by decide +kernel)
theorem ml_X0_55 : Cond.methodLink RX0 55 yX0_isFull ∈ xTB := tb_t 416 (by decide +kernel) (by decide +kernel)
theorem ml_X0_59 : Cond.methodLink RX0 59 Lib.Math.min.name ∈ xTB := tb_t 427 (by decide +kernel) (by decide +kernel)
theorem ml_X0_64 : Cond.methodLink RX0 64 yX6_leaked ∈ xTB := tb_t 428 (by decide +kernel) (by decide +kernel)
theorem ml_X0_67 : Cond.methodLink RX0 67 yX6_seems ∈ xTB := tb_t 411 (by decide +kernel) (by decide +kernel)
theorem ml_X0_70 : Cond.methodLink RX0 70 yX0_stiffness ∈ xTB := tb_t 412 (by decide +kernel) (by decide +kernel)
theorem ml_X0_77 : Cond.methodLink RX0 77 yX0_eggsAt ∈ xTB := tb_t 420 (by decide +kernel) (by decide +kernel)
theorem ml_X0_80 : Cond.methodLink RX0 80 yJ6_bitCount_0f7a4 ∈ xTB := tb_t 421 (by decide +kernel) (by decide +kernel)
theorem ml_X0_88 : Cond.methodLink RX0 88 Lib.Math.max.name ∈ xTB := tb_t 527 (by decide +kernel) (by decide +kernel)
theorem ml_X0_91 : Cond.methodLink RX0 91 yX0_belongs ∈ xTB := tb_t 385 (by decide +kernel) (by decide +kernel)
theorem ml_X0_97 : Cond.methodLink RX0 97 yX0_isRight ∈ xTB := tb_t 381 (by decide +kernel) (by decide +kernel)
theorem ml_X1_3 : Cond.methodLink RX1 3 objectInit ∈ xTB := tb_t 196 (by decide +kernel) (by decide +kernel)
theorem ml_X1_19 : Cond.methodLink RX1 19 yX0_eggsInTrays ∈ xTB := tb_t 556 (by decide +kernel) (by decide +kernel)
theorem ml_X1_25 : Cond.methodLink RX1 25 yX1_isBox ∈ xTB := tb_t 560 (by decide +kernel) (by decide +kernel)
theorem ml_X1_29 : Cond.methodLink RX1 29 yX0_gramsOf ∈ xTB := tb_t 565 (by decide +kernel) (by decide +kernel)
theorem ml_X1_33 : Cond.methodLink RX1 33 yJ6_bitCount_0f7a4 ∈ xTB := tb_t 564 (by decide +kernel) (by decide +kernel)
theorem ml_X1_38 : Cond.methodLink RX1 38 Lib.Math.max.name ∈ xTB := tb_t 578 (by decide +kernel) (by decide +kernel)
theorem ml_X2_3 : Cond.methodLink RX2 3 objectInit ∈ xTB := tb_t 145 (by decide +kernel) (by decide +kernel)
theorem ml_X2_17 : Cond.methodLink RX2 17 yX0_init ∈ xTB := tb_t 148 (by decide +kernel) (by decide +kernel)
theorem ml_X2_24 : Cond.methodLink RX2 24 yX0_become ∈ xTB := tb_t 398 (by decide +kernel) (by decide +kernel)
theorem ml_X2_31 : Cond.methodLink RX2 31 Lib.Math.min.name ∈ xTB := tb_t 402 (by decide +kernel) (by decide +kernel)
theorem ml_X3_3 : Cond.methodLink RX3 3 objectInit ∈ xTB := tb_t 27 (by decide +kernel) (by decide +kernel)
theorem ml_X3_32 : Cond.methodLink RX3 32 yX3_readToken ∈ xTB := tb_t 290 (by decide +kernel) (by decide +kernel)
theorem ml_X3_38 : Cond.methodLink RX3 38 yX3_readItem ∈ xTB := tb_t 305 (by decide +kernel) (by decide +kernel)
theorem ml_X3_45 : Cond.methodLink RX3 45 yX3_readScale ∈ xTB := tb_t 309 (by decide +kernel) (by decide +kernel)
theorem ml_X3_49 : Cond.methodLink RX3 49 yX3_readEnd ∈ xTB := tb_t 318 (by decide +kernel) (by decide +kernel)
theorem ml_X3_52 : Cond.methodLink RX3 52 yX3_readEgg ∈ xTB := tb_t 322 (by decide +kernel) (by decide +kernel)
theorem ml_X3_55 : Cond.methodLink RX3 55 yX3_readNumber ∈ xTB := tb_t 313 (by decide +kernel) (by decide +kernel)
theorem ml_X3_85 : Cond.methodLink RX3 85 yX3_digitAt ∈ xTB := tb_t 294 (by decide +kernel) (by decide +kernel)
theorem ml_X3_88 : Cond.methodLink RX3 88 yX3_readDigits ∈ xTB := tb_t 298 (by decide +kernel) (by decide +kernel)
theorem ml_X3_91 : Cond.methodLink RX3 91 Lib.Math.min.name ∈ xTB := tb_t 302 (by decide +kernel) (by decide +kernel)
theorem ml_X4_3 : Cond.methodLink RX4 3 objectInit ∈ xTB := tb_t 165 (by decide +kernel) (by decide +kernel)
theorem ml_X4_28 : Cond.methodLink RX4 28 yX0_init ∈ xTB := tb_t 167 (by decide +kernel) (by decide +kernel)
theorem ml_X4_31 : Cond.methodLink RX4 31 yX0_become ∈ xTB := tb_t 480 (by decide +kernel) (by decide +kernel)
theorem ml_X4_35 : Cond.methodLink RX4 35 yX0_howManyAt ∈ xTB := tb_t 481 (by decide +kernel) (by decide +kernel)
theorem ml_X4_46 : Cond.methodLink RX4 46 yX0_rightEggs ∈ xTB := tb_t 482 (by decide +kernel) (by decide +kernel)
theorem ml_X4_50 : Cond.methodLink RX4 50 yJ6_bitCount_0f7a4 ∈ xTB := tb_t 483 (by decide +kernel) (by decide +kernel)
theorem ml_X4_55 : Cond.methodLink RX4 55 yX4_rollOneMore ∈ xTB := tb_t 484 (by decide +kernel) (by decide +kernel)
theorem ml_X4_59 : Cond.methodLink RX4 59 yX4_keepTried ∈ xTB := tb_t 488 (by decide +kernel) (by decide +kernel)
theorem ml_X4_63 : Cond.methodLink RX4 63 yX4_rollEach ∈ xTB := tb_t 493 (by decide +kernel) (by decide +kernel)
theorem ml_X4_74 : Cond.methodLink RX4 74 yX0_roll ∈ xTB := tb_t 497 (by decide +kernel) (by decide +kernel)
theorem ml_X4_77 : Cond.methodLink RX4 77 yX0_isRight ∈ xTB := tb_t 498 (by decide +kernel) (by decide +kernel)
theorem ml_X4_84 : Cond.methodLink RX4 84 yX4_placeOneMore ∈ xTB := tb_t 507 (by decide +kernel) (by decide +kernel)
theorem ml_X4_87 : Cond.methodLink RX4 87 yX4_tryRow ∈ xTB := tb_t 511 (by decide +kernel) (by decide +kernel)
theorem ml_X4_90 : Cond.methodLink RX4 90 yX4_placeEach ∈ xTB := tb_t 515 (by decide +kernel) (by decide +kernel)
theorem ml_X4_96 : Cond.methodLink RX4 96 arraycopyName ∈ xTB := tb_t 492 (by decide +kernel) (by decide +kernel)
theorem ml_X5_3 : Cond.methodLink RX5 3 objectInit ∈ xTB := tb_t 209 (by decide +kernel) (by decide +kernel)
theorem ml_X5_38 : Cond.methodLink RX5 38 yX5_addIfSo ∈ xTB := tb_t 599 (by decide +kernel) (by decide +kernel)
theorem ml_X5_47 : Cond.methodLink RX5 47 yX5_fallsFrom ∈ xTB := tb_t 603 (by decide +kernel) (by decide +kernel)
theorem ml_X5_54 : Cond.methodLink RX5 54 yX5_greatestPart ∈ xTB := tb_t 623 (by decide +kernel) (by decide +kernel)
theorem ml_X5_58 : Cond.methodLink RX5 58 yJ7_fill_53178 ∈ xTB := tb_t 627 (by decide +kernel) (by decide +kernel)
theorem ml_X5_64 : Cond.methodLink RX5 64 Lib.Math.max.name ∈ xTB := tb_t 628 (by decide +kernel) (by decide +kernel)
theorem ml_X6_3 : Cond.methodLink RX6 3 objectInit ∈ xTB := tb_t 33 (by decide +kernel) (by decide +kernel)
theorem ml_X6_34 : Cond.methodLink RX6 34 arraycopyName ∈ xTB := tb_t 330 (by decide +kernel) (by decide +kernel)
theorem ml_X6_40 : Cond.methodLink RX6 40 Lib.Math.max.name ∈ xTB := tb_t 432 (by decide +kernel) (by decide +kernel)
theorem ml_X7_1 : Cond.methodLink RX7 1 objectInit ∈ xTB := tb_t 19 (by decide +kernel) (by decide +kernel)
theorem ml_X7_25 : Cond.methodLink RX7 25 yX0_init ∈ xTB := tb_t 110 (by decide +kernel) (by decide +kernel)
theorem ml_X7_37 : Cond.methodLink RX7 37 yX2_init ∈ xTB := tb_t 142 (by decide +kernel) (by decide +kernel)
theorem ml_X7_52 : Cond.methodLink RX7 52 yX4_init ∈ xTB := tb_t 162 (by decide +kernel) (by decide +kernel)
theorem ml_X7_59 : Cond.methodLink RX7 59 yX1_init ∈ xTB := tb_t 193 (by decide +kernel) (by decide +kernel)
theorem ml_X7_68 : Cond.methodLink RX7 68 yX5_init ∈ xTB := tb_t 206 (by decide +kernel) (by decide +kernel)
theorem ml_X7_73 : Cond.methodLink RX7 73 yX7_beyond ∈ xTB := tb_t 275 (by decide +kernel) (by decide +kernel)
theorem ml_X7_85 : Cond.methodLink RX7 85 yX3_readItems ∈ xTB := tb_t 286 (by decide +kernel) (by decide +kernel)
theorem ml_X7_92 : Cond.methodLink RX7 92 yX6_become ∈ xTB := tb_t 326 (by decide +kernel) (by decide +kernel)
theorem ml_X7_95 : Cond.methodLink RX7 95 yX0_begin ∈ xTB := tb_t 333 (by decide +kernel) (by decide +kernel)
theorem ml_X7_104 : Cond.methodLink RX7 104 yX7_noScale ∈ xTB := tb_t 345 (by decide +kernel) (by decide +kernel)
theorem ml_X7_121 : Cond.methodLink RX7 121 yX0_placeOf ∈ xTB := tb_t 349 (by decide +kernel) (by decide +kernel)
theorem ml_X7_125 : Cond.methodLink RX7 125 yX0_eggsAt ∈ xTB := tb_t 353 (by decide +kernel) (by decide +kernel)
theorem ml_X7_128 : Cond.methodLink RX7 128 yX7_noEgg ∈ xTB := tb_t 361 (by decide +kernel) (by decide +kernel)
theorem ml_X7_140 : Cond.methodLink RX7 140 yX6_seems ∈ xTB := tb_t 365 (by decide +kernel) (by decide +kernel)
theorem ml_X7_144 : Cond.methodLink RX7 144 yX0_belongs ∈ xTB := tb_t 369 (by decide +kernel) (by decide +kernel)
theorem ml_X7_147 : Cond.methodLink RX7 147 yX0_rightEggs ∈ xTB := tb_t 377 (by decide +kernel) (by decide +kernel)
theorem ml_X7_150 : Cond.methodLink RX7 150 yX0_allFallen ∈ xTB := tb_t 386 (by decide +kernel) (by decide +kernel)
theorem ml_X7_153 : Cond.methodLink RX7 153 yX2_remember ∈ xTB := tb_t 394 (by decide +kernel) (by decide +kernel)
theorem ml_X7_156 : Cond.methodLink RX7 156 yX0_roll ∈ xTB := tb_t 403 (by decide +kernel) (by decide +kernel)
theorem ml_X7_159 : Cond.methodLink RX7 159 yX0_howManyAt ∈ xTB := tb_t 439 (by decide +kernel) (by decide +kernel)
theorem ml_X7_168 : Cond.methodLink RX7 168 yX2_recall ∈ xTB := tb_t 463 (by decide +kernel) (by decide +kernel)
theorem ml_X7_171 : Cond.methodLink RX7 171 yX0_become ∈ xTB := tb_t 471 (by decide +kernel) (by decide +kernel)
theorem ml_X7_173 : Cond.methodLink RX7 173 yX4_orderEggs ∈ xTB := tb_t 476 (by decide +kernel) (by decide +kernel)
theorem ml_X7_183 : Cond.methodLink RX7 183 yX4_orderScales ∈ xTB := tb_t 503 (by decide +kernel) (by decide +kernel)
theorem ml_X7_186 : Cond.methodLink RX7 186 yX0_leastChange ∈ xTB := tb_t 523 (by decide +kernel) (by decide +kernel)
theorem ml_X7_189 : Cond.methodLink RX7 189 yX0_wholeInNest ∈ xTB := tb_t 532 (by decide +kernel) (by decide +kernel)
theorem ml_X7_192 : Cond.methodLink RX7 192 yX7_power ∈ xTB := tb_t 536 (by decide +kernel) (by decide +kernel)
theorem ml_X7_195 : Cond.methodLink RX7 195 yX7_waysToCrack ∈ xTB := tb_t 539 (by decide +kernel) (by decide +kernel)
theorem ml_X7_199 : Cond.methodLink RX7 199 yX7_greatestCommon ∈ xTB := tb_t 542 (by decide +kernel) (by decide +kernel)
theorem ml_X7_202 : Cond.methodLink RX7 202 yX7_noBox ∈ xTB := tb_t 549 (by decide +kernel) (by decide +kernel)
theorem ml_X7_206 : Cond.methodLink RX7 206 yX1_lightestBox ∈ xTB := tb_t 552 (by decide +kernel) (by decide +kernel)
theorem ml_X7_209 : Cond.methodLink RX7 209 yX0_gramsOf ∈ xTB := tb_t 569 (by decide +kernel) (by decide +kernel)
theorem ml_X7_212 : Cond.methodLink RX7 212 yX1_mostBoxes ∈ xTB := tb_t 574 (by decide +kernel) (by decide +kernel)
theorem ml_X7_215 : Cond.methodLink RX7 215 yX5_add ∈ xTB := tb_t 583 (by decide +kernel) (by decide +kernel)
theorem ml_X7_219 : Cond.methodLink RX7 219 yX5_findWays ∈ xTB := tb_t 595 (by decide +kernel) (by decide +kernel)
theorem ml_X7_225 : Cond.methodLink RX7 225 yX5_scalesOff ∈ xTB := tb_t 607 (by decide +kernel) (by decide +kernel)
theorem ml_X7_228 : Cond.methodLink RX7 228 yX5_noneOff ∈ xTB := tb_t 611 (by decide +kernel) (by decide +kernel)
theorem ml_X7_231 : Cond.methodLink RX7 231 yX5_weightToTry ∈ xTB := tb_t 619 (by decide +kernel) (by decide +kernel)
theorem ml_X7_235 : Cond.methodLink RX7 235 yX7_rateEgg ∈ xTB := tb_t 634 (by decide +kernel) (by decide +kernel)
theorem ml_X7_238 : Cond.methodLink RX7 238 yX7_rateBrown ∈ xTB := tb_t 638 (by decide +kernel) (by decide +kernel)
theorem ml_X7_241 : Cond.methodLink RX7 241 yX7_rateDouble ∈ xTB := tb_t 643 (by decide +kernel) (by decide +kernel)
theorem ml_X7_244 : Cond.methodLink RX7 244 yX7_rateCracked ∈ xTB := tb_t 648 (by decide +kernel) (by decide +kernel)
theorem ml_X7_247 : Cond.methodLink RX7 247 yX7_rateDuck ∈ xTB := tb_t 653 (by decide +kernel) (by decide +kernel)
theorem ml_X7_250 : Cond.methodLink RX7 250 yX7_rateBantam ∈ xTB := tb_t 658 (by decide +kernel) (by decide +kernel)
theorem ml_X8_1 : Cond.methodLink RX8 1 objectInit ∈ xTB := tb_t 684 (by decide +kernel) (by decide +kernel)
theorem ml_X8_66 : Cond.methodLink RX8 66 yX8_in ∈ xTB := tb_t 783 (by decide +kernel) (by decide +kernel)
theorem ml_X8_79 : Cond.methodLink RX8 79 yX8_letterAt ∈ xTB := tb_t 798 (by decide +kernel) (by decide +kernel)
theorem ml_X8_92 : Cond.methodLink RX8 92 yX8_isFigure ∈ xTB := tb_t 802 (by decide +kernel) (by decide +kernel)
theorem ml_X8_100 : Cond.methodLink RX8 100 yX8_reads ∈ xTB := tb_t 794 (by decide +kernel) (by decide +kernel)
theorem ml_X8_109 : Cond.methodLink RX8 109 yX8_takesNumber ∈ xTB := tb_t 809 (by decide +kernel) (by decide +kernel)
theorem ml_X8_116 : Cond.methodLink RX8 116 yX8_readItem ∈ xTB := tb_t 805 (by decide +kernel) (by decide +kernel)
theorem ml_X8_119 : Cond.methodLink RX8 119 yX8_settles ∈ xTB := tb_t 813 (by decide +kernel) (by decide +kernel)
theorem ml_X8_128 : Cond.methodLink RX8 128 yX8_copy ∈ xTB := tb_t 829 (by decide +kernel) (by decide +kernel)
theorem ml_X8_132 : Cond.methodLink RX8 132 yX8_inPlace ∈ xTB := tb_t 836 (by decide +kernel) (by decide +kernel)
theorem ml_X8_135 : Cond.methodLink RX8 135 yX8_bits ∈ xTB := tb_t 888 (by decide +kernel) (by decide +kernel)
theorem ml_X8_138 : Cond.methodLink RX8 138 yX8_seemsAs ∈ xTB := tb_t 848 (by decide +kernel) (by decide +kernel)
theorem ml_X8_141 : Cond.methodLink RX8 141 yX8_stiffOf ∈ xTB := tb_t 880 (by decide +kernel) (by decide +kernel)
theorem ml_X8_144 : Cond.methodLink RX8 144 yX8_isFull ∈ xTB := tb_t 884 (by decide +kernel) (by decide +kernel)
theorem ml_X8_147 : Cond.methodLink RX8 147 yX8_lighter ∈ xTB := tb_t 891 (by decide +kernel) (by decide +kernel)
theorem ml_X8_150 : Cond.methodLink RX8 150 yX8_belongsAs ∈ xTB := tb_t 852 (by decide +kernel) (by decide +kernel)
theorem ml_X8_153 : Cond.methodLink RX8 153 yX8_isScale ∈ xTB := tb_t 821 (by decide +kernel) (by decide +kernel)
theorem ml_X8_156 : Cond.methodLink RX8 156 yX8_asItIs ∈ xTB := tb_t 825 (by decide +kernel) (by decide +kernel)
theorem ml_X8_159 : Cond.methodLink RX8 159 yX8_placeOf ∈ xTB := tb_t 832 (by decide +kernel) (by decide +kernel)
theorem ml_X8_162 : Cond.methodLink RX8 162 yX8_isEgg ∈ xTB := tb_t 844 (by decide +kernel) (by decide +kernel)
theorem ml_X8_165 : Cond.methodLink RX8 165 yX8_right ∈ xTB := tb_t 860 (by decide +kernel) (by decide +kernel)
theorem ml_X8_169 : Cond.methodLink RX8 169 yX8_fellAll ∈ xTB := tb_t 864 (by decide +kernel) (by decide +kernel)
theorem ml_X8_172 : Cond.methodLink RX8 172 yX8_remembers ∈ xTB := tb_t 872 (by decide +kernel) (by decide +kernel)
theorem ml_X8_175 : Cond.methodLink RX8 175 yX8_rolled ∈ xTB := tb_t 876 (by decide +kernel) (by decide +kernel)
theorem ml_X8_178 : Cond.methodLink RX8 178 yX8_has ∈ xTB := tb_t 934 (by decide +kernel) (by decide +kernel)
theorem ml_X8_182 : Cond.methodLink RX8 182 yX8_sixes ∈ xTB := tb_t 927 (by decide +kernel) (by decide +kernel)
theorem ml_X8_185 : Cond.methodLink RX8 185 yX8_isOrder ∈ xTB := tb_t 930 (by decide +kernel) (by decide +kernel)
theorem ml_X8_188 : Cond.methodLink RX8 188 yX8_keepsOrder ∈ xTB := tb_t 937 (by decide +kernel) (by decide +kernel)
theorem ml_X8_191 : Cond.methodLink RX8 191 yX8_rollsAll ∈ xTB := tb_t 945 (by decide +kernel) (by decide +kernel)
theorem ml_X8_194 : Cond.methodLink RX8 194 yX8_lowest ∈ xTB := tb_t 957 (by decide +kernel) (by decide +kernel)
theorem ml_X8_198 : Cond.methodLink RX8 198 yX8_boxed ∈ xTB := tb_t 964 (by decide +kernel) (by decide +kernel)
theorem ml_X8_201 : Cond.methodLink RX8 201 yX8_fallsFrom ∈ xTB := tb_t 992 (by decide +kernel) (by decide +kernel)
theorem ml_X8_204 : Cond.methodLink RX8 204 yX8_isSo ∈ xTB := tb_t 988 (by decide +kernel) (by decide +kernel)
theorem ml_X8_207 : Cond.methodLink RX8 207 yX8_waysOff ∈ xTB := tb_t 996 (by decide +kernel) (by decide +kernel)
theorem ml_X8_210 : Cond.methodLink RX8 210 yX8_allWays ∈ xTB := tb_t 984 (by decide +kernel) (by decide +kernel)
theorem ml_X8_213 : Cond.methodLink RX8 213 yX8_adds ∈ xTB := tb_t 1008 (by decide +kernel) (by decide +kernel)
theorem ml_X8_217 : Cond.methodLink RX8 217 yX8_greatest ∈ xTB := tb_t 1004 (by decide +kernel) (by decide +kernel)
theorem kc_J6_265 : Cond.constant RJ6 265 (1431655765 : Int32) ∈ xTB := tb_t 424 (by decide +kernel) (by decide +kernel)
theorem kc_J6_266 : Cond.constant RJ6 266 (858993459 : Int32) ∈ xTB := tb_t 425 (by decide +kernel) (by decide +kernel)
theorem kc_J6_267 : Cond.constant RJ6 267 (252645135 : Int32) ∈ xTB := tb_t 426 (by decide +kernel) (by decide +kernel)
theorem kc_X7_234 : Cond.constant RX7 234 (-1000000 : Int32) ∈ xTB := tb_t 633 (by decide +kernel) (by decide +kernel)
theorem kc_X7_260 : Cond.constantLong RX7 260 (10 : Int64) ∈ xTB := tb_t 642 (by decide +kernel) (by decide +kernel)
theorem kc_X7_262 : Cond.constantLong RX7 262 (100 : Int64) ∈ xTB := tb_t 647 (by decide +kernel) (by decide +kernel)
theorem kc_X7_264 : Cond.constantLong RX7 264 (1000 : Int64) ∈ xTB := tb_t 652 (by decide +kernel) (by decide +kernel)
theorem kc_X7_266 : Cond.constantLong RX7 266 (10000 : Int64) ∈ xTB := tb_t 657 (by decide +kernel) (by decide +kernel)
theorem kc_X7_268 : Cond.constantLong RX7 268 (100000 : Int64) ∈ xTB := tb_t 662 (by decide +kernel) (by decide +kernel)
theorem kc_X8_220 : Cond.constant RX8 220 (-1000000 : Int32) ∈ xTB := tb_t 1016 (by decide +kernel) (by decide +kernel)
theorem kc_X8_225 : Cond.constantLong RX8 225 (11 : Int64) ∈ xTB := tb_t 1017 (by decide +kernel) (by decide +kernel)
theorem kc_X8_227 : Cond.constantLong RX8 227 (101 : Int64) ∈ xTB := tb_t 1018 (by decide +kernel) (by decide +kernel)
theorem kc_X8_229 : Cond.constantLong RX8 229 (1011 : Int64) ∈ xTB := tb_t 1019 (by decide +kernel) (by decide +kernel)
theorem kc_X8_231 : Cond.constantLong RX8 231 (10101 : Int64) ∈ xTB := tb_t 1020 (by decide +kernel) (by decide +kernel)
theorem kc_X8_233 : Cond.constantLong RX8 233 (100001 : Int64) ∈ xTB := tb_t 1021 (by decide +kernel) (by decide +kernel)
theorem ys_J6_bitCount_0f7a4 : xYS yJ6_bitCount_0f7a4 cJ6_bitCount_0f7a4 1 (some .int) 1 := ⟨tb_t 422 (by decide +kernel) (by decide +kernel), tb_t 13 (by decide +kernel) (by decide +kernel), tb_t 423 (by decide +kernel) (by decide +kernel), ⟨by decide +kernel, by decide +kernel, by decide +kernel⟩⟩
theorem ys_J7_fill_53178 : xYS yJ7_fill_53178 cJ7_fill_53178 4 none 2 := ⟨tb_t 338 (by decide +kernel) (by decide +kernel), tb_t 12 (by decide +kernel) (by decide +kernel), tb_t 339 (by decide +kernel) (by decide +kernel), ⟨by decide +kernel, by decide +kernel, by decide +kernel⟩⟩
theorem yv_X0_allFallen : xYV yX0_allFallen cX0_allFallen 3 (some .int) 0 := ⟨tb_t 387 (by decide +kernel) (by decide +kernel), tb_t 388 (by decide +kernel) (by decide +kernel), tb_t 4 (by decide +kernel) (by decide +kernel), tb_t 389 (by decide +kernel) (by decide +kernel), ⟨by decide +kernel, by decide +kernel, by decide +kernel⟩⟩
theorem yv_X0_become : xYV yX0_become cX0_become 2 none 1 := ⟨tb_t 399 (by decide +kernel) (by decide +kernel), tb_t 400 (by decide +kernel) (by decide +kernel), tb_t 4 (by decide +kernel) (by decide +kernel), tb_t 401 (by decide +kernel) (by decide +kernel), ⟨by decide +kernel, by decide +kernel, by decide +kernel⟩⟩
theorem yv_X0_begin : xYV yX0_begin cX0_begin 2 none 0 := ⟨tb_t 334 (by decide +kernel) (by decide +kernel), tb_t 335 (by decide +kernel) (by decide +kernel), tb_t 4 (by decide +kernel) (by decide +kernel), tb_t 336 (by decide +kernel) (by decide +kernel), ⟨by decide +kernel, by decide +kernel, by decide +kernel⟩⟩
theorem yv_X0_belongs : xYV yX0_belongs cX0_belongs 4 (some .int) 1 := ⟨tb_t 370 (by decide +kernel) (by decide +kernel), tb_t 371 (by decide +kernel) (by decide +kernel), tb_t 4 (by decide +kernel) (by decide +kernel), tb_t 372 (by decide +kernel) (by decide +kernel), ⟨by decide +kernel, by decide +kernel, by decide +kernel⟩⟩
theorem yv_X0_eggsAt : xYV yX0_eggsAt cX0_eggsAt 4 (some .int) 1 := ⟨tb_t 354 (by decide +kernel) (by decide +kernel), tb_t 355 (by decide +kernel) (by decide +kernel), tb_t 4 (by decide +kernel) (by decide +kernel), tb_t 356 (by decide +kernel) (by decide +kernel), ⟨by decide +kernel, by decide +kernel, by decide +kernel⟩⟩
theorem yv_X0_eggsInTrays : xYV yX0_eggsInTrays cX0_eggsInTrays 3 (some .int) 0 := ⟨tb_t 557 (by decide +kernel) (by decide +kernel), tb_t 558 (by decide +kernel) (by decide +kernel), tb_t 4 (by decide +kernel) (by decide +kernel), tb_t 559 (by decide +kernel) (by decide +kernel), ⟨by decide +kernel, by decide +kernel, by decide +kernel⟩⟩
theorem yv_X0_gramsOf : xYV yX0_gramsOf cX0_gramsOf 4 (some .int) 1 := ⟨tb_t 566 (by decide +kernel) (by decide +kernel), tb_t 567 (by decide +kernel) (by decide +kernel), tb_t 4 (by decide +kernel) (by decide +kernel), tb_t 568 (by decide +kernel) (by decide +kernel), ⟨by decide +kernel, by decide +kernel, by decide +kernel⟩⟩
theorem yv_X0_highestMark : xYV yX0_highestMark cX0_highestMark 3 (some .int) 2 := ⟨tb_t 409 (by decide +kernel) (by decide +kernel), tb_p 10 (by decide +kernel) (by decide +kernel), tb_t 4 (by decide +kernel) (by decide +kernel), tb_t 410 (by decide +kernel) (by decide +kernel), ⟨by decide +kernel, by decide +kernel, by decide +kernel⟩⟩
theorem yv_X0_howManyAt : xYV yX0_howManyAt cX0_howManyAt 2 (some .int) 1 := ⟨tb_t 440 (by decide +kernel) (by decide +kernel), tb_t 441 (by decide +kernel) (by decide +kernel), tb_t 4 (by decide +kernel) (by decide +kernel), tb_t 442 (by decide +kernel) (by decide +kernel), ⟨by decide +kernel, by decide +kernel, by decide +kernel⟩⟩
theorem yv_X0_isFull : xYV yX0_isFull cX0_isFull 2 (some .boolean) 1 := ⟨tb_t 418 (by decide +kernel) (by decide +kernel), tb_p 12 (by decide +kernel) (by decide +kernel), tb_t 4 (by decide +kernel) (by decide +kernel), tb_t 419 (by decide +kernel) (by decide +kernel), ⟨by decide +kernel, by decide +kernel, by decide +kernel⟩⟩
theorem yv_X0_isRight : xYV yX0_isRight cX0_isRight 3 (some .boolean) 1 := ⟨tb_t 382 (by decide +kernel) (by decide +kernel), tb_t 383 (by decide +kernel) (by decide +kernel), tb_t 4 (by decide +kernel) (by decide +kernel), tb_t 384 (by decide +kernel) (by decide +kernel), ⟨by decide +kernel, by decide +kernel, by decide +kernel⟩⟩
theorem yv_X0_leastChange : xYV yX0_leastChange cX0_leastChange 9 (some .int) 2 := ⟨tb_t 524 (by decide +kernel) (by decide +kernel), tb_t 525 (by decide +kernel) (by decide +kernel), tb_t 4 (by decide +kernel) (by decide +kernel), tb_t 526 (by decide +kernel) (by decide +kernel), ⟨by decide +kernel, by decide +kernel, by decide +kernel⟩⟩
theorem yv_X0_placeOf : xYV yX0_placeOf cX0_placeOf 3 (some .int) 1 := ⟨tb_t 350 (by decide +kernel) (by decide +kernel), tb_t 351 (by decide +kernel) (by decide +kernel), tb_t 4 (by decide +kernel) (by decide +kernel), tb_t 352 (by decide +kernel) (by decide +kernel), ⟨by decide +kernel, by decide +kernel, by decide +kernel⟩⟩
theorem yv_X0_rightEggs : xYV yX0_rightEggs cX0_rightEggs 3 (some .int) 0 := ⟨tb_t 378 (by decide +kernel) (by decide +kernel), tb_t 379 (by decide +kernel) (by decide +kernel), tb_t 4 (by decide +kernel) (by decide +kernel), tb_t 380 (by decide +kernel) (by decide +kernel), ⟨by decide +kernel, by decide +kernel, by decide +kernel⟩⟩
theorem yv_X0_roll : xYV yX0_roll cX0_roll 4 (some .int) 1 := ⟨tb_t 404 (by decide +kernel) (by decide +kernel), tb_t 405 (by decide +kernel) (by decide +kernel), tb_t 4 (by decide +kernel) (by decide +kernel), tb_t 406 (by decide +kernel) (by decide +kernel), ⟨by decide +kernel, by decide +kernel, by decide +kernel⟩⟩
theorem yv_X0_stiffness : xYV yX0_stiffness cX0_stiffness 2 (some .int) 1 := ⟨tb_t 414 (by decide +kernel) (by decide +kernel), tb_p 11 (by decide +kernel) (by decide +kernel), tb_t 4 (by decide +kernel) (by decide +kernel), tb_t 415 (by decide +kernel) (by decide +kernel), ⟨by decide +kernel, by decide +kernel, by decide +kernel⟩⟩
theorem yv_X0_wholeInNest : xYV yX0_wholeInNest cX0_wholeInNest 3 (some .int) 0 := ⟨tb_t 533 (by decide +kernel) (by decide +kernel), tb_t 534 (by decide +kernel) (by decide +kernel), tb_t 4 (by decide +kernel) (by decide +kernel), tb_t 535 (by decide +kernel) (by decide +kernel), ⟨by decide +kernel, by decide +kernel, by decide +kernel⟩⟩
theorem yv_X1_isBox : xYV yX1_isBox cX1_isBox 5 (some .boolean) 4 := ⟨tb_t 562 (by decide +kernel) (by decide +kernel), tb_p 19 (by decide +kernel) (by decide +kernel), tb_t 7 (by decide +kernel) (by decide +kernel), tb_t 563 (by decide +kernel) (by decide +kernel), ⟨by decide +kernel, by decide +kernel, by decide +kernel⟩⟩
theorem yv_X1_lightestBox : xYV yX1_lightestBox cX1_lightestBox 8 (some .int) 2 := ⟨tb_t 553 (by decide +kernel) (by decide +kernel), tb_t 554 (by decide +kernel) (by decide +kernel), tb_t 7 (by decide +kernel) (by decide +kernel), tb_t 555 (by decide +kernel) (by decide +kernel), ⟨by decide +kernel, by decide +kernel, by decide +kernel⟩⟩
theorem yv_X1_mostBoxes : xYV yX1_mostBoxes cX1_mostBoxes 6 (some .int) 2 := ⟨tb_t 575 (by decide +kernel) (by decide +kernel), tb_t 576 (by decide +kernel) (by decide +kernel), tb_t 7 (by decide +kernel) (by decide +kernel), tb_t 577 (by decide +kernel) (by decide +kernel), ⟨by decide +kernel, by decide +kernel, by decide +kernel⟩⟩
theorem yv_X2_recall : xYV yX2_recall cX2_recall 2 none 1 := ⟨tb_t 464 (by decide +kernel) (by decide +kernel), tb_t 465 (by decide +kernel) (by decide +kernel), tb_t 5 (by decide +kernel) (by decide +kernel), tb_t 466 (by decide +kernel) (by decide +kernel), ⟨by decide +kernel, by decide +kernel, by decide +kernel⟩⟩
theorem yv_X2_remember : xYV yX2_remember cX2_remember 2 none 1 := ⟨tb_t 395 (by decide +kernel) (by decide +kernel), tb_t 396 (by decide +kernel) (by decide +kernel), tb_t 5 (by decide +kernel) (by decide +kernel), tb_t 397 (by decide +kernel) (by decide +kernel), ⟨by decide +kernel, by decide +kernel, by decide +kernel⟩⟩
theorem yv_X3_digitAt : xYV yX3_digitAt cX3_digitAt 2 (some .boolean) 1 := ⟨tb_t 296 (by decide +kernel) (by decide +kernel), tb_p 1 (by decide +kernel) (by decide +kernel), tb_t 2 (by decide +kernel) (by decide +kernel), tb_t 297 (by decide +kernel) (by decide +kernel), ⟨by decide +kernel, by decide +kernel, by decide +kernel⟩⟩
theorem yv_X3_readDigits : xYV yX3_readDigits cX3_readDigits 2 none 0 := ⟨tb_t 300 (by decide +kernel) (by decide +kernel), tb_p 2 (by decide +kernel) (by decide +kernel), tb_t 2 (by decide +kernel) (by decide +kernel), tb_t 301 (by decide +kernel) (by decide +kernel), ⟨by decide +kernel, by decide +kernel, by decide +kernel⟩⟩
theorem yv_X3_readEgg : xYV yX3_readEgg cX3_readEgg 2 (some .boolean) 1 := ⟨tb_t 324 (by decide +kernel) (by decide +kernel), tb_p 7 (by decide +kernel) (by decide +kernel), tb_t 2 (by decide +kernel) (by decide +kernel), tb_t 325 (by decide +kernel) (by decide +kernel), ⟨by decide +kernel, by decide +kernel, by decide +kernel⟩⟩
theorem yv_X3_readEnd : xYV yX3_readEnd cX3_readEnd 1 (some .boolean) 0 := ⟨tb_t 320 (by decide +kernel) (by decide +kernel), tb_p 6 (by decide +kernel) (by decide +kernel), tb_t 2 (by decide +kernel) (by decide +kernel), tb_t 321 (by decide +kernel) (by decide +kernel), ⟨by decide +kernel, by decide +kernel, by decide +kernel⟩⟩
theorem yv_X3_readItem : xYV yX3_readItem cX3_readItem 1 (some .boolean) 0 := ⟨tb_t 307 (by decide +kernel) (by decide +kernel), tb_p 3 (by decide +kernel) (by decide +kernel), tb_t 2 (by decide +kernel) (by decide +kernel), tb_t 308 (by decide +kernel) (by decide +kernel), ⟨by decide +kernel, by decide +kernel, by decide +kernel⟩⟩
theorem yv_X3_readItems : xYV yX3_readItems cX3_readItems 2 (some .int) 0 := ⟨tb_t 287 (by decide +kernel) (by decide +kernel), tb_t 288 (by decide +kernel) (by decide +kernel), tb_t 2 (by decide +kernel) (by decide +kernel), tb_t 289 (by decide +kernel) (by decide +kernel), ⟨by decide +kernel, by decide +kernel, by decide +kernel⟩⟩
theorem yv_X3_readNumber : xYV yX3_readNumber cX3_readNumber 3 (some .boolean) 2 := ⟨tb_t 315 (by decide +kernel) (by decide +kernel), tb_p 5 (by decide +kernel) (by decide +kernel), tb_t 2 (by decide +kernel) (by decide +kernel), tb_t 316 (by decide +kernel) (by decide +kernel), ⟨by decide +kernel, by decide +kernel, by decide +kernel⟩⟩
theorem yv_X3_readScale : xYV yX3_readScale cX3_readScale 2 (some .boolean) 1 := ⟨tb_t 311 (by decide +kernel) (by decide +kernel), tb_p 4 (by decide +kernel) (by decide +kernel), tb_t 2 (by decide +kernel) (by decide +kernel), tb_t 312 (by decide +kernel) (by decide +kernel), ⟨by decide +kernel, by decide +kernel, by decide +kernel⟩⟩
theorem yv_X3_readToken : xYV yX3_readToken cX3_readToken 2 none 0 := ⟨tb_t 292 (by decide +kernel) (by decide +kernel), tb_p 0 (by decide +kernel) (by decide +kernel), tb_t 2 (by decide +kernel) (by decide +kernel), tb_t 293 (by decide +kernel) (by decide +kernel), ⟨by decide +kernel, by decide +kernel, by decide +kernel⟩⟩
theorem yv_X4_keepTried : xYV yX4_keepTried cX4_keepTried 2 none 1 := ⟨tb_t 490 (by decide +kernel) (by decide +kernel), tb_p 14 (by decide +kernel) (by decide +kernel), tb_t 6 (by decide +kernel) (by decide +kernel), tb_t 491 (by decide +kernel) (by decide +kernel), ⟨by decide +kernel, by decide +kernel, by decide +kernel⟩⟩
theorem yv_X4_orderEggs : xYV yX4_orderEggs cX4_orderEggs 2 none 1 := ⟨tb_t 477 (by decide +kernel) (by decide +kernel), tb_t 478 (by decide +kernel) (by decide +kernel), tb_t 6 (by decide +kernel) (by decide +kernel), tb_t 479 (by decide +kernel) (by decide +kernel), ⟨by decide +kernel, by decide +kernel, by decide +kernel⟩⟩
theorem yv_X4_orderScales : xYV yX4_orderScales cX4_orderScales 2 none 1 := ⟨tb_t 504 (by decide +kernel) (by decide +kernel), tb_t 505 (by decide +kernel) (by decide +kernel), tb_t 6 (by decide +kernel) (by decide +kernel), tb_t 506 (by decide +kernel) (by decide +kernel), ⟨by decide +kernel, by decide +kernel, by decide +kernel⟩⟩
theorem yv_X4_placeEach : xYV yX4_placeEach cX4_placeEach 4 none 2 := ⟨tb_t 517 (by decide +kernel) (by decide +kernel), tb_p 18 (by decide +kernel) (by decide +kernel), tb_t 6 (by decide +kernel) (by decide +kernel), tb_t 518 (by decide +kernel) (by decide +kernel), ⟨by decide +kernel, by decide +kernel, by decide +kernel⟩⟩
theorem yv_X4_placeOneMore : xYV yX4_placeOneMore cX4_placeOneMore 3 none 2 := ⟨tb_t 509 (by decide +kernel) (by decide +kernel), tb_p 16 (by decide +kernel) (by decide +kernel), tb_t 6 (by decide +kernel) (by decide +kernel), tb_t 510 (by decide +kernel) (by decide +kernel), ⟨by decide +kernel, by decide +kernel, by decide +kernel⟩⟩
theorem yv_X4_rollEach : xYV yX4_rollEach cX4_rollEach 6 none 2 := ⟨tb_t 495 (by decide +kernel) (by decide +kernel), tb_p 15 (by decide +kernel) (by decide +kernel), tb_t 6 (by decide +kernel) (by decide +kernel), tb_t 496 (by decide +kernel) (by decide +kernel), ⟨by decide +kernel, by decide +kernel, by decide +kernel⟩⟩
theorem yv_X4_rollOneMore : xYV yX4_rollOneMore cX4_rollOneMore 3 none 2 := ⟨tb_t 486 (by decide +kernel) (by decide +kernel), tb_p 13 (by decide +kernel) (by decide +kernel), tb_t 6 (by decide +kernel) (by decide +kernel), tb_t 487 (by decide +kernel) (by decide +kernel), ⟨by decide +kernel, by decide +kernel, by decide +kernel⟩⟩
theorem yv_X4_tryRow : xYV yX4_tryRow cX4_tryRow 3 none 0 := ⟨tb_t 513 (by decide +kernel) (by decide +kernel), tb_p 17 (by decide +kernel) (by decide +kernel), tb_t 6 (by decide +kernel) (by decide +kernel), tb_t 514 (by decide +kernel) (by decide +kernel), ⟨by decide +kernel, by decide +kernel, by decide +kernel⟩⟩
theorem yv_X5_add : xYV yX5_add cX5_add 3 none 2 := ⟨tb_t 584 (by decide +kernel) (by decide +kernel), tb_t 585 (by decide +kernel) (by decide +kernel), tb_t 8 (by decide +kernel) (by decide +kernel), tb_t 586 (by decide +kernel) (by decide +kernel), ⟨by decide +kernel, by decide +kernel, by decide +kernel⟩⟩
theorem yv_X5_addIfSo : xYV yX5_addIfSo cX5_addIfSo 4 none 2 := ⟨tb_t 601 (by decide +kernel) (by decide +kernel), tb_p 20 (by decide +kernel) (by decide +kernel), tb_t 8 (by decide +kernel) (by decide +kernel), tb_t 602 (by decide +kernel) (by decide +kernel), ⟨by decide +kernel, by decide +kernel, by decide +kernel⟩⟩
theorem yv_X5_fallsFrom : xYV yX5_fallsFrom cX5_fallsFrom 6 (some .int) 3 := ⟨tb_t 605 (by decide +kernel) (by decide +kernel), tb_p 21 (by decide +kernel) (by decide +kernel), tb_t 8 (by decide +kernel) (by decide +kernel), tb_t 606 (by decide +kernel) (by decide +kernel), ⟨by decide +kernel, by decide +kernel, by decide +kernel⟩⟩
theorem yv_X5_findWays : xYV yX5_findWays cX5_findWays 3 none 0 := ⟨tb_t 596 (by decide +kernel) (by decide +kernel), tb_t 597 (by decide +kernel) (by decide +kernel), tb_t 8 (by decide +kernel) (by decide +kernel), tb_t 598 (by decide +kernel) (by decide +kernel), ⟨by decide +kernel, by decide +kernel, by decide +kernel⟩⟩
theorem yv_X5_greatestPart : xYV yX5_greatestPart cX5_greatestPart 6 (some .int) 1 := ⟨tb_t 625 (by decide +kernel) (by decide +kernel), tb_p 22 (by decide +kernel) (by decide +kernel), tb_t 8 (by decide +kernel) (by decide +kernel), tb_t 626 (by decide +kernel) (by decide +kernel), ⟨by decide +kernel, by decide +kernel, by decide +kernel⟩⟩
theorem yv_X5_noneOff : xYV yX5_noneOff cX5_noneOff 1 (some .int) 0 := ⟨tb_t 612 (by decide +kernel) (by decide +kernel), tb_t 613 (by decide +kernel) (by decide +kernel), tb_t 8 (by decide +kernel) (by decide +kernel), tb_t 614 (by decide +kernel) (by decide +kernel), ⟨by decide +kernel, by decide +kernel, by decide +kernel⟩⟩
theorem yv_X5_scalesOff : xYV yX5_scalesOff cX5_scalesOff 3 (some .int) 0 := ⟨tb_t 608 (by decide +kernel) (by decide +kernel), tb_t 609 (by decide +kernel) (by decide +kernel), tb_t 8 (by decide +kernel) (by decide +kernel), tb_t 610 (by decide +kernel) (by decide +kernel), ⟨by decide +kernel, by decide +kernel, by decide +kernel⟩⟩
theorem yv_X5_weightToTry : xYV yX5_weightToTry cX5_weightToTry 5 (some .int) 0 := ⟨tb_t 620 (by decide +kernel) (by decide +kernel), tb_t 621 (by decide +kernel) (by decide +kernel), tb_t 8 (by decide +kernel) (by decide +kernel), tb_t 622 (by decide +kernel) (by decide +kernel), ⟨by decide +kernel, by decide +kernel, by decide +kernel⟩⟩
theorem yv_X6_become : xYV yX6_become cX6_become 2 none 1 := ⟨tb_t 327 (by decide +kernel) (by decide +kernel), tb_t 328 (by decide +kernel) (by decide +kernel), tb_t 3 (by decide +kernel) (by decide +kernel), tb_t 329 (by decide +kernel) (by decide +kernel), ⟨by decide +kernel, by decide +kernel, by decide +kernel⟩⟩
theorem yv_X6_leaked : xYV yX6_leaked cX6_leaked 3 (some .int) 2 := ⟨tb_t 429 (by decide +kernel) (by decide +kernel), tb_t 430 (by decide +kernel) (by decide +kernel), tb_t 3 (by decide +kernel) (by decide +kernel), tb_t 431 (by decide +kernel) (by decide +kernel), ⟨by decide +kernel, by decide +kernel, by decide +kernel⟩⟩
theorem yv_X6_seems : xYV yX6_seems cX6_seems 3 (some .int) 2 := ⟨tb_t 366 (by decide +kernel) (by decide +kernel), tb_t 367 (by decide +kernel) (by decide +kernel), tb_t 3 (by decide +kernel) (by decide +kernel), tb_t 368 (by decide +kernel) (by decide +kernel), ⟨by decide +kernel, by decide +kernel, by decide +kernel⟩⟩
theorem yv_X7_back : xYV yX7_back cX7_back 2 (some .int) 1 := ⟨tb_t 668 (by decide +kernel) (by decide +kernel), tb_t 669 (by decide +kernel) (by decide +kernel), tb_t 1 (by decide +kernel) (by decide +kernel), tb_t 670 (by decide +kernel) (by decide +kernel), ⟨by decide +kernel, by decide +kernel, by decide +kernel⟩⟩
theorem yv_X7_barn : xYV yX7_barn cX7_barn 3 (some .int) 0 := ⟨tb_t 283 (by decide +kernel) (by decide +kernel), tb_t 284 (by decide +kernel) (by decide +kernel), tb_t 1 (by decide +kernel) (by decide +kernel), tb_t 285 (by decide +kernel) (by decide +kernel), ⟨by decide +kernel, by decide +kernel, by decide +kernel⟩⟩
theorem ys_X7_beyond : xYS yX7_beyond cX7_beyond 3 (some .boolean) 3 := ⟨tb_t 276 (by decide +kernel) (by decide +kernel), tb_t 1 (by decide +kernel) (by decide +kernel), tb_t 277 (by decide +kernel) (by decide +kernel), ⟨by decide +kernel, by decide +kernel, by decide +kernel⟩⟩
theorem yv_X7_box : xYV yX7_box cX7_box 5 (some .int) 3 := ⟨tb_t 546 (by decide +kernel) (by decide +kernel), tb_t 547 (by decide +kernel) (by decide +kernel), tb_t 1 (by decide +kernel) (by decide +kernel), tb_t 548 (by decide +kernel) (by decide +kernel), ⟨by decide +kernel, by decide +kernel, by decide +kernel⟩⟩
theorem yv_X7_boxes : xYV yX7_boxes cX7_boxes 3 (some .int) 2 := ⟨tb_t 571 (by decide +kernel) (by decide +kernel), tb_t 572 (by decide +kernel) (by decide +kernel), tb_t 1 (by decide +kernel) (by decide +kernel), tb_t 573 (by decide +kernel) (by decide +kernel), ⟨by decide +kernel, by decide +kernel, by decide +kernel⟩⟩
theorem yv_X7_can : xYV yX7_can cX7_can 2 (some .int) 1 := ⟨tb_t 592 (by decide +kernel) (by decide +kernel), tb_t 593 (by decide +kernel) (by decide +kernel), tb_t 1 (by decide +kernel) (by decide +kernel), tb_t 594 (by decide +kernel) (by decide +kernel), ⟨by decide +kernel, by decide +kernel, by decide +kernel⟩⟩
theorem yv_X7_clear : xYV yX7_clear cX7_clear 2 (some .int) 0 := ⟨tb_t 279 (by decide +kernel) (by decide +kernel), tb_t 280 (by decide +kernel) (by decide +kernel), tb_t 1 (by decide +kernel) (by decide +kernel), tb_t 281 (by decide +kernel) (by decide +kernel), ⟨by decide +kernel, by decide +kernel, by decide +kernel⟩⟩
theorem yv_X7_count : xYV yX7_count cX7_count 2 (some .int) 1 := ⟨tb_t 672 (by decide +kernel) (by decide +kernel), tb_t 673 (by decide +kernel) (by decide +kernel), tb_t 1 (by decide +kernel) (by decide +kernel), tb_t 674 (by decide +kernel) (by decide +kernel), ⟨by decide +kernel, by decide +kernel, by decide +kernel⟩⟩
theorem yv_X7_cracks : xYV yX7_cracks cX7_cracks 8 (some .int) 3 := ⟨tb_t 529 (by decide +kernel) (by decide +kernel), tb_t 530 (by decide +kernel) (by decide +kernel), tb_t 1 (by decide +kernel) (by decide +kernel), tb_t 531 (by decide +kernel) (by decide +kernel), ⟨by decide +kernel, by decide +kernel, by decide +kernel⟩⟩
theorem yv_X7_drops : xYV yX7_drops cX7_drops 3 (some .int) 1 := ⟨tb_t 456 (by decide +kernel) (by decide +kernel), tb_t 457 (by decide +kernel) (by decide +kernel), tb_t 1 (by decide +kernel) (by decide +kernel), tb_t 458 (by decide +kernel) (by decide +kernel), ⟨by decide +kernel, by decide +kernel, by decide +kernel⟩⟩
theorem yv_X7_egg : xYV yX7_egg cX7_egg 3 (some .int) 2 := ⟨tb_t 358 (by decide +kernel) (by decide +kernel), tb_t 359 (by decide +kernel) (by decide +kernel), tb_t 1 (by decide +kernel) (by decide +kernel), tb_t 360 (by decide +kernel) (by decide +kernel), ⟨by decide +kernel, by decide +kernel, by decide +kernel⟩⟩
theorem yv_X7_forget : xYV yX7_forget cX7_forget 2 (some .int) 0 := ⟨tb_t 588 (by decide +kernel) (by decide +kernel), tb_t 589 (by decide +kernel) (by decide +kernel), tb_t 1 (by decide +kernel) (by decide +kernel), tb_t 590 (by decide +kernel) (by decide +kernel), ⟨by decide +kernel, by decide +kernel, by decide +kernel⟩⟩
theorem yv_X7_goes : xYV yX7_goes cX7_goes 2 (some .int) 1 := ⟨tb_t 468 (by decide +kernel) (by decide +kernel), tb_t 469 (by decide +kernel) (by decide +kernel), tb_t 1 (by decide +kernel) (by decide +kernel), tb_t 470 (by decide +kernel) (by decide +kernel), ⟨by decide +kernel, by decide +kernel, by decide +kernel⟩⟩
theorem ys_X7_greatestCommon : xYS yX7_greatestCommon cX7_greatestCommon 6 (some .int) 2 := ⟨tb_t 543 (by decide +kernel) (by decide +kernel), tb_t 1 (by decide +kernel) (by decide +kernel), tb_t 544 (by decide +kernel) (by decide +kernel), ⟨by decide +kernel, by decide +kernel, by decide +kernel⟩⟩
theorem yv_X7_keep : xYV yX7_keep cX7_keep 2 (some .int) 1 := ⟨tb_t 664 (by decide +kernel) (by decide +kernel), tb_t 665 (by decide +kernel) (by decide +kernel), tb_t 1 (by decide +kernel) (by decide +kernel), tb_t 666 (by decide +kernel) (by decide +kernel), ⟨by decide +kernel, by decide +kernel, by decide +kernel⟩⟩
theorem yv_X7_next : xYV yX7_next cX7_next 1 (some .int) 0 := ⟨tb_t 616 (by decide +kernel) (by decide +kernel), tb_t 617 (by decide +kernel) (by decide +kernel), tb_t 1 (by decide +kernel) (by decide +kernel), tb_t 618 (by decide +kernel) (by decide +kernel), ⟨by decide +kernel, by decide +kernel, by decide +kernel⟩⟩
theorem ys_X7_noBox : xYS yX7_noBox cX7_noBox 2 (some .boolean) 2 := ⟨tb_t 550 (by decide +kernel) (by decide +kernel), tb_t 1 (by decide +kernel) (by decide +kernel), tb_t 551 (by decide +kernel) (by decide +kernel), ⟨by decide +kernel, by decide +kernel, by decide +kernel⟩⟩
theorem yv_X7_noEgg : xYV yX7_noEgg cX7_noEgg 2 (some .boolean) 1 := ⟨tb_t 363 (by decide +kernel) (by decide +kernel), tb_p 9 (by decide +kernel) (by decide +kernel), tb_t 1 (by decide +kernel) (by decide +kernel), tb_t 364 (by decide +kernel) (by decide +kernel), ⟨by decide +kernel, by decide +kernel, by decide +kernel⟩⟩
theorem yv_X7_noScale : xYV yX7_noScale cX7_noScale 2 (some .boolean) 1 := ⟨tb_t 347 (by decide +kernel) (by decide +kernel), tb_p 8 (by decide +kernel) (by decide +kernel), tb_t 1 (by decide +kernel) (by decide +kernel), tb_t 348 (by decide +kernel) (by decide +kernel), ⟨by decide +kernel, by decide +kernel, by decide +kernel⟩⟩
theorem yv_X7_now : xYV yX7_now cX7_now 2 (some .int) 1 := ⟨tb_t 374 (by decide +kernel) (by decide +kernel), tb_t 375 (by decide +kernel) (by decide +kernel), tb_t 1 (by decide +kernel) (by decide +kernel), tb_t 376 (by decide +kernel) (by decide +kernel), ⟨by decide +kernel, by decide +kernel, by decide +kernel⟩⟩
theorem yv_X7_order : xYV yX7_order cX7_order 2 (some .int) 1 := ⟨tb_t 473 (by decide +kernel) (by decide +kernel), tb_t 474 (by decide +kernel) (by decide +kernel), tb_t 1 (by decide +kernel) (by decide +kernel), tb_t 475 (by decide +kernel) (by decide +kernel), ⟨by decide +kernel, by decide +kernel, by decide +kernel⟩⟩
theorem ys_X7_power : xYS yX7_power cX7_power 4 (some .int) 2 := ⟨tb_t 537 (by decide +kernel) (by decide +kernel), tb_t 1 (by decide +kernel) (by decide +kernel), tb_t 538 (by decide +kernel) (by decide +kernel), ⟨by decide +kernel, by decide +kernel, by decide +kernel⟩⟩
theorem yv_X7_rate : xYV yX7_rate cX7_rate 3 (some .int) 2 := ⟨tb_t 630 (by decide +kernel) (by decide +kernel), tb_t 631 (by decide +kernel) (by decide +kernel), tb_t 1 (by decide +kernel) (by decide +kernel), tb_t 632 (by decide +kernel) (by decide +kernel), ⟨by decide +kernel, by decide +kernel, by decide +kernel⟩⟩
theorem yv_X7_rateBantam : xYV yX7_rateBantam cX7_rateBantam 2 (some .int) 1 := ⟨tb_t 660 (by decide +kernel) (by decide +kernel), tb_p 28 (by decide +kernel) (by decide +kernel), tb_t 1 (by decide +kernel) (by decide +kernel), tb_t 661 (by decide +kernel) (by decide +kernel), ⟨by decide +kernel, by decide +kernel, by decide +kernel⟩⟩
theorem yv_X7_rateBrown : xYV yX7_rateBrown cX7_rateBrown 2 (some .int) 1 := ⟨tb_t 640 (by decide +kernel) (by decide +kernel), tb_p 24 (by decide +kernel) (by decide +kernel), tb_t 1 (by decide +kernel) (by decide +kernel), tb_t 641 (by decide +kernel) (by decide +kernel), ⟨by decide +kernel, by decide +kernel, by decide +kernel⟩⟩
theorem yv_X7_rateCracked : xYV yX7_rateCracked cX7_rateCracked 2 (some .int) 1 := ⟨tb_t 650 (by decide +kernel) (by decide +kernel), tb_p 26 (by decide +kernel) (by decide +kernel), tb_t 1 (by decide +kernel) (by decide +kernel), tb_t 651 (by decide +kernel) (by decide +kernel), ⟨by decide +kernel, by decide +kernel, by decide +kernel⟩⟩
theorem yv_X7_rateDouble : xYV yX7_rateDouble cX7_rateDouble 2 (some .int) 1 := ⟨tb_t 645 (by decide +kernel) (by decide +kernel), tb_p 25 (by decide +kernel) (by decide +kernel), tb_t 1 (by decide +kernel) (by decide +kernel), tb_t 646 (by decide +kernel) (by decide +kernel), ⟨by decide +kernel, by decide +kernel, by decide +kernel⟩⟩
theorem yv_X7_rateDuck : xYV yX7_rateDuck cX7_rateDuck 2 (some .int) 1 := ⟨tb_t 655 (by decide +kernel) (by decide +kernel), tb_p 27 (by decide +kernel) (by decide +kernel), tb_t 1 (by decide +kernel) (by decide +kernel), tb_t 656 (by decide +kernel) (by decide +kernel), ⟨by decide +kernel, by decide +kernel, by decide +kernel⟩⟩
theorem yv_X7_rateEgg : xYV yX7_rateEgg cX7_rateEgg 2 (some .int) 1 := ⟨tb_t 636 (by decide +kernel) (by decide +kernel), tb_p 23 (by decide +kernel) (by decide +kernel), tb_t 1 (by decide +kernel) (by decide +kernel), tb_t 637 (by decide +kernel) (by decide +kernel), ⟨by decide +kernel, by decide +kernel, by decide +kernel⟩⟩
theorem yv_X7_reset : xYV yX7_reset cX7_reset 3 (some .int) 2 := ⟨tb_t 520 (by decide +kernel) (by decide +kernel), tb_t 521 (by decide +kernel) (by decide +kernel), tb_t 1 (by decide +kernel) (by decide +kernel), tb_t 522 (by decide +kernel) (by decide +kernel), ⟨by decide +kernel, by decide +kernel, by decide +kernel⟩⟩
theorem yv_X7_rolls : xYV yX7_rolls cX7_rolls 2 (some .int) 1 := ⟨tb_t 391 (by decide +kernel) (by decide +kernel), tb_t 392 (by decide +kernel) (by decide +kernel), tb_t 1 (by decide +kernel) (by decide +kernel), tb_t 393 (by decide +kernel) (by decide +kernel), ⟨by decide +kernel, by decide +kernel, by decide +kernel⟩⟩
theorem yv_X7_row : xYV yX7_row cX7_row 2 (some .int) 1 := ⟨tb_t 500 (by decide +kernel) (by decide +kernel), tb_t 501 (by decide +kernel) (by decide +kernel), tb_t 1 (by decide +kernel) (by decide +kernel), tb_t 502 (by decide +kernel) (by decide +kernel), ⟨by decide +kernel, by decide +kernel, by decide +kernel⟩⟩
theorem yv_X7_scale : xYV yX7_scale cX7_scale 3 (some .int) 2 := ⟨tb_t 342 (by decide +kernel) (by decide +kernel), tb_t 343 (by decide +kernel) (by decide +kernel), tb_t 1 (by decide +kernel) (by decide +kernel), tb_t 344 (by decide +kernel) (by decide +kernel), ⟨by decide +kernel, by decide +kernel, by decide +kernel⟩⟩
theorem yv_X7_sets : xYV yX7_sets cX7_sets 4 (some .int) 2 := ⟨tb_t 448 (by decide +kernel) (by decide +kernel), tb_t 449 (by decide +kernel) (by decide +kernel), tb_t 1 (by decide +kernel) (by decide +kernel), tb_t 450 (by decide +kernel) (by decide +kernel), ⟨by decide +kernel, by decide +kernel, by decide +kernel⟩⟩
theorem yv_X7_shifts : xYV yX7_shifts cX7_shifts 3 (some .int) 1 := ⟨tb_t 452 (by decide +kernel) (by decide +kernel), tb_t 453 (by decide +kernel) (by decide +kernel), tb_t 1 (by decide +kernel) (by decide +kernel), tb_t 454 (by decide +kernel) (by decide +kernel), ⟨by decide +kernel, by decide +kernel, by decide +kernel⟩⟩
theorem yv_X7_takes : xYV yX7_takes cX7_takes 2 (some .int) 1 := ⟨tb_t 436 (by decide +kernel) (by decide +kernel), tb_t 437 (by decide +kernel) (by decide +kernel), tb_t 1 (by decide +kernel) (by decide +kernel), tb_t 438 (by decide +kernel) (by decide +kernel), ⟨by decide +kernel, by decide +kernel, by decide +kernel⟩⟩
theorem yv_X7_tested : xYV yX7_tested cX7_tested 3 (some .int) 2 := ⟨tb_t 580 (by decide +kernel) (by decide +kernel), tb_t 581 (by decide +kernel) (by decide +kernel), tb_t 1 (by decide +kernel) (by decide +kernel), tb_t 582 (by decide +kernel) (by decide +kernel), ⟨by decide +kernel, by decide +kernel, by decide +kernel⟩⟩
theorem yv_X7_trace : xYV yX7_trace cX7_trace 1 (some .long) 0 := ⟨tb_t 676 (by decide +kernel) (by decide +kernel), tb_t 677 (by decide +kernel) (by decide +kernel), tb_t 1 (by decide +kernel) (by decide +kernel), tb_t 678 (by decide +kernel) (by decide +kernel), ⟨by decide +kernel, by decide +kernel, by decide +kernel⟩⟩
theorem yv_X7_type : xYV yX7_type cX7_type 2 (some .int) 1 := ⟨tb_t 272 (by decide +kernel) (by decide +kernel), tb_t 273 (by decide +kernel) (by decide +kernel), tb_t 1 (by decide +kernel) (by decide +kernel), tb_t 274 (by decide +kernel) (by decide +kernel), ⟨by decide +kernel, by decide +kernel, by decide +kernel⟩⟩
theorem yv_X7_undo : xYV yX7_undo cX7_undo 1 (some .int) 0 := ⟨tb_t 460 (by decide +kernel) (by decide +kernel), tb_t 461 (by decide +kernel) (by decide +kernel), tb_t 1 (by decide +kernel) (by decide +kernel), tb_t 462 (by decide +kernel) (by decide +kernel), ⟨by decide +kernel, by decide +kernel, by decide +kernel⟩⟩
theorem ys_X7_waysToCrack : xYS yX7_waysToCrack cX7_waysToCrack 6 (some .int) 3 := ⟨tb_t 540 (by decide +kernel) (by decide +kernel), tb_t 1 (by decide +kernel) (by decide +kernel), tb_t 541 (by decide +kernel) (by decide +kernel), ⟨by decide +kernel, by decide +kernel, by decide +kernel⟩⟩
theorem yv_X7_wipes : xYV yX7_wipes cX7_wipes 3 (some .int) 1 := ⟨tb_t 444 (by decide +kernel) (by decide +kernel), tb_t 445 (by decide +kernel) (by decide +kernel), tb_t 1 (by decide +kernel) (by decide +kernel), tb_t 446 (by decide +kernel) (by decide +kernel), ⟨by decide +kernel, by decide +kernel, by decide +kernel⟩⟩
theorem yv_X8_adds : xYV yX8_adds cX8_adds 5 none 3 := ⟨tb_t 1010 (by decide +kernel) (by decide +kernel), tb_p 57 (by decide +kernel) (by decide +kernel), tb_t 9 (by decide +kernel) (by decide +kernel), tb_t 1011 (by decide +kernel) (by decide +kernel), ⟨by decide +kernel, by decide +kernel, by decide +kernel⟩⟩
theorem yv_X8_allWays : xYV yX8_allWays cX8_allWays 3 (some .int) 0 := ⟨tb_t 986 (by decide +kernel) (by decide +kernel), tb_p 52 (by decide +kernel) (by decide +kernel), tb_t 9 (by decide +kernel) (by decide +kernel), tb_t 987 (by decide +kernel) (by decide +kernel), ⟨by decide +kernel, by decide +kernel, by decide +kernel⟩⟩
theorem yv_X8_asItIs : xYV yX8_asItIs cX8_asItIs 1 none 0 := ⟨tb_t 827 (by decide +kernel) (by decide +kernel), tb_p 35 (by decide +kernel) (by decide +kernel), tb_t 9 (by decide +kernel) (by decide +kernel), tb_t 828 (by decide +kernel) (by decide +kernel), ⟨by decide +kernel, by decide +kernel, by decide +kernel⟩⟩
theorem yv_X8_back : xYV yX8_back cX8_back 2 (some .int) 1 := ⟨tb_t 1027 (by decide +kernel) (by decide +kernel), tb_t 1028 (by decide +kernel) (by decide +kernel), tb_t 9 (by decide +kernel) (by decide +kernel), tb_t 1029 (by decide +kernel) (by decide +kernel), ⟨by decide +kernel, by decide +kernel, by decide +kernel⟩⟩
theorem yv_X8_barn : xYV yX8_barn cX8_barn 1 (some .int) 0 := ⟨tb_t 791 (by decide +kernel) (by decide +kernel), tb_t 792 (by decide +kernel) (by decide +kernel), tb_t 9 (by decide +kernel) (by decide +kernel), tb_t 793 (by decide +kernel) (by decide +kernel), ⟨by decide +kernel, by decide +kernel, by decide +kernel⟩⟩
theorem yv_X8_belongsAs : xYV yX8_belongsAs cX8_belongsAs 4 (some .int) 1 := ⟨tb_t 854 (by decide +kernel) (by decide +kernel), tb_p 40 (by decide +kernel) (by decide +kernel), tb_t 9 (by decide +kernel) (by decide +kernel), tb_t 855 (by decide +kernel) (by decide +kernel), ⟨by decide +kernel, by decide +kernel, by decide +kernel⟩⟩
theorem ys_X8_bits : xYS yX8_bits cX8_bits 3 (some .int) 1 := ⟨tb_t 889 (by decide +kernel) (by decide +kernel), tb_t 9 (by decide +kernel) (by decide +kernel), tb_t 890 (by decide +kernel) (by decide +kernel), ⟨by decide +kernel, by decide +kernel, by decide +kernel⟩⟩
theorem yv_X8_box : xYV yX8_box cX8_box 9 (some .int) 3 := ⟨tb_t 961 (by decide +kernel) (by decide +kernel), tb_t 962 (by decide +kernel) (by decide +kernel), tb_t 9 (by decide +kernel) (by decide +kernel), tb_t 963 (by decide +kernel) (by decide +kernel), ⟨by decide +kernel, by decide +kernel, by decide +kernel⟩⟩
theorem yv_X8_boxed : xYV yX8_boxed cX8_boxed 7 (some .int) 3 := ⟨tb_t 966 (by decide +kernel) (by decide +kernel), tb_p 51 (by decide +kernel) (by decide +kernel), tb_t 9 (by decide +kernel) (by decide +kernel), tb_t 967 (by decide +kernel) (by decide +kernel), ⟨by decide +kernel, by decide +kernel, by decide +kernel⟩⟩
theorem yv_X8_boxes : xYV yX8_boxes cX8_boxes 7 (some .int) 2 := ⟨tb_t 969 (by decide +kernel) (by decide +kernel), tb_t 970 (by decide +kernel) (by decide +kernel), tb_t 9 (by decide +kernel) (by decide +kernel), tb_t 971 (by decide +kernel) (by decide +kernel), ⟨by decide +kernel, by decide +kernel, by decide +kernel⟩⟩
theorem yv_X8_can : xYV yX8_can cX8_can 4 (some .int) 1 := ⟨tb_t 981 (by decide +kernel) (by decide +kernel), tb_t 982 (by decide +kernel) (by decide +kernel), tb_t 9 (by decide +kernel) (by decide +kernel), tb_t 983 (by decide +kernel) (by decide +kernel), ⟨by decide +kernel, by decide +kernel, by decide +kernel⟩⟩
theorem yv_X8_clear : xYV yX8_clear cX8_clear 2 (some .int) 0 := ⟨tb_t 787 (by decide +kernel) (by decide +kernel), tb_t 788 (by decide +kernel) (by decide +kernel), tb_t 9 (by decide +kernel) (by decide +kernel), tb_t 789 (by decide +kernel) (by decide +kernel), ⟨by decide +kernel, by decide +kernel, by decide +kernel⟩⟩
theorem ys_X8_copy : xYS yX8_copy cX8_copy 5 none 4 := ⟨tb_t 830 (by decide +kernel) (by decide +kernel), tb_t 9 (by decide +kernel) (by decide +kernel), tb_t 831 (by decide +kernel) (by decide +kernel), ⟨by decide +kernel, by decide +kernel, by decide +kernel⟩⟩
theorem yv_X8_count : xYV yX8_count cX8_count 2 (some .int) 1 := ⟨tb_t 1031 (by decide +kernel) (by decide +kernel), tb_t 1032 (by decide +kernel) (by decide +kernel), tb_t 9 (by decide +kernel) (by decide +kernel), tb_t 1033 (by decide +kernel) (by decide +kernel), ⟨by decide +kernel, by decide +kernel, by decide +kernel⟩⟩
theorem yv_X8_cracks : xYV yX8_cracks cX8_cracks 10 (some .int) 3 := ⟨tb_t 954 (by decide +kernel) (by decide +kernel), tb_t 955 (by decide +kernel) (by decide +kernel), tb_t 9 (by decide +kernel) (by decide +kernel), tb_t 956 (by decide +kernel) (by decide +kernel), ⟨by decide +kernel, by decide +kernel, by decide +kernel⟩⟩
theorem yv_X8_drops : xYV yX8_drops cX8_drops 3 (some .int) 1 := ⟨tb_t 912 (by decide +kernel) (by decide +kernel), tb_t 913 (by decide +kernel) (by decide +kernel), tb_t 9 (by decide +kernel) (by decide +kernel), tb_t 914 (by decide +kernel) (by decide +kernel), ⟨by decide +kernel, by decide +kernel, by decide +kernel⟩⟩
theorem yv_X8_egg : xYV yX8_egg cX8_egg 3 (some .int) 2 := ⟨tb_t 841 (by decide +kernel) (by decide +kernel), tb_t 842 (by decide +kernel) (by decide +kernel), tb_t 9 (by decide +kernel) (by decide +kernel), tb_t 843 (by decide +kernel) (by decide +kernel), ⟨by decide +kernel, by decide +kernel, by decide +kernel⟩⟩
theorem yv_X8_fallsFrom : xYV yX8_fallsFrom cX8_fallsFrom 6 (some .int) 3 := ⟨tb_t 994 (by decide +kernel) (by decide +kernel), tb_p 54 (by decide +kernel) (by decide +kernel), tb_t 9 (by decide +kernel) (by decide +kernel), tb_t 995 (by decide +kernel) (by decide +kernel), ⟨by decide +kernel, by decide +kernel, by decide +kernel⟩⟩
theorem yv_X8_fellAll : xYV yX8_fellAll cX8_fellAll 3 (some .int) 0 := ⟨tb_t 866 (by decide +kernel) (by decide +kernel), tb_p 42 (by decide +kernel) (by decide +kernel), tb_t 9 (by decide +kernel) (by decide +kernel), tb_t 867 (by decide +kernel) (by decide +kernel), ⟨by decide +kernel, by decide +kernel, by decide +kernel⟩⟩
theorem yv_X8_forget : xYV yX8_forget cX8_forget 2 (some .int) 0 := ⟨tb_t 977 (by decide +kernel) (by decide +kernel), tb_t 978 (by decide +kernel) (by decide +kernel), tb_t 9 (by decide +kernel) (by decide +kernel), tb_t 979 (by decide +kernel) (by decide +kernel), ⟨by decide +kernel, by decide +kernel, by decide +kernel⟩⟩
theorem yv_X8_goes : xYV yX8_goes cX8_goes 2 (some .int) 1 := ⟨tb_t 920 (by decide +kernel) (by decide +kernel), tb_t 921 (by decide +kernel) (by decide +kernel), tb_t 9 (by decide +kernel) (by decide +kernel), tb_t 922 (by decide +kernel) (by decide +kernel), ⟨by decide +kernel, by decide +kernel, by decide +kernel⟩⟩
theorem yv_X8_greatest : xYV yX8_greatest cX8_greatest 4 (some .int) 1 := ⟨tb_t 1006 (by decide +kernel) (by decide +kernel), tb_p 56 (by decide +kernel) (by decide +kernel), tb_t 9 (by decide +kernel) (by decide +kernel), tb_t 1007 (by decide +kernel) (by decide +kernel), ⟨by decide +kernel, by decide +kernel, by decide +kernel⟩⟩
theorem ys_X8_has : xYS yX8_has cX8_has 2 (some .boolean) 2 := ⟨tb_t 935 (by decide +kernel) (by decide +kernel), tb_t 9 (by decide +kernel) (by decide +kernel), tb_t 936 (by decide +kernel) (by decide +kernel), ⟨by decide +kernel, by decide +kernel, by decide +kernel⟩⟩
theorem ys_X8_in : xYS yX8_in cX8_in 3 (some .boolean) 3 := ⟨tb_t 784 (by decide +kernel) (by decide +kernel), tb_t 9 (by decide +kernel) (by decide +kernel), tb_t 785 (by decide +kernel) (by decide +kernel), ⟨by decide +kernel, by decide +kernel, by decide +kernel⟩⟩
theorem yv_X8_inPlace : xYV yX8_inPlace cX8_inPlace 4 (some .int) 1 := ⟨tb_t 838 (by decide +kernel) (by decide +kernel), tb_p 37 (by decide +kernel) (by decide +kernel), tb_t 9 (by decide +kernel) (by decide +kernel), tb_t 839 (by decide +kernel) (by decide +kernel), ⟨by decide +kernel, by decide +kernel, by decide +kernel⟩⟩
theorem yv_X8_isEgg : xYV yX8_isEgg cX8_isEgg 2 (some .boolean) 1 := ⟨tb_t 846 (by decide +kernel) (by decide +kernel), tb_p 38 (by decide +kernel) (by decide +kernel), tb_t 9 (by decide +kernel) (by decide +kernel), tb_t 847 (by decide +kernel) (by decide +kernel), ⟨by decide +kernel, by decide +kernel, by decide +kernel⟩⟩
theorem ys_X8_isFigure : xYS yX8_isFigure cX8_isFigure 1 (some .boolean) 1 := ⟨tb_t 803 (by decide +kernel) (by decide +kernel), tb_t 9 (by decide +kernel) (by decide +kernel), tb_t 804 (by decide +kernel) (by decide +kernel), ⟨by decide +kernel, by decide +kernel, by decide +kernel⟩⟩
theorem yv_X8_isFull : xYV yX8_isFull cX8_isFull 2 (some .boolean) 1 := ⟨tb_t 886 (by decide +kernel) (by decide +kernel), tb_p 46 (by decide +kernel) (by decide +kernel), tb_t 9 (by decide +kernel) (by decide +kernel), tb_t 887 (by decide +kernel) (by decide +kernel), ⟨by decide +kernel, by decide +kernel, by decide +kernel⟩⟩
theorem yv_X8_isOrder : xYV yX8_isOrder cX8_isOrder 8 (some .boolean) 3 := ⟨tb_t 932 (by decide +kernel) (by decide +kernel), tb_p 48 (by decide +kernel) (by decide +kernel), tb_t 9 (by decide +kernel) (by decide +kernel), tb_t 933 (by decide +kernel) (by decide +kernel), ⟨by decide +kernel, by decide +kernel, by decide +kernel⟩⟩
theorem yv_X8_isScale : xYV yX8_isScale cX8_isScale 2 (some .boolean) 1 := ⟨tb_t 823 (by decide +kernel) (by decide +kernel), tb_p 34 (by decide +kernel) (by decide +kernel), tb_t 9 (by decide +kernel) (by decide +kernel), tb_t 824 (by decide +kernel) (by decide +kernel), ⟨by decide +kernel, by decide +kernel, by decide +kernel⟩⟩
theorem yv_X8_isSo : xYV yX8_isSo cX8_isSo 5 (some .boolean) 2 := ⟨tb_t 990 (by decide +kernel) (by decide +kernel), tb_p 53 (by decide +kernel) (by decide +kernel), tb_t 9 (by decide +kernel) (by decide +kernel), tb_t 991 (by decide +kernel) (by decide +kernel), ⟨by decide +kernel, by decide +kernel, by decide +kernel⟩⟩
theorem yv_X8_keep : xYV yX8_keep cX8_keep 2 (some .int) 1 := ⟨tb_t 1023 (by decide +kernel) (by decide +kernel), tb_t 1024 (by decide +kernel) (by decide +kernel), tb_t 9 (by decide +kernel) (by decide +kernel), tb_t 1025 (by decide +kernel) (by decide +kernel), ⟨by decide +kernel, by decide +kernel, by decide +kernel⟩⟩
theorem yv_X8_keepsOrder : xYV yX8_keepsOrder cX8_keepsOrder 2 none 0 := ⟨tb_t 939 (by decide +kernel) (by decide +kernel), tb_p 49 (by decide +kernel) (by decide +kernel), tb_t 9 (by decide +kernel) (by decide +kernel), tb_t 940 (by decide +kernel) (by decide +kernel), ⟨by decide +kernel, by decide +kernel, by decide +kernel⟩⟩
theorem yv_X8_letterAt : xYV yX8_letterAt cX8_letterAt 2 (some .int) 1 := ⟨tb_t 800 (by decide +kernel) (by decide +kernel), tb_p 30 (by decide +kernel) (by decide +kernel), tb_t 9 (by decide +kernel) (by decide +kernel), tb_t 801 (by decide +kernel) (by decide +kernel), ⟨by decide +kernel, by decide +kernel, by decide +kernel⟩⟩
theorem yv_X8_lighter : xYV yX8_lighter cX8_lighter 3 (some .int) 2 := ⟨tb_t 893 (by decide +kernel) (by decide +kernel), tb_p 47 (by decide +kernel) (by decide +kernel), tb_t 9 (by decide +kernel) (by decide +kernel), tb_t 894 (by decide +kernel) (by decide +kernel), ⟨by decide +kernel, by decide +kernel, by decide +kernel⟩⟩
theorem ys_X8_lowest : xYS yX8_lowest cX8_lowest 6 (some .int) 3 := ⟨tb_t 958 (by decide +kernel) (by decide +kernel), tb_t 9 (by decide +kernel) (by decide +kernel), tb_t 959 (by decide +kernel) (by decide +kernel), ⟨by decide +kernel, by decide +kernel, by decide +kernel⟩⟩
theorem yv_X8_next : xYV yX8_next cX8_next 6 (some .int) 0 := ⟨tb_t 1001 (by decide +kernel) (by decide +kernel), tb_t 1002 (by decide +kernel) (by decide +kernel), tb_t 9 (by decide +kernel) (by decide +kernel), tb_t 1003 (by decide +kernel) (by decide +kernel), ⟨by decide +kernel, by decide +kernel, by decide +kernel⟩⟩
theorem yv_X8_now : xYV yX8_now cX8_now 2 (some .int) 1 := ⟨tb_t 857 (by decide +kernel) (by decide +kernel), tb_t 858 (by decide +kernel) (by decide +kernel), tb_t 9 (by decide +kernel) (by decide +kernel), tb_t 859 (by decide +kernel) (by decide +kernel), ⟨by decide +kernel, by decide +kernel, by decide +kernel⟩⟩
theorem yv_X8_order : xYV yX8_order cX8_order 8 (some .int) 1 := ⟨tb_t 924 (by decide +kernel) (by decide +kernel), tb_t 925 (by decide +kernel) (by decide +kernel), tb_t 9 (by decide +kernel) (by decide +kernel), tb_t 926 (by decide +kernel) (by decide +kernel), ⟨by decide +kernel, by decide +kernel, by decide +kernel⟩⟩
theorem yv_X8_placeOf : xYV yX8_placeOf cX8_placeOf 4 (some .int) 1 := ⟨tb_t 834 (by decide +kernel) (by decide +kernel), tb_p 36 (by decide +kernel) (by decide +kernel), tb_t 9 (by decide +kernel) (by decide +kernel), tb_t 835 (by decide +kernel) (by decide +kernel), ⟨by decide +kernel, by decide +kernel, by decide +kernel⟩⟩
theorem yv_X8_rate : xYV yX8_rate cX8_rate 6 (some .int) 2 := ⟨tb_t 1013 (by decide +kernel) (by decide +kernel), tb_t 1014 (by decide +kernel) (by decide +kernel), tb_t 9 (by decide +kernel) (by decide +kernel), tb_t 1015 (by decide +kernel) (by decide +kernel), ⟨by decide +kernel, by decide +kernel, by decide +kernel⟩⟩
theorem yv_X8_readItem : xYV yX8_readItem cX8_readItem 2 none 0 := ⟨tb_t 807 (by decide +kernel) (by decide +kernel), tb_p 31 (by decide +kernel) (by decide +kernel), tb_t 9 (by decide +kernel) (by decide +kernel), tb_t 808 (by decide +kernel) (by decide +kernel), ⟨by decide +kernel, by decide +kernel, by decide +kernel⟩⟩
theorem yv_X8_reads : xYV yX8_reads cX8_reads 2 none 0 := ⟨tb_t 796 (by decide +kernel) (by decide +kernel), tb_p 29 (by decide +kernel) (by decide +kernel), tb_t 9 (by decide +kernel) (by decide +kernel), tb_t 797 (by decide +kernel) (by decide +kernel), ⟨by decide +kernel, by decide +kernel, by decide +kernel⟩⟩
theorem yv_X8_remembers : xYV yX8_remembers cX8_remembers 2 none 0 := ⟨tb_t 874 (by decide +kernel) (by decide +kernel), tb_p 43 (by decide +kernel) (by decide +kernel), tb_t 9 (by decide +kernel) (by decide +kernel), tb_t 875 (by decide +kernel) (by decide +kernel), ⟨by decide +kernel, by decide +kernel, by decide +kernel⟩⟩
theorem yv_X8_reset : xYV yX8_reset cX8_reset 8 (some .int) 2 := ⟨tb_t 950 (by decide +kernel) (by decide +kernel), tb_t 951 (by decide +kernel) (by decide +kernel), tb_t 9 (by decide +kernel) (by decide +kernel), tb_t 952 (by decide +kernel) (by decide +kernel), ⟨by decide +kernel, by decide +kernel, by decide +kernel⟩⟩
theorem yv_X8_right : xYV yX8_right cX8_right 4 (some .int) 0 := ⟨tb_t 862 (by decide +kernel) (by decide +kernel), tb_p 41 (by decide +kernel) (by decide +kernel), tb_t 9 (by decide +kernel) (by decide +kernel), tb_t 863 (by decide +kernel) (by decide +kernel), ⟨by decide +kernel, by decide +kernel, by decide +kernel⟩⟩
theorem yv_X8_rolled : xYV yX8_rolled cX8_rolled 4 (some .int) 1 := ⟨tb_t 878 (by decide +kernel) (by decide +kernel), tb_p 44 (by decide +kernel) (by decide +kernel), tb_t 9 (by decide +kernel) (by decide +kernel), tb_t 879 (by decide +kernel) (by decide +kernel), ⟨by decide +kernel, by decide +kernel, by decide +kernel⟩⟩
theorem yv_X8_rolls : xYV yX8_rolls cX8_rolls 3 (some .int) 1 := ⟨tb_t 869 (by decide +kernel) (by decide +kernel), tb_t 870 (by decide +kernel) (by decide +kernel), tb_t 9 (by decide +kernel) (by decide +kernel), tb_t 871 (by decide +kernel) (by decide +kernel), ⟨by decide +kernel, by decide +kernel, by decide +kernel⟩⟩
theorem yv_X8_rollsAll : xYV yX8_rollsAll cX8_rollsAll 2 none 0 := ⟨tb_t 947 (by decide +kernel) (by decide +kernel), tb_p 50 (by decide +kernel) (by decide +kernel), tb_t 9 (by decide +kernel) (by decide +kernel), tb_t 948 (by decide +kernel) (by decide +kernel), ⟨by decide +kernel, by decide +kernel, by decide +kernel⟩⟩
theorem yv_X8_row : xYV yX8_row cX8_row 6 (some .int) 1 := ⟨tb_t 942 (by decide +kernel) (by decide +kernel), tb_t 943 (by decide +kernel) (by decide +kernel), tb_t 9 (by decide +kernel) (by decide +kernel), tb_t 944 (by decide +kernel) (by decide +kernel), ⟨by decide +kernel, by decide +kernel, by decide +kernel⟩⟩
theorem yv_X8_scale : xYV yX8_scale cX8_scale 3 (some .int) 2 := ⟨tb_t 818 (by decide +kernel) (by decide +kernel), tb_t 819 (by decide +kernel) (by decide +kernel), tb_t 9 (by decide +kernel) (by decide +kernel), tb_t 820 (by decide +kernel) (by decide +kernel), ⟨by decide +kernel, by decide +kernel, by decide +kernel⟩⟩
theorem yv_X8_seemsAs : xYV yX8_seemsAs cX8_seemsAs 3 (some .int) 2 := ⟨tb_t 850 (by decide +kernel) (by decide +kernel), tb_p 39 (by decide +kernel) (by decide +kernel), tb_t 9 (by decide +kernel) (by decide +kernel), tb_t 851 (by decide +kernel) (by decide +kernel), ⟨by decide +kernel, by decide +kernel, by decide +kernel⟩⟩
theorem yv_X8_sets : xYV yX8_sets cX8_sets 4 (some .int) 2 := ⟨tb_t 904 (by decide +kernel) (by decide +kernel), tb_t 905 (by decide +kernel) (by decide +kernel), tb_t 9 (by decide +kernel) (by decide +kernel), tb_t 906 (by decide +kernel) (by decide +kernel), ⟨by decide +kernel, by decide +kernel, by decide +kernel⟩⟩
theorem yv_X8_settles : xYV yX8_settles cX8_settles 2 none 0 := ⟨tb_t 815 (by decide +kernel) (by decide +kernel), tb_p 33 (by decide +kernel) (by decide +kernel), tb_t 9 (by decide +kernel) (by decide +kernel), tb_t 816 (by decide +kernel) (by decide +kernel), ⟨by decide +kernel, by decide +kernel, by decide +kernel⟩⟩
theorem yv_X8_shifts : xYV yX8_shifts cX8_shifts 3 (some .int) 1 := ⟨tb_t 908 (by decide +kernel) (by decide +kernel), tb_t 909 (by decide +kernel) (by decide +kernel), tb_t 9 (by decide +kernel) (by decide +kernel), tb_t 910 (by decide +kernel) (by decide +kernel), ⟨by decide +kernel, by decide +kernel, by decide +kernel⟩⟩
theorem ys_X8_sixes : xYS yX8_sixes cX8_sixes 3 (some .int) 1 := ⟨tb_t 928 (by decide +kernel) (by decide +kernel), tb_t 9 (by decide +kernel) (by decide +kernel), tb_t 929 (by decide +kernel) (by decide +kernel), ⟨by decide +kernel, by decide +kernel, by decide +kernel⟩⟩
theorem yv_X8_stiffOf : xYV yX8_stiffOf cX8_stiffOf 2 (some .int) 1 := ⟨tb_t 882 (by decide +kernel) (by decide +kernel), tb_p 45 (by decide +kernel) (by decide +kernel), tb_t 9 (by decide +kernel) (by decide +kernel), tb_t 883 (by decide +kernel) (by decide +kernel), ⟨by decide +kernel, by decide +kernel, by decide +kernel⟩⟩
theorem yv_X8_takes : xYV yX8_takes cX8_takes 2 (some .int) 1 := ⟨tb_t 896 (by decide +kernel) (by decide +kernel), tb_t 897 (by decide +kernel) (by decide +kernel), tb_t 9 (by decide +kernel) (by decide +kernel), tb_t 898 (by decide +kernel) (by decide +kernel), ⟨by decide +kernel, by decide +kernel, by decide +kernel⟩⟩
theorem yv_X8_takesNumber : xYV yX8_takesNumber cX8_takesNumber 5 (some .int) 2 := ⟨tb_t 811 (by decide +kernel) (by decide +kernel), tb_p 32 (by decide +kernel) (by decide +kernel), tb_t 9 (by decide +kernel) (by decide +kernel), tb_t 812 (by decide +kernel) (by decide +kernel), ⟨by decide +kernel, by decide +kernel, by decide +kernel⟩⟩
theorem yv_X8_tested : xYV yX8_tested cX8_tested 3 (some .int) 2 := ⟨tb_t 973 (by decide +kernel) (by decide +kernel), tb_t 974 (by decide +kernel) (by decide +kernel), tb_t 9 (by decide +kernel) (by decide +kernel), tb_t 975 (by decide +kernel) (by decide +kernel), ⟨by decide +kernel, by decide +kernel, by decide +kernel⟩⟩
theorem yv_X8_trace : xYV yX8_trace cX8_trace 1 (some .long) 0 := ⟨tb_t 1035 (by decide +kernel) (by decide +kernel), tb_t 1036 (by decide +kernel) (by decide +kernel), tb_t 9 (by decide +kernel) (by decide +kernel), tb_t 1037 (by decide +kernel) (by decide +kernel), ⟨by decide +kernel, by decide +kernel, by decide +kernel⟩⟩
theorem yv_X8_type : xYV yX8_type cX8_type 2 (some .int) 1 := ⟨tb_t 780 (by decide +kernel) (by decide +kernel), tb_t 781 (by decide +kernel) (by decide +kernel), tb_t 9 (by decide +kernel) (by decide +kernel), tb_t 782 (by decide +kernel) (by decide +kernel), ⟨by decide +kernel, by decide +kernel, by decide +kernel⟩⟩
theorem yv_X8_undo : xYV yX8_undo cX8_undo 1 (some .int) 0 := ⟨tb_t 916 (by decide +kernel) (by decide +kernel), tb_t 917 (by decide +kernel) (by decide +kernel), tb_t 9 (by decide +kernel) (by decide +kernel), tb_t 918 (by decide +kernel) (by decide +kernel), ⟨by decide +kernel, by decide +kernel, by decide +kernel⟩⟩
theorem yv_X8_waysOff : xYV yX8_waysOff cX8_waysOff 4 (some .int) 1 := ⟨tb_t 998 (by decide +kernel) (by decide +kernel), tb_p 55 (by decide +kernel) (by decide +kernel), tb_t 9 (by decide +kernel) (by decide +kernel), tb_t 999 (by decide +kernel) (by decide +kernel), ⟨by decide +kernel, by decide +kernel, by decide +kernel⟩⟩
theorem yv_X8_wipes : xYV yX8_wipes cX8_wipes 3 (some .int) 1 := ⟨tb_t 900 (by decide +kernel) (by decide +kernel), tb_t 901 (by decide +kernel) (by decide +kernel), tb_t 9 (by decide +kernel) (by decide +kernel), tb_t 902 (by decide +kernel) (by decide +kernel), ⟨by decide +kernel, by decide +kernel, by decide +kernel⟩⟩
theorem ms_max : Cond.static Lib.Math.max.name ∈ xTB := tb_t 433 (by decide +kernel) (by decide +kernel)
theorem mc_max : Cond.code Lib.Math.max.name Lib.Math.max.code 2 (some .int) ∈ xTB := tb_t 434 (by decide +kernel) (by decide +kernel)
theorem ms_min : Cond.static Lib.Math.min.name ∈ xTB := tb_t 303 (by decide +kernel) (by decide +kernel)
theorem mc_min : Cond.code Lib.Math.min.name Lib.Math.min.code 2 (some .int) ∈ xTB := tb_t 304 (by decide +kernel) (by decide +kernel)
theorem mi_math : Cond.initialized "java/lang/Math" ∈ xTB := tb_t 10 (by decide +kernel) (by decide +kernel)
theorem ac_s : Cond.static arraycopyName ∈ xTB := tb_t 331 (by decide +kernel) (by decide +kernel)
theorem ac_n : Cond.native arraycopyName ∈ xTB := tb_t 332 (by decide +kernel) (by decide +kernel)
theorem ac_i : Cond.initialized "java/lang/System" ∈ xTB := tb_t 11 (by decide +kernel) (by decide +kernel)
section XF
variable {p : Program} {l : Launch} {e : Env} {R : Room} {s : State} {m : MethodId} {args : Array Value} {below : List Frame} {meth : Method} {c : Code} {H : Heap} {locs : List Loc} {Q : State → Prop}
variable {cc : ByteArray} {nL : Nat} {rt : Option FieldType} {G : xG} {M : xMem} {L : xLL} {pc : Nat} {ls : Array Slot} {rest : List Value}
theorem gf_X0_9 (E : xE p s m args meth c cc nL rt RX0 G) (hI : xI G M L s.heap H locs) {i : Nat} (hi : i < 21) (hdg : decode cc pc = .ok (.getfield 9, 3)) (kk : W p l e R s m args below meth c H locs 0 0 Q (F0 m (pc + 3) ls (.ref (xq G (i + 9) 2) :: rest))) : W p l e R s m args below meth c H locs 0 0 Q (F0 m pc ls (.ref (xq G (i + 9) 0) :: rest)) := x_get E hI (mf_0 hi) rfl rfl in_X0 1 (by decide) fl_X0_9 (fun _ h => h) rfl hdg kk
theorem gf_X0_15 (E : xE p s m args meth c cc nL rt RX0 G) (hI : xI G M L s.heap H locs) {i : Nat} (hi : i < 21) (hdg : decode cc pc = .ok (.getfield 15, 3)) (kk : W p l e R s m args below meth c H locs 0 0 Q (F0 m (pc + 3) ls (.ref (xq G (i + 9) 3) :: rest))) : W p l e R s m args below meth c H locs 0 0 Q (F0 m pc ls (.ref (xq G (i + 9) 0) :: rest)) := x_get E hI (mf_0 hi) rfl rfl in_X0 2 (by decide) fl_X0_15 (fun _ h => h) rfl hdg kk
theorem gf_X0_18 (E : xE p s m args meth c cc nL rt RX0 G) (hI : xI G M L s.heap H locs) {i : Nat} (hi : i < 21) (hdg : decode cc pc = .ok (.getfield 18, 3)) (kk : W p l e R s m args below meth c H locs 0 0 Q (F0 m (pc + 3) ls (.ref (xq G (i + 9) 4) :: rest))) : W p l e R s m args below meth c H locs 0 0 Q (F0 m pc ls (.ref (xq G (i + 9) 0) :: rest)) := x_get E hI (mf_0 hi) rfl rfl in_X0 3 (by decide) fl_X0_18 (fun _ h => h) rfl hdg kk
theorem gf_X0_21 (E : xE p s m args meth c cc nL rt RX0 G) (hI : xI G M L s.heap H locs) {i : Nat} (hi : i < 21) (hdg : decode cc pc = .ok (.getfield 21, 3)) (kk : W p l e R s m args below meth c H locs 0 0 Q (F0 m (pc + 3) ls (.ref (xq G (i + 9) 5) :: rest))) : W p l e R s m args below meth c H locs 0 0 Q (F0 m pc ls (.ref (xq G (i + 9) 0) :: rest)) := x_get E hI (mf_0 hi) rfl rfl in_X0 4 (by decide) fl_X0_21 (fun _ h => h) rfl hdg kk
theorem gf_X0_24 (E : xE p s m args meth c cc nL rt RX0 G) (hI : xI G M L s.heap H locs) {i : Nat} (hi : i < 21) (hdg : decode cc pc = .ok (.getfield 24, 3)) (kk : W p l e R s m args below meth c H locs 0 0 Q (F0 m (pc + 3) ls (.ref (xq G (i + 9) 6) :: rest))) : W p l e R s m args below meth c H locs 0 0 Q (F0 m pc ls (.ref (xq G (i + 9) 0) :: rest)) := x_get E hI (mf_0 hi) rfl rfl in_X0 5 (by decide) fl_X0_24 (fun _ h => h) rfl hdg kk
theorem gf_X0_27 (E : xE p s m args meth c cc nL rt RX0 G) (hI : xI G M L s.heap H locs) {i : Nat} (hi : i < 21) (hdg : decode cc pc = .ok (.getfield 27, 3)) (kk : W p l e R s m args below meth c H locs 0 0 Q (F0 m (pc + 3) ls (.ref (xq G 3 0) :: rest))) : W p l e R s m args below meth c H locs 0 0 Q (F0 m pc ls (.ref (xq G (i + 9) 0) :: rest)) := x_get E hI (mf_0 hi) rfl rfl in_X0 0 (by decide) fl_X0_27 (fun _ h => h) rfl hdg kk
theorem gf_X0_37_2 (E : xE p s m args meth c cc nL rt RX0 G) (hI : xI G M L s.heap H locs) (hdg : decode cc pc = .ok (.getfield 37, 3)) (kk : W p l e R s m args below meth c H locs 0 0 Q (F0 m (pc + 3) ls (.ref (xq G 2 6) :: rest))) : W p l e R s m args below meth c H locs 0 0 Q (F0 m pc ls (.ref (xq G 2 0) :: rest)) := x_get E hI mx_2_0 rfl rfl in_X6 5 (by decide) fl_X0_37 (fun _ h => h) rfl hdg kk
theorem gf_X0_37_3 (E : xE p s m args meth c cc nL rt RX0 G) (hI : xI G M L s.heap H locs) (hdg : decode cc pc = .ok (.getfield 37, 3)) (kk : W p l e R s m args below meth c H locs 0 0 Q (F0 m (pc + 3) ls (.ref (xq G 3 6) :: rest))) : W p l e R s m args below meth c H locs 0 0 Q (F0 m pc ls (.ref (xq G 3 0) :: rest)) := x_get E hI mx_3_0 rfl rfl in_X6 5 (by decide) fl_X0_37 (fun _ h => h) rfl hdg kk
theorem gf_X0_46_2 (E : xE p s m args meth c cc nL rt RX0 G) (hI : xI G M L s.heap H locs) (hdg : decode cc pc = .ok (.getfield 46, 3)) (kk : W p l e R s m args below meth c H locs 0 0 Q (F0 m (pc + 3) ls (.ref (xq G 2 3) :: rest))) : W p l e R s m args below meth c H locs 0 0 Q (F0 m pc ls (.ref (xq G 2 0) :: rest)) := x_get E hI mx_2_0 rfl rfl in_X6 2 (by decide) fl_X0_46 (fun _ h => h) rfl hdg kk
theorem gf_X0_46_3 (E : xE p s m args meth c cc nL rt RX0 G) (hI : xI G M L s.heap H locs) (hdg : decode cc pc = .ok (.getfield 46, 3)) (kk : W p l e R s m args below meth c H locs 0 0 Q (F0 m (pc + 3) ls (.ref (xq G 3 3) :: rest))) : W p l e R s m args below meth c H locs 0 0 Q (F0 m pc ls (.ref (xq G 3 0) :: rest)) := x_get E hI mx_3_0 rfl rfl in_X6 2 (by decide) fl_X0_46 (fun _ h => h) rfl hdg kk
theorem gf_X0_47_2 (E : xE p s m args meth c cc nL rt RX0 G) (hI : xI G M L s.heap H locs) (hdg : decode cc pc = .ok (.getfield 47, 3)) (kk : W p l e R s m args below meth c H locs 0 0 Q (F0 m (pc + 3) ls (.int (M 2 0 0) :: rest))) : W p l e R s m args below meth c H locs 0 0 Q (F0 m pc ls (.ref (xq G 2 0) :: rest)) := x_get E hI mx_2_0 rfl rfl in_X6 0 (by decide) fl_X0_47 (fun _ h => h) rfl hdg kk
theorem gf_X0_47_3 (E : xE p s m args meth c cc nL rt RX0 G) (hI : xI G M L s.heap H locs) (hdg : decode cc pc = .ok (.getfield 47, 3)) (kk : W p l e R s m args below meth c H locs 0 0 Q (F0 m (pc + 3) ls (.int (M 3 0 0) :: rest))) : W p l e R s m args below meth c H locs 0 0 Q (F0 m pc ls (.ref (xq G 3 0) :: rest)) := x_get E hI mx_3_0 rfl rfl in_X6 0 (by decide) fl_X0_47 (fun _ h => h) rfl hdg kk
theorem gf_X0_74_2 (E : xE p s m args meth c cc nL rt RX0 G) (hI : xI G M L s.heap H locs) (hdg : decode cc pc = .ok (.getfield 74, 3)) (kk : W p l e R s m args below meth c H locs 0 0 Q (F0 m (pc + 3) ls (.ref (xq G 2 4) :: rest))) : W p l e R s m args below meth c H locs 0 0 Q (F0 m pc ls (.ref (xq G 2 0) :: rest)) := x_get E hI mx_2_0 rfl rfl in_X6 3 (by decide) fl_X0_74 (fun _ h => h) rfl hdg kk
theorem gf_X0_74_3 (E : xE p s m args meth c cc nL rt RX0 G) (hI : xI G M L s.heap H locs) (hdg : decode cc pc = .ok (.getfield 74, 3)) (kk : W p l e R s m args below meth c H locs 0 0 Q (F0 m (pc + 3) ls (.ref (xq G 3 4) :: rest))) : W p l e R s m args below meth c H locs 0 0 Q (F0 m pc ls (.ref (xq G 3 0) :: rest)) := x_get E hI mx_3_0 rfl rfl in_X6 3 (by decide) fl_X0_74 (fun _ h => h) rfl hdg kk
theorem gf_X0_85_2 (E : xE p s m args meth c cc nL rt RX0 G) (hI : xI G M L s.heap H locs) (hdg : decode cc pc = .ok (.getfield 85, 3)) (kk : W p l e R s m args below meth c H locs 0 0 Q (F0 m (pc + 3) ls (.ref (xq G 2 5) :: rest))) : W p l e R s m args below meth c H locs 0 0 Q (F0 m pc ls (.ref (xq G 2 0) :: rest)) := x_get E hI mx_2_0 rfl rfl in_X6 4 (by decide) fl_X0_85 (fun _ h => h) rfl hdg kk
theorem gf_X0_85_3 (E : xE p s m args meth c cc nL rt RX0 G) (hI : xI G M L s.heap H locs) (hdg : decode cc pc = .ok (.getfield 85, 3)) (kk : W p l e R s m args below meth c H locs 0 0 Q (F0 m (pc + 3) ls (.ref (xq G 3 5) :: rest))) : W p l e R s m args below meth c H locs 0 0 Q (F0 m pc ls (.ref (xq G 3 0) :: rest)) := x_get E hI mx_3_0 rfl rfl in_X6 4 (by decide) fl_X0_85 (fun _ h => h) rfl hdg kk
theorem gf_X0_94_2 (E : xE p s m args meth c cc nL rt RX0 G) (hI : xI G M L s.heap H locs) (hdg : decode cc pc = .ok (.getfield 94, 3)) (kk : W p l e R s m args below meth c H locs 0 0 Q (F0 m (pc + 3) ls (.int (M 2 0 1) :: rest))) : W p l e R s m args below meth c H locs 0 0 Q (F0 m pc ls (.ref (xq G 2 0) :: rest)) := x_get E hI mx_2_0 rfl rfl in_X6 1 (by decide) fl_X0_94 (fun _ h => h) rfl hdg kk
theorem gf_X0_94_3 (E : xE p s m args meth c cc nL rt RX0 G) (hI : xI G M L s.heap H locs) (hdg : decode cc pc = .ok (.getfield 94, 3)) (kk : W p l e R s m args below meth c H locs 0 0 Q (F0 m (pc + 3) ls (.int (M 3 0 1) :: rest))) : W p l e R s m args below meth c H locs 0 0 Q (F0 m pc ls (.ref (xq G 3 0) :: rest)) := x_get E hI mx_3_0 rfl rfl in_X6 1 (by decide) fl_X0_94 (fun _ h => h) rfl hdg kk
theorem gf_X0_100_2 (E : xE p s m args meth c cc nL rt RX0 G) (hI : xI G M L s.heap H locs) (hdg : decode cc pc = .ok (.getfield 100, 3)) (kk : W p l e R s m args below meth c H locs 0 0 Q (F0 m (pc + 3) ls (.ref (xq G 2 7) :: rest))) : W p l e R s m args below meth c H locs 0 0 Q (F0 m pc ls (.ref (xq G 2 0) :: rest)) := x_get E hI mx_2_0 rfl rfl in_X6 6 (by decide) fl_X0_100 (fun _ h => h) rfl hdg kk
theorem gf_X0_100_3 (E : xE p s m args meth c cc nL rt RX0 G) (hI : xI G M L s.heap H locs) (hdg : decode cc pc = .ok (.getfield 100, 3)) (kk : W p l e R s m args below meth c H locs 0 0 Q (F0 m (pc + 3) ls (.ref (xq G 3 7) :: rest))) : W p l e R s m args below meth c H locs 0 0 Q (F0 m pc ls (.ref (xq G 3 0) :: rest)) := x_get E hI mx_3_0 rfl rfl in_X6 6 (by decide) fl_X0_100 (fun _ h => h) rfl hdg kk
theorem gf_X1_11 (E : xE p s m args meth c cc nL rt RX1 G) (hI : xI G M L s.heap H locs) (hdg : decode cc pc = .ok (.getfield 11, 3)) (kk : W p l e R s m args below meth c H locs 0 0 Q (F0 m (pc + 3) ls (.ref (xq G 6 2) :: rest))) : W p l e R s m args below meth c H locs 0 0 Q (F0 m pc ls (.ref (xq G 6 0) :: rest)) := x_get E hI mx_6_0 rfl rfl in_X1 1 (by decide) fl_X1_11 (fun _ h => h) rfl hdg kk
theorem gf_X1_15 (E : xE p s m args meth c cc nL rt RX1 G) (hI : xI G M L s.heap H locs) (hdg : decode cc pc = .ok (.getfield 15, 3)) (kk : W p l e R s m args below meth c H locs 0 0 Q (F0 m (pc + 3) ls (.ref (xq G (0 + 9) 0) :: rest))) : W p l e R s m args below meth c H locs 0 0 Q (F0 m pc ls (.ref (xq G 6 0) :: rest)) := x_get E hI mx_6_0 rfl rfl in_X1 0 (by decide) fl_X1_15 (fun _ h => h) rfl hdg kk
theorem gf_X2_11 (E : xE p s m args meth c cc nL rt RX2 G) (hI : xI G M L s.heap H locs) (hdg : decode cc pc = .ok (.getfield 11, 3)) (kk : W p l e R s m args below meth c H locs 0 0 Q (F0 m (pc + 3) ls (.ref (xq G 4 1) :: rest))) : W p l e R s m args below meth c H locs 0 0 Q (F0 m pc ls (.ref (xq G 4 0) :: rest)) := x_get E hI mx_4_0 rfl rfl in_X2 0 (by decide) fl_X2_11 (fun _ h => h) rfl hdg kk
theorem gf_X2_20 (E : xE p s m args meth c cc nL rt RX2 G) (hI : xI G M L s.heap H locs) (hdg : decode cc pc = .ok (.getfield 20, 3)) (kk : W p l e R s m args below meth c H locs 0 0 Q (F0 m (pc + 3) ls (.int (M 4 0 1) :: rest))) : W p l e R s m args below meth c H locs 0 0 Q (F0 m pc ls (.ref (xq G 4 0) :: rest)) := x_get E hI mx_4_0 rfl rfl in_X2 1 (by decide) fl_X2_20 (fun _ h => h) rfl hdg kk
theorem pf_X2_20 (E : xE p s m args meth c cc nL rt RX2 G) (hI : xI G M L s.heap H locs) {v : Int32} (hdg : decode cc pc = .ok (.putfield 20, 3)) {M1 : xMem} (hM : xsf M 4 1 v = M1) (kk : ∀ (H : Heap) (locs : List Loc), xI G M1 L s.heap H locs → W p l e R s m args below meth c H locs 0 0 Q (F0 m (pc + 3) ls rest)) : W p l e R s m args below meth c H locs 0 0 Q (F0 m pc ls (.int v :: .ref (xq G 4 0) :: rest)) := x_put E hI mx_4_0 rfl rfl in_X2 tyX2 tyX2_ok nmX2 1 (by decide) fl_X2_20 (fun _ h => h) rfl (ty := .int) (by decide +kernel) rfl rfl (Nat.le_of_ble_eq_true rfl) rfl hdg hM kk
theorem gf_X2_28 (E : xE p s m args meth c cc nL rt RX2 G) (hI : xI G M L s.heap H locs) (hdg : decode cc pc = .ok (.getfield 28, 3)) (kk : W p l e R s m args below meth c H locs 0 0 Q (F0 m (pc + 3) ls (.int (M 4 0 2) :: rest))) : W p l e R s m args below meth c H locs 0 0 Q (F0 m pc ls (.ref (xq G 4 0) :: rest)) := x_get E hI mx_4_0 rfl rfl in_X2 2 (by decide) fl_X2_28 (fun _ h => h) rfl hdg kk
theorem pf_X2_28 (E : xE p s m args meth c cc nL rt RX2 G) (hI : xI G M L s.heap H locs) {v : Int32} (hdg : decode cc pc = .ok (.putfield 28, 3)) {M1 : xMem} (hM : xsf M 4 2 v = M1) (kk : ∀ (H : Heap) (locs : List Loc), xI G M1 L s.heap H locs → W p l e R s m args below meth c H locs 0 0 Q (F0 m (pc + 3) ls rest)) : W p l e R s m args below meth c H locs 0 0 Q (F0 m pc ls (.int v :: .ref (xq G 4 0) :: rest)) := x_put E hI mx_4_0 rfl rfl in_X2 tyX2 tyX2_ok nmX2 2 (by decide) fl_X2_28 (fun _ h => h) rfl (ty := .int) (by decide +kernel) rfl rfl (Nat.le_of_ble_eq_true rfl) rfl hdg hM kk
theorem gf_X3_9 (E : xE p s m args meth c cc nL rt RX3 G) (hI : xI G M L s.heap H locs) (hdg : decode cc pc = .ok (.getfield 9, 3)) (kk : W p l e R s m args below meth c H locs 0 0 Q (F0 m (pc + 3) ls (.ref (xq G 1 1) :: rest))) : W p l e R s m args below meth c H locs 0 0 Q (F0 m pc ls (.ref (xq G 1 0) :: rest)) := x_get E hI mx_1_0 rfl rfl in_X3 0 (by decide) fl_X3_9 (fun _ h => h) rfl hdg kk
theorem gf_X3_18 (E : xE p s m args meth c cc nL rt RX3 G) (hI : xI G M L s.heap H locs) (hdg : decode cc pc = .ok (.getfield 18, 3)) (kk : W p l e R s m args below meth c H locs 0 0 Q (F0 m (pc + 3) ls (.ref (xq G 2 0) :: rest))) : W p l e R s m args below meth c H locs 0 0 Q (F0 m pc ls (.ref (xq G 1 0) :: rest)) := x_get E hI mx_1_0 rfl rfl in_X3 2 (by decide) fl_X3_18 (fun _ h => h) rfl hdg kk
theorem gf_X3_22_2 (E : xE p s m args meth c cc nL rt RX3 G) (hI : xI G M L s.heap H locs) (hdg : decode cc pc = .ok (.getfield 22, 3)) (kk : W p l e R s m args below meth c H locs 0 0 Q (F0 m (pc + 3) ls (.int (M 2 0 0) :: rest))) : W p l e R s m args below meth c H locs 0 0 Q (F0 m pc ls (.ref (xq G 2 0) :: rest)) := x_get E hI mx_2_0 rfl rfl in_X6 0 (by decide) fl_X3_22 (fun _ h => h) rfl hdg kk
theorem pf_X3_22_2 (E : xE p s m args meth c cc nL rt RX3 G) (hI : xI G M L s.heap H locs) {v : Int32} (hdg : decode cc pc = .ok (.putfield 22, 3)) {M1 : xMem} (hM : xsf M 2 0 v = M1) (kk : ∀ (H : Heap) (locs : List Loc), xI G M1 L s.heap H locs → W p l e R s m args below meth c H locs 0 0 Q (F0 m (pc + 3) ls rest)) : W p l e R s m args below meth c H locs 0 0 Q (F0 m pc ls (.int v :: .ref (xq G 2 0) :: rest)) := x_put E hI mx_2_0 rfl rfl in_X6 tyX6 tyX6_ok nmX6 0 (by decide) fl_X3_22 (fun _ h => h) rfl (ty := .int) (by decide +kernel) rfl rfl (Nat.le_of_ble_eq_true rfl) rfl hdg hM kk
theorem gf_X3_22_3 (E : xE p s m args meth c cc nL rt RX3 G) (hI : xI G M L s.heap H locs) (hdg : decode cc pc = .ok (.getfield 22, 3)) (kk : W p l e R s m args below meth c H locs 0 0 Q (F0 m (pc + 3) ls (.int (M 3 0 0) :: rest))) : W p l e R s m args below meth c H locs 0 0 Q (F0 m pc ls (.ref (xq G 3 0) :: rest)) := x_get E hI mx_3_0 rfl rfl in_X6 0 (by decide) fl_X3_22 (fun _ h => h) rfl hdg kk
theorem pf_X3_22_3 (E : xE p s m args meth c cc nL rt RX3 G) (hI : xI G M L s.heap H locs) {v : Int32} (hdg : decode cc pc = .ok (.putfield 22, 3)) {M1 : xMem} (hM : xsf M 3 0 v = M1) (kk : ∀ (H : Heap) (locs : List Loc), xI G M1 L s.heap H locs → W p l e R s m args below meth c H locs 0 0 Q (F0 m (pc + 3) ls rest)) : W p l e R s m args below meth c H locs 0 0 Q (F0 m pc ls (.int v :: .ref (xq G 3 0) :: rest)) := x_put E hI mx_3_0 rfl rfl in_X6 tyX6 tyX6_ok nmX6 0 (by decide) fl_X3_22 (fun _ h => h) rfl (ty := .int) (by decide +kernel) rfl rfl (Nat.le_of_ble_eq_true rfl) rfl hdg hM kk
theorem gf_X3_26_2 (E : xE p s m args meth c cc nL rt RX3 G) (hI : xI G M L s.heap H locs) (hdg : decode cc pc = .ok (.getfield 26, 3)) (kk : W p l e R s m args below meth c H locs 0 0 Q (F0 m (pc + 3) ls (.int (M 2 0 1) :: rest))) : W p l e R s m args below meth c H locs 0 0 Q (F0 m pc ls (.ref (xq G 2 0) :: rest)) := x_get E hI mx_2_0 rfl rfl in_X6 1 (by decide) fl_X3_26 (fun _ h => h) rfl hdg kk
theorem pf_X3_26_2 (E : xE p s m args meth c cc nL rt RX3 G) (hI : xI G M L s.heap H locs) {v : Int32} (hdg : decode cc pc = .ok (.putfield 26, 3)) {M1 : xMem} (hM : xsf M 2 1 v = M1) (kk : ∀ (H : Heap) (locs : List Loc), xI G M1 L s.heap H locs → W p l e R s m args below meth c H locs 0 0 Q (F0 m (pc + 3) ls rest)) : W p l e R s m args below meth c H locs 0 0 Q (F0 m pc ls (.int v :: .ref (xq G 2 0) :: rest)) := x_put E hI mx_2_0 rfl rfl in_X6 tyX6 tyX6_ok nmX6 1 (by decide) fl_X3_26 (fun _ h => h) rfl (ty := .int) (by decide +kernel) rfl rfl (Nat.le_of_ble_eq_true rfl) rfl hdg hM kk
theorem gf_X3_26_3 (E : xE p s m args meth c cc nL rt RX3 G) (hI : xI G M L s.heap H locs) (hdg : decode cc pc = .ok (.getfield 26, 3)) (kk : W p l e R s m args below meth c H locs 0 0 Q (F0 m (pc + 3) ls (.int (M 3 0 1) :: rest))) : W p l e R s m args below meth c H locs 0 0 Q (F0 m pc ls (.ref (xq G 3 0) :: rest)) := x_get E hI mx_3_0 rfl rfl in_X6 1 (by decide) fl_X3_26 (fun _ h => h) rfl hdg kk
theorem pf_X3_26_3 (E : xE p s m args meth c cc nL rt RX3 G) (hI : xI G M L s.heap H locs) {v : Int32} (hdg : decode cc pc = .ok (.putfield 26, 3)) {M1 : xMem} (hM : xsf M 3 1 v = M1) (kk : ∀ (H : Heap) (locs : List Loc), xI G M1 L s.heap H locs → W p l e R s m args below meth c H locs 0 0 Q (F0 m (pc + 3) ls rest)) : W p l e R s m args below meth c H locs 0 0 Q (F0 m pc ls (.int v :: .ref (xq G 3 0) :: rest)) := x_put E hI mx_3_0 rfl rfl in_X6 tyX6 tyX6_ok nmX6 1 (by decide) fl_X3_26 (fun _ h => h) rfl (ty := .int) (by decide +kernel) rfl rfl (Nat.le_of_ble_eq_true rfl) rfl hdg hM kk
theorem gf_X3_29 (E : xE p s m args meth c cc nL rt RX3 G) (hI : xI G M L s.heap H locs) (hdg : decode cc pc = .ok (.getfield 29, 3)) (kk : W p l e R s m args below meth c H locs 0 0 Q (F0 m (pc + 3) ls (.int (M 1 0 3) :: rest))) : W p l e R s m args below meth c H locs 0 0 Q (F0 m pc ls (.ref (xq G 1 0) :: rest)) := x_get E hI mx_1_0 rfl rfl in_X3 3 (by decide) fl_X3_29 (fun _ h => h) rfl hdg kk
theorem pf_X3_29 (E : xE p s m args meth c cc nL rt RX3 G) (hI : xI G M L s.heap H locs) {v : Int32} (hdg : decode cc pc = .ok (.putfield 29, 3)) {M1 : xMem} (hM : xsf M 1 3 v = M1) (kk : ∀ (H : Heap) (locs : List Loc), xI G M1 L s.heap H locs → W p l e R s m args below meth c H locs 0 0 Q (F0 m (pc + 3) ls rest)) : W p l e R s m args below meth c H locs 0 0 Q (F0 m pc ls (.int v :: .ref (xq G 1 0) :: rest)) := x_put E hI mx_1_0 rfl rfl in_X3 tyX3 tyX3_ok nmX3 3 (by decide) fl_X3_29 (fun _ h => h) rfl (ty := .int) (by decide +kernel) rfl rfl (Nat.le_of_ble_eq_true rfl) rfl hdg hM kk
theorem gf_X3_35 (E : xE p s m args meth c cc nL rt RX3 G) (hI : xI G M L s.heap H locs) (hdg : decode cc pc = .ok (.getfield 35, 3)) (kk : W p l e R s m args below meth c H locs 0 0 Q (F0 m (pc + 3) ls (.int (M 1 0 5) :: rest))) : W p l e R s m args below meth c H locs 0 0 Q (F0 m pc ls (.ref (xq G 1 0) :: rest)) := x_get E hI mx_1_0 rfl rfl in_X3 5 (by decide) fl_X3_35 (fun _ h => h) rfl hdg kk
theorem pf_X3_35 (E : xE p s m args meth c cc nL rt RX3 G) (hI : xI G M L s.heap H locs) {v : Int32} (hdg : decode cc pc = .ok (.putfield 35, 3)) {M1 : xMem} (hM : xsf M 1 5 v = M1) (kk : ∀ (H : Heap) (locs : List Loc), xI G M1 L s.heap H locs → W p l e R s m args below meth c H locs 0 0 Q (F0 m (pc + 3) ls rest)) : W p l e R s m args below meth c H locs 0 0 Q (F0 m pc ls (.int v :: .ref (xq G 1 0) :: rest)) := x_put E hI mx_1_0 rfl rfl in_X3 tyX3 tyX3_ok nmX3 5 (by decide) fl_X3_35 (fun _ h => h) rfl (ty := .int) (by decide +kernel) rfl rfl (Nat.le_of_ble_eq_true rfl) rfl hdg hM kk
theorem gf_X3_42 (E : xE p s m args meth c cc nL rt RX3 G) (hI : xI G M L s.heap H locs) (hdg : decode cc pc = .ok (.getfield 42, 3)) (kk : W p l e R s m args below meth c H locs 0 0 Q (F0 m (pc + 3) ls (.int (M 1 0 4) :: rest))) : W p l e R s m args below meth c H locs 0 0 Q (F0 m pc ls (.ref (xq G 1 0) :: rest)) := x_get E hI mx_1_0 rfl rfl in_X3 4 (by decide) fl_X3_42 (fun _ h => h) rfl hdg kk
theorem pf_X3_42 (E : xE p s m args meth c cc nL rt RX3 G) (hI : xI G M L s.heap H locs) {v : Int32} (hdg : decode cc pc = .ok (.putfield 42, 3)) {M1 : xMem} (hM : xsf M 1 4 v = M1) (kk : ∀ (H : Heap) (locs : List Loc), xI G M1 L s.heap H locs → W p l e R s m args below meth c H locs 0 0 Q (F0 m (pc + 3) ls rest)) : W p l e R s m args below meth c H locs 0 0 Q (F0 m pc ls (.int v :: .ref (xq G 1 0) :: rest)) := x_put E hI mx_1_0 rfl rfl in_X3 tyX3 tyX3_ok nmX3 4 (by decide) fl_X3_42 (fun _ h => h) rfl (ty := .int) (by decide +kernel) rfl rfl (Nat.le_of_ble_eq_true rfl) rfl hdg hM kk
theorem gf_X3_59_2 (E : xE p s m args meth c cc nL rt RX3 G) (hI : xI G M L s.heap H locs) (hdg : decode cc pc = .ok (.getfield 59, 3)) (kk : W p l e R s m args below meth c H locs 0 0 Q (F0 m (pc + 3) ls (.ref (xq G 2 3) :: rest))) : W p l e R s m args below meth c H locs 0 0 Q (F0 m pc ls (.ref (xq G 2 0) :: rest)) := x_get E hI mx_2_0 rfl rfl in_X6 2 (by decide) fl_X3_59 (fun _ h => h) rfl hdg kk
theorem gf_X3_59_3 (E : xE p s m args meth c cc nL rt RX3 G) (hI : xI G M L s.heap H locs) (hdg : decode cc pc = .ok (.getfield 59, 3)) (kk : W p l e R s m args below meth c H locs 0 0 Q (F0 m (pc + 3) ls (.ref (xq G 3 3) :: rest))) : W p l e R s m args below meth c H locs 0 0 Q (F0 m pc ls (.ref (xq G 3 0) :: rest)) := x_get E hI mx_3_0 rfl rfl in_X6 2 (by decide) fl_X3_59 (fun _ h => h) rfl hdg kk
theorem gf_X3_63 (E : xE p s m args meth c cc nL rt RX3 G) (hI : xI G M L s.heap H locs) (hdg : decode cc pc = .ok (.getfield 63, 3)) (kk : W p l e R s m args below meth c H locs 0 0 Q (F0 m (pc + 3) ls (.int (M 1 0 6) :: rest))) : W p l e R s m args below meth c H locs 0 0 Q (F0 m pc ls (.ref (xq G 1 0) :: rest)) := x_get E hI mx_1_0 rfl rfl in_X3 6 (by decide) fl_X3_63 (fun _ h => h) rfl hdg kk
theorem pf_X3_63 (E : xE p s m args meth c cc nL rt RX3 G) (hI : xI G M L s.heap H locs) {v : Int32} (hdg : decode cc pc = .ok (.putfield 63, 3)) {M1 : xMem} (hM : xsf M 1 6 v = M1) (kk : ∀ (H : Heap) (locs : List Loc), xI G M1 L s.heap H locs → W p l e R s m args below meth c H locs 0 0 Q (F0 m (pc + 3) ls rest)) : W p l e R s m args below meth c H locs 0 0 Q (F0 m pc ls (.int v :: .ref (xq G 1 0) :: rest)) := x_put E hI mx_1_0 rfl rfl in_X3 tyX3 tyX3_ok nmX3 6 (by decide) fl_X3_63 (fun _ h => h) rfl (ty := .int) (by decide +kernel) rfl rfl (Nat.le_of_ble_eq_true rfl) rfl hdg hM kk
theorem gf_X3_66_2 (E : xE p s m args meth c cc nL rt RX3 G) (hI : xI G M L s.heap H locs) (hdg : decode cc pc = .ok (.getfield 66, 3)) (kk : W p l e R s m args below meth c H locs 0 0 Q (F0 m (pc + 3) ls (.ref (xq G 2 4) :: rest))) : W p l e R s m args below meth c H locs 0 0 Q (F0 m pc ls (.ref (xq G 2 0) :: rest)) := x_get E hI mx_2_0 rfl rfl in_X6 3 (by decide) fl_X3_66 (fun _ h => h) rfl hdg kk
theorem gf_X3_66_3 (E : xE p s m args meth c cc nL rt RX3 G) (hI : xI G M L s.heap H locs) (hdg : decode cc pc = .ok (.getfield 66, 3)) (kk : W p l e R s m args below meth c H locs 0 0 Q (F0 m (pc + 3) ls (.ref (xq G 3 4) :: rest))) : W p l e R s m args below meth c H locs 0 0 Q (F0 m pc ls (.ref (xq G 3 0) :: rest)) := x_get E hI mx_3_0 rfl rfl in_X6 3 (by decide) fl_X3_66 (fun _ h => h) rfl hdg kk
theorem gf_X3_69_2 (E : xE p s m args meth c cc nL rt RX3 G) (hI : xI G M L s.heap H locs) (hdg : decode cc pc = .ok (.getfield 69, 3)) (kk : W p l e R s m args below meth c H locs 0 0 Q (F0 m (pc + 3) ls (.ref (xq G 2 5) :: rest))) : W p l e R s m args below meth c H locs 0 0 Q (F0 m pc ls (.ref (xq G 2 0) :: rest)) := x_get E hI mx_2_0 rfl rfl in_X6 4 (by decide) fl_X3_69 (fun _ h => h) rfl hdg kk
theorem gf_X3_69_3 (E : xE p s m args meth c cc nL rt RX3 G) (hI : xI G M L s.heap H locs) (hdg : decode cc pc = .ok (.getfield 69, 3)) (kk : W p l e R s m args below meth c H locs 0 0 Q (F0 m (pc + 3) ls (.ref (xq G 3 5) :: rest))) : W p l e R s m args below meth c H locs 0 0 Q (F0 m pc ls (.ref (xq G 3 0) :: rest)) := x_get E hI mx_3_0 rfl rfl in_X6 4 (by decide) fl_X3_69 (fun _ h => h) rfl hdg kk
theorem gf_X3_72_2 (E : xE p s m args meth c cc nL rt RX3 G) (hI : xI G M L s.heap H locs) (hdg : decode cc pc = .ok (.getfield 72, 3)) (kk : W p l e R s m args below meth c H locs 0 0 Q (F0 m (pc + 3) ls (.ref (xq G 2 6) :: rest))) : W p l e R s m args below meth c H locs 0 0 Q (F0 m pc ls (.ref (xq G 2 0) :: rest)) := x_get E hI mx_2_0 rfl rfl in_X6 5 (by decide) fl_X3_72 (fun _ h => h) rfl hdg kk
theorem gf_X3_72_3 (E : xE p s m args meth c cc nL rt RX3 G) (hI : xI G M L s.heap H locs) (hdg : decode cc pc = .ok (.getfield 72, 3)) (kk : W p l e R s m args below meth c H locs 0 0 Q (F0 m (pc + 3) ls (.ref (xq G 3 6) :: rest))) : W p l e R s m args below meth c H locs 0 0 Q (F0 m pc ls (.ref (xq G 3 0) :: rest)) := x_get E hI mx_3_0 rfl rfl in_X6 5 (by decide) fl_X3_72 (fun _ h => h) rfl hdg kk
theorem gf_X3_75_2 (E : xE p s m args meth c cc nL rt RX3 G) (hI : xI G M L s.heap H locs) (hdg : decode cc pc = .ok (.getfield 75, 3)) (kk : W p l e R s m args below meth c H locs 0 0 Q (F0 m (pc + 3) ls (.ref (xq G 2 7) :: rest))) : W p l e R s m args below meth c H locs 0 0 Q (F0 m pc ls (.ref (xq G 2 0) :: rest)) := x_get E hI mx_2_0 rfl rfl in_X6 6 (by decide) fl_X3_75 (fun _ h => h) rfl hdg kk
theorem gf_X3_75_3 (E : xE p s m args meth c cc nL rt RX3 G) (hI : xI G M L s.heap H locs) (hdg : decode cc pc = .ok (.getfield 75, 3)) (kk : W p l e R s m args below meth c H locs 0 0 Q (F0 m (pc + 3) ls (.ref (xq G 3 7) :: rest))) : W p l e R s m args below meth c H locs 0 0 Q (F0 m pc ls (.ref (xq G 3 0) :: rest)) := x_get E hI mx_3_0 rfl rfl in_X6 6 (by decide) fl_X3_75 (fun _ h => h) rfl hdg kk
theorem gf_X3_82 (E : xE p s m args meth c cc nL rt RX3 G) (hI : xI G M L s.heap H locs) (hdg : decode cc pc = .ok (.getfield 82, 3)) (kk : W p l e R s m args below meth c H locs 0 0 Q (F0 m (pc + 3) ls (.int (M 1 0 1) :: rest))) : W p l e R s m args below meth c H locs 0 0 Q (F0 m pc ls (.ref (xq G 1 0) :: rest)) := x_get E hI mx_1_0 rfl rfl in_X3 1 (by decide) fl_X3_82 (fun _ h => h) rfl hdg kk
theorem gf_X4_11 (E : xE p s m args meth c cc nL rt RX4 G) (hI : xI G M L s.heap H locs) (hdg : decode cc pc = .ok (.getfield 11, 3)) (kk : W p l e R s m args below meth c H locs 0 0 Q (F0 m (pc + 3) ls (.ref (xq G 5 2) :: rest))) : W p l e R s m args below meth c H locs 0 0 Q (F0 m pc ls (.ref (xq G 5 0) :: rest)) := x_get E hI mx_5_0 rfl rfl in_X4 1 (by decide) fl_X4_11 (fun _ h => h) rfl hdg kk
theorem gf_X4_17 (E : xE p s m args meth c cc nL rt RX4 G) (hI : xI G M L s.heap H locs) (hdg : decode cc pc = .ok (.getfield 17, 3)) (kk : W p l e R s m args below meth c H locs 0 0 Q (F0 m (pc + 3) ls (.ref (xq G 5 3) :: rest))) : W p l e R s m args below meth c H locs 0 0 Q (F0 m pc ls (.ref (xq G 5 0) :: rest)) := x_get E hI mx_5_0 rfl rfl in_X4 2 (by decide) fl_X4_17 (fun _ h => h) rfl hdg kk
theorem gf_X4_21 (E : xE p s m args meth c cc nL rt RX4 G) (hI : xI G M L s.heap H locs) (hdg : decode cc pc = .ok (.getfield 21, 3)) (kk : W p l e R s m args below meth c H locs 0 0 Q (F0 m (pc + 3) ls (.ref (xq G 5 4) :: rest))) : W p l e R s m args below meth c H locs 0 0 Q (F0 m pc ls (.ref (xq G 5 0) :: rest)) := x_get E hI mx_5_0 rfl rfl in_X4 3 (by decide) fl_X4_21 (fun _ h => h) rfl hdg kk
theorem gf_X4_24 (E : xE p s m args meth c cc nL rt RX4 G) (hI : xI G M L s.heap H locs) (hdg : decode cc pc = .ok (.getfield 24, 3)) (kk : W p l e R s m args below meth c H locs 0 0 Q (F0 m (pc + 3) ls (.ref (xq G 3 0) :: rest))) : W p l e R s m args below meth c H locs 0 0 Q (F0 m pc ls (.ref (xq G 5 0) :: rest)) := x_get E hI mx_5_0 rfl rfl in_X4 0 (by decide) fl_X4_24 (fun _ h => h) rfl hdg kk
theorem gf_X4_39 (E : xE p s m args meth c cc nL rt RX4 G) (hI : xI G M L s.heap H locs) (hdg : decode cc pc = .ok (.getfield 39, 3)) (kk : W p l e R s m args below meth c H locs 0 0 Q (F0 m (pc + 3) ls (.int (M 5 0 4) :: rest))) : W p l e R s m args below meth c H locs 0 0 Q (F0 m pc ls (.ref (xq G 5 0) :: rest)) := x_get E hI mx_5_0 rfl rfl in_X4 4 (by decide) fl_X4_39 (fun _ h => h) rfl hdg kk
theorem pf_X4_39 (E : xE p s m args meth c cc nL rt RX4 G) (hI : xI G M L s.heap H locs) {v : Int32} (hdg : decode cc pc = .ok (.putfield 39, 3)) {M1 : xMem} (hM : xsf M 5 4 v = M1) (kk : ∀ (H : Heap) (locs : List Loc), xI G M1 L s.heap H locs → W p l e R s m args below meth c H locs 0 0 Q (F0 m (pc + 3) ls rest)) : W p l e R s m args below meth c H locs 0 0 Q (F0 m pc ls (.int v :: .ref (xq G 5 0) :: rest)) := x_put E hI mx_5_0 rfl rfl in_X4 tyX4 tyX4_ok nmX4 4 (by decide) fl_X4_39 (fun _ h => h) rfl (ty := .int) (by decide +kernel) rfl rfl (Nat.le_of_ble_eq_true rfl) rfl hdg hM kk
theorem gf_X4_43 (E : xE p s m args meth c cc nL rt RX4 G) (hI : xI G M L s.heap H locs) (hdg : decode cc pc = .ok (.getfield 43, 3)) (kk : W p l e R s m args below meth c H locs 0 0 Q (F0 m (pc + 3) ls (.int (M 5 0 5) :: rest))) : W p l e R s m args below meth c H locs 0 0 Q (F0 m pc ls (.ref (xq G 5 0) :: rest)) := x_get E hI mx_5_0 rfl rfl in_X4 5 (by decide) fl_X4_43 (fun _ h => h) rfl hdg kk
theorem pf_X4_43 (E : xE p s m args meth c cc nL rt RX4 G) (hI : xI G M L s.heap H locs) {v : Int32} (hdg : decode cc pc = .ok (.putfield 43, 3)) {M1 : xMem} (hM : xsf M 5 5 v = M1) (kk : ∀ (H : Heap) (locs : List Loc), xI G M1 L s.heap H locs → W p l e R s m args below meth c H locs 0 0 Q (F0 m (pc + 3) ls rest)) : W p l e R s m args below meth c H locs 0 0 Q (F0 m pc ls (.int v :: .ref (xq G 5 0) :: rest)) := x_put E hI mx_5_0 rfl rfl in_X4 tyX4 tyX4_ok nmX4 5 (by decide) fl_X4_43 (fun _ h => h) rfl (ty := .int) (by decide +kernel) rfl rfl (Nat.le_of_ble_eq_true rfl) rfl hdg hM kk
theorem gf_X4_66_2 (E : xE p s m args meth c cc nL rt RX4 G) (hI : xI G M L s.heap H locs) (hdg : decode cc pc = .ok (.getfield 66, 3)) (kk : W p l e R s m args below meth c H locs 0 0 Q (F0 m (pc + 3) ls (.int (M 2 0 1) :: rest))) : W p l e R s m args below meth c H locs 0 0 Q (F0 m pc ls (.ref (xq G 2 0) :: rest)) := x_get E hI mx_2_0 rfl rfl in_X6 1 (by decide) fl_X4_66 (fun _ h => h) rfl hdg kk
theorem gf_X4_66_3 (E : xE p s m args meth c cc nL rt RX4 G) (hI : xI G M L s.heap H locs) (hdg : decode cc pc = .ok (.getfield 66, 3)) (kk : W p l e R s m args below meth c H locs 0 0 Q (F0 m (pc + 3) ls (.int (M 3 0 1) :: rest))) : W p l e R s m args below meth c H locs 0 0 Q (F0 m pc ls (.ref (xq G 3 0) :: rest)) := x_get E hI mx_3_0 rfl rfl in_X6 1 (by decide) fl_X4_66 (fun _ h => h) rfl hdg kk
theorem gf_X4_71 (E : xE p s m args meth c cc nL rt RX4 G) (hI : xI G M L s.heap H locs) {i : Nat} (hi : i < 21) (hdg : decode cc pc = .ok (.getfield 71, 3)) (kk : W p l e R s m args below meth c H locs 0 0 Q (F0 m (pc + 3) ls (.ref (xq G (i + 9) 2) :: rest))) : W p l e R s m args below meth c H locs 0 0 Q (F0 m pc ls (.ref (xq G (i + 9) 0) :: rest)) := x_get E hI (mf_0 hi) rfl rfl in_X0 1 (by decide) fl_X4_71 (fun _ h => h) rfl hdg kk
theorem gf_X4_81_2 (E : xE p s m args meth c cc nL rt RX4 G) (hI : xI G M L s.heap H locs) (hdg : decode cc pc = .ok (.getfield 81, 3)) (kk : W p l e R s m args below meth c H locs 0 0 Q (F0 m (pc + 3) ls (.int (M 2 0 0) :: rest))) : W p l e R s m args below meth c H locs 0 0 Q (F0 m pc ls (.ref (xq G 2 0) :: rest)) := x_get E hI mx_2_0 rfl rfl in_X6 0 (by decide) fl_X4_81 (fun _ h => h) rfl hdg kk
theorem gf_X4_81_3 (E : xE p s m args meth c cc nL rt RX4 G) (hI : xI G M L s.heap H locs) (hdg : decode cc pc = .ok (.getfield 81, 3)) (kk : W p l e R s m args below meth c H locs 0 0 Q (F0 m (pc + 3) ls (.int (M 3 0 0) :: rest))) : W p l e R s m args below meth c H locs 0 0 Q (F0 m pc ls (.ref (xq G 3 0) :: rest)) := x_get E hI mx_3_0 rfl rfl in_X6 0 (by decide) fl_X4_81 (fun _ h => h) rfl hdg kk
theorem gf_X4_93 (E : xE p s m args meth c cc nL rt RX4 G) (hI : xI G M L s.heap H locs) {i : Nat} (hi : i < 21) (hdg : decode cc pc = .ok (.getfield 93, 3)) (kk : W p l e R s m args below meth c H locs 0 0 Q (F0 m (pc + 3) ls (.ref (xq G (i + 9) 5) :: rest))) : W p l e R s m args below meth c H locs 0 0 Q (F0 m pc ls (.ref (xq G (i + 9) 0) :: rest)) := x_get E hI (mf_0 hi) rfl rfl in_X0 4 (by decide) fl_X4_93 (fun _ h => h) rfl hdg kk
theorem gf_X5_9 (E : xE p s m args meth c cc nL rt RX5 G) (hI : xI G M L s.heap H locs) (hdg : decode cc pc = .ok (.getfield 9, 3)) (kk : W p l e R s m args below meth c H locs 0 0 Q (F0 m (pc + 3) ls (.ref (xq G 7 2) :: rest))) : W p l e R s m args below meth c H locs 0 0 Q (F0 m pc ls (.ref (xq G 7 0) :: rest)) := x_get E hI mx_7_0 rfl rfl in_X5 1 (by decide) fl_X5_9 (fun _ h => h) rfl hdg kk
theorem gf_X5_15 (E : xE p s m args meth c cc nL rt RX5 G) (hI : xI G M L s.heap H locs) (hdg : decode cc pc = .ok (.getfield 15, 3)) (kk : W p l e R s m args below meth c H locs 0 0 Q (F0 m (pc + 3) ls (.ref (xq G 7 3) :: rest))) : W p l e R s m args below meth c H locs 0 0 Q (F0 m pc ls (.ref (xq G 7 0) :: rest)) := x_get E hI mx_7_0 rfl rfl in_X5 2 (by decide) fl_X5_15 (fun _ h => h) rfl hdg kk
theorem gf_X5_18 (E : xE p s m args meth c cc nL rt RX5 G) (hI : xI G M L s.heap H locs) (hdg : decode cc pc = .ok (.getfield 18, 3)) (kk : W p l e R s m args below meth c H locs 0 0 Q (F0 m (pc + 3) ls (.ref (xq G 7 5) :: rest))) : W p l e R s m args below meth c H locs 0 0 Q (F0 m pc ls (.ref (xq G 7 0) :: rest)) := x_get E hI mx_7_0 rfl rfl in_X5 4 (by decide) fl_X5_18 (fun _ h => h) rfl hdg kk
theorem gf_X5_21 (E : xE p s m args meth c cc nL rt RX5 G) (hI : xI G M L s.heap H locs) (hdg : decode cc pc = .ok (.getfield 21, 3)) (kk : W p l e R s m args below meth c H locs 0 0 Q (F0 m (pc + 3) ls (.ref (xq G 7 6) :: rest))) : W p l e R s m args below meth c H locs 0 0 Q (F0 m pc ls (.ref (xq G 7 0) :: rest)) := x_get E hI mx_7_0 rfl rfl in_X5 5 (by decide) fl_X5_21 (fun _ h => h) rfl hdg kk
theorem gf_X5_24 (E : xE p s m args meth c cc nL rt RX5 G) (hI : xI G M L s.heap H locs) (hdg : decode cc pc = .ok (.getfield 24, 3)) (kk : W p l e R s m args below meth c H locs 0 0 Q (F0 m (pc + 3) ls (.ref (xq G 7 8) :: rest))) : W p l e R s m args below meth c H locs 0 0 Q (F0 m pc ls (.ref (xq G 7 0) :: rest)) := x_get E hI mx_7_0 rfl rfl in_X5 7 (by decide) fl_X5_24 (fun _ h => h) rfl hdg kk
theorem gf_X5_27 (E : xE p s m args meth c cc nL rt RX5 G) (hI : xI G M L s.heap H locs) (hdg : decode cc pc = .ok (.getfield 27, 3)) (kk : W p l e R s m args below meth c H locs 0 0 Q (F0 m (pc + 3) ls (.ref (xq G 3 0) :: rest))) : W p l e R s m args below meth c H locs 0 0 Q (F0 m pc ls (.ref (xq G 7 0) :: rest)) := x_get E hI mx_7_0 rfl rfl in_X5 0 (by decide) fl_X5_27 (fun _ h => h) rfl hdg kk
theorem gf_X5_31 (E : xE p s m args meth c cc nL rt RX5 G) (hI : xI G M L s.heap H locs) (hdg : decode cc pc = .ok (.getfield 31, 3)) (kk : W p l e R s m args below meth c H locs 0 0 Q (F0 m (pc + 3) ls (.int (M 7 0 3) :: rest))) : W p l e R s m args below meth c H locs 0 0 Q (F0 m pc ls (.ref (xq G 7 0) :: rest)) := x_get E hI mx_7_0 rfl rfl in_X5 3 (by decide) fl_X5_31 (fun _ h => h) rfl hdg kk
theorem pf_X5_31 (E : xE p s m args meth c cc nL rt RX5 G) (hI : xI G M L s.heap H locs) {v : Int32} (hdg : decode cc pc = .ok (.putfield 31, 3)) {M1 : xMem} (hM : xsf M 7 3 v = M1) (kk : ∀ (H : Heap) (locs : List Loc), xI G M1 L s.heap H locs → W p l e R s m args below meth c H locs 0 0 Q (F0 m (pc + 3) ls rest)) : W p l e R s m args below meth c H locs 0 0 Q (F0 m pc ls (.int v :: .ref (xq G 7 0) :: rest)) := x_put E hI mx_7_0 rfl rfl in_X5 tyX5 tyX5_ok nmX5 3 (by decide) fl_X5_31 (fun _ h => h) rfl (ty := .int) (by decide +kernel) rfl rfl (Nat.le_of_ble_eq_true rfl) rfl hdg hM kk
theorem gf_X5_35 (E : xE p s m args meth c cc nL rt RX5 G) (hI : xI G M L s.heap H locs) (hdg : decode cc pc = .ok (.getfield 35, 3)) (kk : W p l e R s m args below meth c H locs 0 0 Q (F0 m (pc + 3) ls (.int (M 7 0 6) :: rest))) : W p l e R s m args below meth c H locs 0 0 Q (F0 m pc ls (.ref (xq G 7 0) :: rest)) := x_get E hI mx_7_0 rfl rfl in_X5 6 (by decide) fl_X5_35 (fun _ h => h) rfl hdg kk
theorem pf_X5_35 (E : xE p s m args meth c cc nL rt RX5 G) (hI : xI G M L s.heap H locs) {v : Int32} (hdg : decode cc pc = .ok (.putfield 35, 3)) {M1 : xMem} (hM : xsf M 7 6 v = M1) (kk : ∀ (H : Heap) (locs : List Loc), xI G M1 L s.heap H locs → W p l e R s m args below meth c H locs 0 0 Q (F0 m (pc + 3) ls rest)) : W p l e R s m args below meth c H locs 0 0 Q (F0 m pc ls (.int v :: .ref (xq G 7 0) :: rest)) := x_put E hI mx_7_0 rfl rfl in_X5 tyX5 tyX5_ok nmX5 6 (by decide) fl_X5_35 (fun _ h => h) rfl (ty := .int) (by decide +kernel) rfl rfl (Nat.le_of_ble_eq_true rfl) rfl hdg hM kk
theorem gf_X5_42_2 (E : xE p s m args meth c cc nL rt RX5 G) (hI : xI G M L s.heap H locs) (hdg : decode cc pc = .ok (.getfield 42, 3)) (kk : W p l e R s m args below meth c H locs 0 0 Q (F0 m (pc + 3) ls (.int (M 2 0 0) :: rest))) : W p l e R s m args below meth c H locs 0 0 Q (F0 m pc ls (.ref (xq G 2 0) :: rest)) := x_get E hI mx_2_0 rfl rfl in_X6 0 (by decide) fl_X5_42 (fun _ h => h) rfl hdg kk
theorem gf_X5_42_3 (E : xE p s m args meth c cc nL rt RX5 G) (hI : xI G M L s.heap H locs) (hdg : decode cc pc = .ok (.getfield 42, 3)) (kk : W p l e R s m args below meth c H locs 0 0 Q (F0 m (pc + 3) ls (.int (M 3 0 0) :: rest))) : W p l e R s m args below meth c H locs 0 0 Q (F0 m pc ls (.ref (xq G 3 0) :: rest)) := x_get E hI mx_3_0 rfl rfl in_X6 0 (by decide) fl_X5_42 (fun _ h => h) rfl hdg kk
theorem gf_X5_51_2 (E : xE p s m args meth c cc nL rt RX5 G) (hI : xI G M L s.heap H locs) (hdg : decode cc pc = .ok (.getfield 51, 3)) (kk : W p l e R s m args below meth c H locs 0 0 Q (F0 m (pc + 3) ls (.ref (xq G 2 3) :: rest))) : W p l e R s m args below meth c H locs 0 0 Q (F0 m pc ls (.ref (xq G 2 0) :: rest)) := x_get E hI mx_2_0 rfl rfl in_X6 2 (by decide) fl_X5_51 (fun _ h => h) rfl hdg kk
theorem gf_X5_51_3 (E : xE p s m args meth c cc nL rt RX5 G) (hI : xI G M L s.heap H locs) (hdg : decode cc pc = .ok (.getfield 51, 3)) (kk : W p l e R s m args below meth c H locs 0 0 Q (F0 m (pc + 3) ls (.ref (xq G 3 3) :: rest))) : W p l e R s m args below meth c H locs 0 0 Q (F0 m pc ls (.ref (xq G 3 0) :: rest)) := x_get E hI mx_3_0 rfl rfl in_X6 2 (by decide) fl_X5_51 (fun _ h => h) rfl hdg kk
theorem gf_X6_9_2 (E : xE p s m args meth c cc nL rt RX6 G) (hI : xI G M L s.heap H locs) (hdg : decode cc pc = .ok (.getfield 9, 3)) (kk : W p l e R s m args below meth c H locs 0 0 Q (F0 m (pc + 3) ls (.ref (xq G 2 3) :: rest))) : W p l e R s m args below meth c H locs 0 0 Q (F0 m pc ls (.ref (xq G 2 0) :: rest)) := x_get E hI mx_2_0 rfl rfl in_X6 2 (by decide) fl_X6_9 (fun _ h => h) rfl hdg kk
theorem gf_X6_9_3 (E : xE p s m args meth c cc nL rt RX6 G) (hI : xI G M L s.heap H locs) (hdg : decode cc pc = .ok (.getfield 9, 3)) (kk : W p l e R s m args below meth c H locs 0 0 Q (F0 m (pc + 3) ls (.ref (xq G 3 3) :: rest))) : W p l e R s m args below meth c H locs 0 0 Q (F0 m pc ls (.ref (xq G 3 0) :: rest)) := x_get E hI mx_3_0 rfl rfl in_X6 2 (by decide) fl_X6_9 (fun _ h => h) rfl hdg kk
theorem gf_X6_15_2 (E : xE p s m args meth c cc nL rt RX6 G) (hI : xI G M L s.heap H locs) (hdg : decode cc pc = .ok (.getfield 15, 3)) (kk : W p l e R s m args below meth c H locs 0 0 Q (F0 m (pc + 3) ls (.ref (xq G 2 4) :: rest))) : W p l e R s m args below meth c H locs 0 0 Q (F0 m pc ls (.ref (xq G 2 0) :: rest)) := x_get E hI mx_2_0 rfl rfl in_X6 3 (by decide) fl_X6_15 (fun _ h => h) rfl hdg kk
theorem gf_X6_15_3 (E : xE p s m args meth c cc nL rt RX6 G) (hI : xI G M L s.heap H locs) (hdg : decode cc pc = .ok (.getfield 15, 3)) (kk : W p l e R s m args below meth c H locs 0 0 Q (F0 m (pc + 3) ls (.ref (xq G 3 4) :: rest))) : W p l e R s m args below meth c H locs 0 0 Q (F0 m pc ls (.ref (xq G 3 0) :: rest)) := x_get E hI mx_3_0 rfl rfl in_X6 3 (by decide) fl_X6_15 (fun _ h => h) rfl hdg kk
theorem gf_X6_18_2 (E : xE p s m args meth c cc nL rt RX6 G) (hI : xI G M L s.heap H locs) (hdg : decode cc pc = .ok (.getfield 18, 3)) (kk : W p l e R s m args below meth c H locs 0 0 Q (F0 m (pc + 3) ls (.ref (xq G 2 5) :: rest))) : W p l e R s m args below meth c H locs 0 0 Q (F0 m pc ls (.ref (xq G 2 0) :: rest)) := x_get E hI mx_2_0 rfl rfl in_X6 4 (by decide) fl_X6_18 (fun _ h => h) rfl hdg kk
theorem gf_X6_18_3 (E : xE p s m args meth c cc nL rt RX6 G) (hI : xI G M L s.heap H locs) (hdg : decode cc pc = .ok (.getfield 18, 3)) (kk : W p l e R s m args below meth c H locs 0 0 Q (F0 m (pc + 3) ls (.ref (xq G 3 5) :: rest))) : W p l e R s m args below meth c H locs 0 0 Q (F0 m pc ls (.ref (xq G 3 0) :: rest)) := x_get E hI mx_3_0 rfl rfl in_X6 4 (by decide) fl_X6_18 (fun _ h => h) rfl hdg kk
theorem gf_X6_21_2 (E : xE p s m args meth c cc nL rt RX6 G) (hI : xI G M L s.heap H locs) (hdg : decode cc pc = .ok (.getfield 21, 3)) (kk : W p l e R s m args below meth c H locs 0 0 Q (F0 m (pc + 3) ls (.ref (xq G 2 6) :: rest))) : W p l e R s m args below meth c H locs 0 0 Q (F0 m pc ls (.ref (xq G 2 0) :: rest)) := x_get E hI mx_2_0 rfl rfl in_X6 5 (by decide) fl_X6_21 (fun _ h => h) rfl hdg kk
theorem gf_X6_21_3 (E : xE p s m args meth c cc nL rt RX6 G) (hI : xI G M L s.heap H locs) (hdg : decode cc pc = .ok (.getfield 21, 3)) (kk : W p l e R s m args below meth c H locs 0 0 Q (F0 m (pc + 3) ls (.ref (xq G 3 6) :: rest))) : W p l e R s m args below meth c H locs 0 0 Q (F0 m pc ls (.ref (xq G 3 0) :: rest)) := x_get E hI mx_3_0 rfl rfl in_X6 5 (by decide) fl_X6_21 (fun _ h => h) rfl hdg kk
theorem gf_X6_24_2 (E : xE p s m args meth c cc nL rt RX6 G) (hI : xI G M L s.heap H locs) (hdg : decode cc pc = .ok (.getfield 24, 3)) (kk : W p l e R s m args below meth c H locs 0 0 Q (F0 m (pc + 3) ls (.ref (xq G 2 7) :: rest))) : W p l e R s m args below meth c H locs 0 0 Q (F0 m pc ls (.ref (xq G 2 0) :: rest)) := x_get E hI mx_2_0 rfl rfl in_X6 6 (by decide) fl_X6_24 (fun _ h => h) rfl hdg kk
theorem gf_X6_24_3 (E : xE p s m args meth c cc nL rt RX6 G) (hI : xI G M L s.heap H locs) (hdg : decode cc pc = .ok (.getfield 24, 3)) (kk : W p l e R s m args below meth c H locs 0 0 Q (F0 m (pc + 3) ls (.ref (xq G 3 7) :: rest))) : W p l e R s m args below meth c H locs 0 0 Q (F0 m pc ls (.ref (xq G 3 0) :: rest)) := x_get E hI mx_3_0 rfl rfl in_X6 6 (by decide) fl_X6_24 (fun _ h => h) rfl hdg kk
theorem gf_X6_27_2 (E : xE p s m args meth c cc nL rt RX6 G) (hI : xI G M L s.heap H locs) (hdg : decode cc pc = .ok (.getfield 27, 3)) (kk : W p l e R s m args below meth c H locs 0 0 Q (F0 m (pc + 3) ls (.int (M 2 0 0) :: rest))) : W p l e R s m args below meth c H locs 0 0 Q (F0 m pc ls (.ref (xq G 2 0) :: rest)) := x_get E hI mx_2_0 rfl rfl in_X6 0 (by decide) fl_X6_27 (fun _ h => h) rfl hdg kk
theorem pf_X6_27_2 (E : xE p s m args meth c cc nL rt RX6 G) (hI : xI G M L s.heap H locs) {v : Int32} (hdg : decode cc pc = .ok (.putfield 27, 3)) {M1 : xMem} (hM : xsf M 2 0 v = M1) (kk : ∀ (H : Heap) (locs : List Loc), xI G M1 L s.heap H locs → W p l e R s m args below meth c H locs 0 0 Q (F0 m (pc + 3) ls rest)) : W p l e R s m args below meth c H locs 0 0 Q (F0 m pc ls (.int v :: .ref (xq G 2 0) :: rest)) := x_put E hI mx_2_0 rfl rfl in_X6 tyX6 tyX6_ok nmX6 0 (by decide) fl_X6_27 (fun _ h => h) rfl (ty := .int) (by decide +kernel) rfl rfl (Nat.le_of_ble_eq_true rfl) rfl hdg hM kk
theorem gf_X6_27_3 (E : xE p s m args meth c cc nL rt RX6 G) (hI : xI G M L s.heap H locs) (hdg : decode cc pc = .ok (.getfield 27, 3)) (kk : W p l e R s m args below meth c H locs 0 0 Q (F0 m (pc + 3) ls (.int (M 3 0 0) :: rest))) : W p l e R s m args below meth c H locs 0 0 Q (F0 m pc ls (.ref (xq G 3 0) :: rest)) := x_get E hI mx_3_0 rfl rfl in_X6 0 (by decide) fl_X6_27 (fun _ h => h) rfl hdg kk
theorem pf_X6_27_3 (E : xE p s m args meth c cc nL rt RX6 G) (hI : xI G M L s.heap H locs) {v : Int32} (hdg : decode cc pc = .ok (.putfield 27, 3)) {M1 : xMem} (hM : xsf M 3 0 v = M1) (kk : ∀ (H : Heap) (locs : List Loc), xI G M1 L s.heap H locs → W p l e R s m args below meth c H locs 0 0 Q (F0 m (pc + 3) ls rest)) : W p l e R s m args below meth c H locs 0 0 Q (F0 m pc ls (.int v :: .ref (xq G 3 0) :: rest)) := x_put E hI mx_3_0 rfl rfl in_X6 tyX6 tyX6_ok nmX6 0 (by decide) fl_X6_27 (fun _ h => h) rfl (ty := .int) (by decide +kernel) rfl rfl (Nat.le_of_ble_eq_true rfl) rfl hdg hM kk
theorem gf_X6_31_2 (E : xE p s m args meth c cc nL rt RX6 G) (hI : xI G M L s.heap H locs) (hdg : decode cc pc = .ok (.getfield 31, 3)) (kk : W p l e R s m args below meth c H locs 0 0 Q (F0 m (pc + 3) ls (.int (M 2 0 1) :: rest))) : W p l e R s m args below meth c H locs 0 0 Q (F0 m pc ls (.ref (xq G 2 0) :: rest)) := x_get E hI mx_2_0 rfl rfl in_X6 1 (by decide) fl_X6_31 (fun _ h => h) rfl hdg kk
theorem pf_X6_31_2 (E : xE p s m args meth c cc nL rt RX6 G) (hI : xI G M L s.heap H locs) {v : Int32} (hdg : decode cc pc = .ok (.putfield 31, 3)) {M1 : xMem} (hM : xsf M 2 1 v = M1) (kk : ∀ (H : Heap) (locs : List Loc), xI G M1 L s.heap H locs → W p l e R s m args below meth c H locs 0 0 Q (F0 m (pc + 3) ls rest)) : W p l e R s m args below meth c H locs 0 0 Q (F0 m pc ls (.int v :: .ref (xq G 2 0) :: rest)) := x_put E hI mx_2_0 rfl rfl in_X6 tyX6 tyX6_ok nmX6 1 (by decide) fl_X6_31 (fun _ h => h) rfl (ty := .int) (by decide +kernel) rfl rfl (Nat.le_of_ble_eq_true rfl) rfl hdg hM kk
theorem gf_X6_31_3 (E : xE p s m args meth c cc nL rt RX6 G) (hI : xI G M L s.heap H locs) (hdg : decode cc pc = .ok (.getfield 31, 3)) (kk : W p l e R s m args below meth c H locs 0 0 Q (F0 m (pc + 3) ls (.int (M 3 0 1) :: rest))) : W p l e R s m args below meth c H locs 0 0 Q (F0 m pc ls (.ref (xq G 3 0) :: rest)) := x_get E hI mx_3_0 rfl rfl in_X6 1 (by decide) fl_X6_31 (fun _ h => h) rfl hdg kk
theorem pf_X6_31_3 (E : xE p s m args meth c cc nL rt RX6 G) (hI : xI G M L s.heap H locs) {v : Int32} (hdg : decode cc pc = .ok (.putfield 31, 3)) {M1 : xMem} (hM : xsf M 3 1 v = M1) (kk : ∀ (H : Heap) (locs : List Loc), xI G M1 L s.heap H locs → W p l e R s m args below meth c H locs 0 0 Q (F0 m (pc + 3) ls rest)) : W p l e R s m args below meth c H locs 0 0 Q (F0 m pc ls (.int v :: .ref (xq G 3 0) :: rest)) := x_put E hI mx_3_0 rfl rfl in_X6 tyX6 tyX6_ok nmX6 1 (by decide) fl_X6_31 (fun _ h => h) rfl (ty := .int) (by decide +kernel) rfl rfl (Nat.le_of_ble_eq_true rfl) rfl hdg hM kk
theorem gf_X7_10 (E : xE p s m args meth c cc nL rt RX7 G) (hI : xI G M L s.heap H locs) (hdg : decode cc pc = .ok (.getfield 10, 3)) (kk : W p l e R s m args below meth c H locs 0 0 Q (F0 m (pc + 3) ls (.ref (xq G 1 0) :: rest))) : W p l e R s m args below meth c H locs 0 0 Q (F0 m pc ls (.ref (xq G 0 0) :: rest)) := x_get E hI mx_0_0 rfl rfl in_X7 0 (by decide) fl_X7_10 (fun _ h => h) rfl hdg kk
theorem gf_X7_19 (E : xE p s m args meth c cc nL rt RX7 G) (hI : xI G M L s.heap H locs) (hdg : decode cc pc = .ok (.getfield 19, 3)) (kk : W p l e R s m args below meth c H locs 0 0 Q (F0 m (pc + 3) ls (.ref (xq G 3 0) :: rest))) : W p l e R s m args below meth c H locs 0 0 Q (F0 m pc ls (.ref (xq G 0 0) :: rest)) := x_get E hI mx_0_0 rfl rfl in_X7 1 (by decide) fl_X7_19 (fun _ h => h) rfl hdg kk
theorem gf_X7_28 (E : xE p s m args meth c cc nL rt RX7 G) (hI : xI G M L s.heap H locs) (hdg : decode cc pc = .ok (.getfield 28, 3)) (kk : W p l e R s m args below meth c H locs 0 0 Q (F0 m (pc + 3) ls (.ref (xq G (0 + 9) 0) :: rest))) : W p l e R s m args below meth c H locs 0 0 Q (F0 m pc ls (.ref (xq G 0 0) :: rest)) := x_get E hI mx_0_0 rfl rfl in_X7 2 (by decide) fl_X7_28 (fun _ h => h) rfl hdg kk
theorem gf_X7_32 (E : xE p s m args meth c cc nL rt RX7 G) (hI : xI G M L s.heap H locs) (hdg : decode cc pc = .ok (.getfield 32, 3)) (kk : W p l e R s m args below meth c H locs 0 0 Q (F0 m (pc + 3) ls (.ref (xq G (1 + 9) 0) :: rest))) : W p l e R s m args below meth c H locs 0 0 Q (F0 m pc ls (.ref (xq G 0 0) :: rest)) := x_get E hI mx_0_0 rfl rfl in_X7 3 (by decide) fl_X7_32 (fun _ h => h) rfl hdg kk
theorem gf_X7_38 (E : xE p s m args meth c cc nL rt RX7 G) (hI : xI G M L s.heap H locs) (hdg : decode cc pc = .ok (.getfield 38, 3)) (kk : W p l e R s m args below meth c H locs 0 0 Q (F0 m (pc + 3) ls (.ref (xq G 4 0) :: rest))) : W p l e R s m args below meth c H locs 0 0 Q (F0 m pc ls (.ref (xq G 0 0) :: rest)) := x_get E hI mx_0_0 rfl rfl in_X7 4 (by decide) fl_X7_38 (fun _ h => h) rfl hdg kk
theorem gf_X7_42 (E : xE p s m args meth c cc nL rt RX7 G) (hI : xI G M L s.heap H locs) (hdg : decode cc pc = .ok (.getfield 42, 3)) (kk : W p l e R s m args below meth c H locs 0 0 Q (F0 m (pc + 3) ls (.ref (xq G 0 6) :: rest))) : W p l e R s m args below meth c H locs 0 0 Q (F0 m pc ls (.ref (xq G 0 0) :: rest)) := x_get E hI mx_0_0 rfl rfl in_X7 5 (by decide) fl_X7_42 (fun _ h => h) rfl hdg kk
theorem gf_X7_46 (E : xE p s m args meth c cc nL rt RX7 G) (hI : xI G M L s.heap H locs) (hdg : decode cc pc = .ok (.getfield 46, 3)) (kk : W p l e R s m args below meth c H locs 0 0 Q (F0 m (pc + 3) ls (.ref (xq G 0 7) :: rest))) : W p l e R s m args below meth c H locs 0 0 Q (F0 m pc ls (.ref (xq G 0 0) :: rest)) := x_get E hI mx_0_0 rfl rfl in_X7 6 (by decide) fl_X7_46 (fun _ h => h) rfl hdg kk
theorem gf_X7_53 (E : xE p s m args meth c cc nL rt RX7 G) (hI : xI G M L s.heap H locs) (hdg : decode cc pc = .ok (.getfield 53, 3)) (kk : W p l e R s m args below meth c H locs 0 0 Q (F0 m (pc + 3) ls (.ref (xq G 5 0) :: rest))) : W p l e R s m args below meth c H locs 0 0 Q (F0 m pc ls (.ref (xq G 0 0) :: rest)) := x_get E hI mx_0_0 rfl rfl in_X7 7 (by decide) fl_X7_53 (fun _ h => h) rfl hdg kk
theorem gf_X7_62 (E : xE p s m args meth c cc nL rt RX7 G) (hI : xI G M L s.heap H locs) (hdg : decode cc pc = .ok (.getfield 62, 3)) (kk : W p l e R s m args below meth c H locs 0 0 Q (F0 m (pc + 3) ls (.ref (xq G 6 0) :: rest))) : W p l e R s m args below meth c H locs 0 0 Q (F0 m pc ls (.ref (xq G 0 0) :: rest)) := x_get E hI mx_0_0 rfl rfl in_X7 8 (by decide) fl_X7_62 (fun _ h => h) rfl hdg kk
theorem gf_X7_69 (E : xE p s m args meth c cc nL rt RX7 G) (hI : xI G M L s.heap H locs) (hdg : decode cc pc = .ok (.getfield 69, 3)) (kk : W p l e R s m args below meth c H locs 0 0 Q (F0 m (pc + 3) ls (.ref (xq G 7 0) :: rest))) : W p l e R s m args below meth c H locs 0 0 Q (F0 m pc ls (.ref (xq G 0 0) :: rest)) := x_get E hI mx_0_0 rfl rfl in_X7 9 (by decide) fl_X7_69 (fun _ h => h) rfl hdg kk
theorem gf_X7_77 (E : xE p s m args meth c cc nL rt RX7 G) (hI : xI G M L s.heap H locs) (hdg : decode cc pc = .ok (.getfield 77, 3)) (kk : W p l e R s m args below meth c H locs 0 0 Q (F0 m (pc + 3) ls (.int (M 1 0 1) :: rest))) : W p l e R s m args below meth c H locs 0 0 Q (F0 m pc ls (.ref (xq G 1 0) :: rest)) := x_get E hI mx_1_0 rfl rfl in_X3 1 (by decide) fl_X7_77 (fun _ h => h) rfl hdg kk
theorem pf_X7_77 (E : xE p s m args meth c cc nL rt RX7 G) (hI : xI G M L s.heap H locs) {v : Int32} (hdg : decode cc pc = .ok (.putfield 77, 3)) {M1 : xMem} (hM : xsf M 1 1 v = M1) (kk : ∀ (H : Heap) (locs : List Loc), xI G M1 L s.heap H locs → W p l e R s m args below meth c H locs 0 0 Q (F0 m (pc + 3) ls rest)) : W p l e R s m args below meth c H locs 0 0 Q (F0 m pc ls (.int v :: .ref (xq G 1 0) :: rest)) := x_put E hI mx_1_0 rfl rfl in_X3 tyX3 tyX3_ok nmX3 1 (by decide) fl_X7_77 (fun _ h => h) rfl (ty := .int) (by decide +kernel) rfl rfl (Nat.le_of_ble_eq_true rfl) rfl hdg hM kk
theorem gf_X7_81 (E : xE p s m args meth c cc nL rt RX7 G) (hI : xI G M L s.heap H locs) (hdg : decode cc pc = .ok (.getfield 81, 3)) (kk : W p l e R s m args below meth c H locs 0 0 Q (F0 m (pc + 3) ls (.ref (xq G 1 1) :: rest))) : W p l e R s m args below meth c H locs 0 0 Q (F0 m pc ls (.ref (xq G 1 0) :: rest)) := x_get E hI mx_1_0 rfl rfl in_X3 0 (by decide) fl_X7_81 (fun _ h => h) rfl hdg kk
theorem gf_X7_89 (E : xE p s m args meth c cc nL rt RX7 G) (hI : xI G M L s.heap H locs) (hdg : decode cc pc = .ok (.getfield 89, 3)) (kk : W p l e R s m args below meth c H locs 0 0 Q (F0 m (pc + 3) ls (.ref (xq G 2 0) :: rest))) : W p l e R s m args below meth c H locs 0 0 Q (F0 m pc ls (.ref (xq G 1 0) :: rest)) := x_get E hI mx_1_0 rfl rfl in_X3 2 (by decide) fl_X7_89 (fun _ h => h) rfl hdg kk
theorem gf_X7_98 (E : xE p s m args meth c cc nL rt RX7 G) (hI : xI G M L s.heap H locs) (hdg : decode cc pc = .ok (.getfield 98, 3)) (kk : W p l e R s m args below meth c H locs 0 0 Q (F0 m (pc + 3) ls (.int (M 4 0 2) :: rest))) : W p l e R s m args below meth c H locs 0 0 Q (F0 m pc ls (.ref (xq G 4 0) :: rest)) := x_get E hI mx_4_0 rfl rfl in_X2 2 (by decide) fl_X7_98 (fun _ h => h) rfl hdg kk
theorem pf_X7_98 (E : xE p s m args meth c cc nL rt RX7 G) (hI : xI G M L s.heap H locs) {v : Int32} (hdg : decode cc pc = .ok (.putfield 98, 3)) {M1 : xMem} (hM : xsf M 4 2 v = M1) (kk : ∀ (H : Heap) (locs : List Loc), xI G M1 L s.heap H locs → W p l e R s m args below meth c H locs 0 0 Q (F0 m (pc + 3) ls rest)) : W p l e R s m args below meth c H locs 0 0 Q (F0 m pc ls (.int v :: .ref (xq G 4 0) :: rest)) := x_put E hI mx_4_0 rfl rfl in_X2 tyX2 tyX2_ok nmX2 2 (by decide) fl_X7_98 (fun _ h => h) rfl (ty := .int) (by decide +kernel) rfl rfl (Nat.le_of_ble_eq_true rfl) rfl hdg hM kk
theorem gf_X7_101 (E : xE p s m args meth c cc nL rt RX7 G) (hI : xI G M L s.heap H locs) (hdg : decode cc pc = .ok (.getfield 101, 3)) (kk : W p l e R s m args below meth c H locs 0 0 Q (F0 m (pc + 3) ls (.int (M 7 0 3) :: rest))) : W p l e R s m args below meth c H locs 0 0 Q (F0 m pc ls (.ref (xq G 7 0) :: rest)) := x_get E hI mx_7_0 rfl rfl in_X5 3 (by decide) fl_X7_101 (fun _ h => h) rfl hdg kk
theorem pf_X7_101 (E : xE p s m args meth c cc nL rt RX7 G) (hI : xI G M L s.heap H locs) {v : Int32} (hdg : decode cc pc = .ok (.putfield 101, 3)) {M1 : xMem} (hM : xsf M 7 3 v = M1) (kk : ∀ (H : Heap) (locs : List Loc), xI G M1 L s.heap H locs → W p l e R s m args below meth c H locs 0 0 Q (F0 m (pc + 3) ls rest)) : W p l e R s m args below meth c H locs 0 0 Q (F0 m pc ls (.int v :: .ref (xq G 7 0) :: rest)) := x_put E hI mx_7_0 rfl rfl in_X5 tyX5 tyX5_ok nmX5 3 (by decide) fl_X7_101 (fun _ h => h) rfl (ty := .int) (by decide +kernel) rfl rfl (Nat.le_of_ble_eq_true rfl) rfl hdg hM kk
theorem gf_X7_108 (E : xE p s m args meth c cc nL rt RX7 G) (hI : xI G M L s.heap H locs) {i : Nat} (hi : i < 21) (hdg : decode cc pc = .ok (.getfield 108, 3)) (kk : W p l e R s m args below meth c H locs 0 0 Q (F0 m (pc + 3) ls (.ref (xq G (i + 9) 4) :: rest))) : W p l e R s m args below meth c H locs 0 0 Q (F0 m pc ls (.ref (xq G (i + 9) 0) :: rest)) := x_get E hI (mf_0 hi) rfl rfl in_X0 3 (by decide) fl_X7_108 (fun _ h => h) rfl hdg kk
theorem gf_X7_112_2 (E : xE p s m args meth c cc nL rt RX7 G) (hI : xI G M L s.heap H locs) (hdg : decode cc pc = .ok (.getfield 112, 3)) (kk : W p l e R s m args below meth c H locs 0 0 Q (F0 m (pc + 3) ls (.ref (xq G 2 4) :: rest))) : W p l e R s m args below meth c H locs 0 0 Q (F0 m pc ls (.ref (xq G 2 0) :: rest)) := x_get E hI mx_2_0 rfl rfl in_X6 3 (by decide) fl_X7_112 (fun _ h => h) rfl hdg kk
theorem gf_X7_112_3 (E : xE p s m args meth c cc nL rt RX7 G) (hI : xI G M L s.heap H locs) (hdg : decode cc pc = .ok (.getfield 112, 3)) (kk : W p l e R s m args below meth c H locs 0 0 Q (F0 m (pc + 3) ls (.ref (xq G 3 4) :: rest))) : W p l e R s m args below meth c H locs 0 0 Q (F0 m pc ls (.ref (xq G 3 0) :: rest)) := x_get E hI mx_3_0 rfl rfl in_X6 3 (by decide) fl_X7_112 (fun _ h => h) rfl hdg kk
theorem gf_X7_115_2 (E : xE p s m args meth c cc nL rt RX7 G) (hI : xI G M L s.heap H locs) (hdg : decode cc pc = .ok (.getfield 115, 3)) (kk : W p l e R s m args below meth c H locs 0 0 Q (F0 m (pc + 3) ls (.ref (xq G 2 5) :: rest))) : W p l e R s m args below meth c H locs 0 0 Q (F0 m pc ls (.ref (xq G 2 0) :: rest)) := x_get E hI mx_2_0 rfl rfl in_X6 4 (by decide) fl_X7_115 (fun _ h => h) rfl hdg kk
theorem gf_X7_115_3 (E : xE p s m args meth c cc nL rt RX7 G) (hI : xI G M L s.heap H locs) (hdg : decode cc pc = .ok (.getfield 115, 3)) (kk : W p l e R s m args below meth c H locs 0 0 Q (F0 m (pc + 3) ls (.ref (xq G 3 5) :: rest))) : W p l e R s m args below meth c H locs 0 0 Q (F0 m pc ls (.ref (xq G 3 0) :: rest)) := x_get E hI mx_3_0 rfl rfl in_X6 4 (by decide) fl_X7_115 (fun _ h => h) rfl hdg kk
theorem gf_X7_118 (E : xE p s m args meth c cc nL rt RX7 G) (hI : xI G M L s.heap H locs) {i : Nat} (hi : i < 21) (hdg : decode cc pc = .ok (.getfield 118, 3)) (kk : W p l e R s m args below meth c H locs 0 0 Q (F0 m (pc + 3) ls (.ref (xq G (i + 9) 6) :: rest))) : W p l e R s m args below meth c H locs 0 0 Q (F0 m pc ls (.ref (xq G (i + 9) 0) :: rest)) := x_get E hI (mf_0 hi) rfl rfl in_X0 5 (by decide) fl_X7_118 (fun _ h => h) rfl hdg kk
theorem gf_X7_131 (E : xE p s m args meth c cc nL rt RX7 G) (hI : xI G M L s.heap H locs) {i : Nat} (hi : i < 21) (hdg : decode cc pc = .ok (.getfield 131, 3)) (kk : W p l e R s m args below meth c H locs 0 0 Q (F0 m (pc + 3) ls (.ref (xq G (i + 9) 3) :: rest))) : W p l e R s m args below meth c H locs 0 0 Q (F0 m pc ls (.ref (xq G (i + 9) 0) :: rest)) := x_get E hI (mf_0 hi) rfl rfl in_X0 2 (by decide) fl_X7_131 (fun _ h => h) rfl hdg kk
theorem gf_X7_134_2 (E : xE p s m args meth c cc nL rt RX7 G) (hI : xI G M L s.heap H locs) (hdg : decode cc pc = .ok (.getfield 134, 3)) (kk : W p l e R s m args below meth c H locs 0 0 Q (F0 m (pc + 3) ls (.ref (xq G 2 7) :: rest))) : W p l e R s m args below meth c H locs 0 0 Q (F0 m pc ls (.ref (xq G 2 0) :: rest)) := x_get E hI mx_2_0 rfl rfl in_X6 6 (by decide) fl_X7_134 (fun _ h => h) rfl hdg kk
theorem gf_X7_134_3 (E : xE p s m args meth c cc nL rt RX7 G) (hI : xI G M L s.heap H locs) (hdg : decode cc pc = .ok (.getfield 134, 3)) (kk : W p l e R s m args below meth c H locs 0 0 Q (F0 m (pc + 3) ls (.ref (xq G 3 7) :: rest))) : W p l e R s m args below meth c H locs 0 0 Q (F0 m pc ls (.ref (xq G 3 0) :: rest)) := x_get E hI mx_3_0 rfl rfl in_X6 6 (by decide) fl_X7_134 (fun _ h => h) rfl hdg kk
theorem gf_X7_137 (E : xE p s m args meth c cc nL rt RX7 G) (hI : xI G M L s.heap H locs) {i : Nat} (hi : i < 21) (hdg : decode cc pc = .ok (.getfield 137, 3)) (kk : W p l e R s m args below meth c H locs 0 0 Q (F0 m (pc + 3) ls (.ref (xq G (i + 9) 2) :: rest))) : W p l e R s m args below meth c H locs 0 0 Q (F0 m pc ls (.ref (xq G (i + 9) 0) :: rest)) := x_get E hI (mf_0 hi) rfl rfl in_X0 1 (by decide) fl_X7_137 (fun _ h => h) rfl hdg kk
theorem gf_X7_162_2 (E : xE p s m args meth c cc nL rt RX7 G) (hI : xI G M L s.heap H locs) (hdg : decode cc pc = .ok (.getfield 162, 3)) (kk : W p l e R s m args below meth c H locs 0 0 Q (F0 m (pc + 3) ls (.int (M 2 0 0) :: rest))) : W p l e R s m args below meth c H locs 0 0 Q (F0 m pc ls (.ref (xq G 2 0) :: rest)) := x_get E hI mx_2_0 rfl rfl in_X6 0 (by decide) fl_X7_162 (fun _ h => h) rfl hdg kk
theorem gf_X7_162_3 (E : xE p s m args meth c cc nL rt RX7 G) (hI : xI G M L s.heap H locs) (hdg : decode cc pc = .ok (.getfield 162, 3)) (kk : W p l e R s m args below meth c H locs 0 0 Q (F0 m (pc + 3) ls (.int (M 3 0 0) :: rest))) : W p l e R s m args below meth c H locs 0 0 Q (F0 m pc ls (.ref (xq G 3 0) :: rest)) := x_get E hI mx_3_0 rfl rfl in_X6 0 (by decide) fl_X7_162 (fun _ h => h) rfl hdg kk
theorem gf_X7_165 (E : xE p s m args meth c cc nL rt RX7 G) (hI : xI G M L s.heap H locs) {i : Nat} (hi : i < 21) (hdg : decode cc pc = .ok (.getfield 165, 3)) (kk : W p l e R s m args below meth c H locs 0 0 Q (F0 m (pc + 3) ls (.ref (xq G (i + 9) 5) :: rest))) : W p l e R s m args below meth c H locs 0 0 Q (F0 m pc ls (.ref (xq G (i + 9) 0) :: rest)) := x_get E hI (mf_0 hi) rfl rfl in_X0 4 (by decide) fl_X7_165 (fun _ h => h) rfl hdg kk
theorem gf_X7_176 (E : xE p s m args meth c cc nL rt RX7 G) (hI : xI G M L s.heap H locs) (hdg : decode cc pc = .ok (.getfield 176, 3)) (kk : W p l e R s m args below meth c H locs 0 0 Q (F0 m (pc + 3) ls (.int (M 5 0 5) :: rest))) : W p l e R s m args below meth c H locs 0 0 Q (F0 m pc ls (.ref (xq G 5 0) :: rest)) := x_get E hI mx_5_0 rfl rfl in_X4 5 (by decide) fl_X7_176 (fun _ h => h) rfl hdg kk
theorem gf_X7_179 (E : xE p s m args meth c cc nL rt RX7 G) (hI : xI G M L s.heap H locs) (hdg : decode cc pc = .ok (.getfield 179, 3)) (kk : W p l e R s m args below meth c H locs 0 0 Q (F0 m (pc + 3) ls (.int (M 5 0 4) :: rest))) : W p l e R s m args below meth c H locs 0 0 Q (F0 m pc ls (.ref (xq G 5 0) :: rest)) := x_get E hI mx_5_0 rfl rfl in_X4 4 (by decide) fl_X7_179 (fun _ h => h) rfl hdg kk
theorem gf_X7_180 (E : xE p s m args meth c cc nL rt RX7 G) (hI : xI G M L s.heap H locs) (hdg : decode cc pc = .ok (.getfield 180, 3)) (kk : W p l e R s m args below meth c H locs 0 0 Q (F0 m (pc + 3) ls (.ref (xq G 5 4) :: rest))) : W p l e R s m args below meth c H locs 0 0 Q (F0 m pc ls (.ref (xq G 5 0) :: rest)) := x_get E hI mx_5_0 rfl rfl in_X4 3 (by decide) fl_X7_180 (fun _ h => h) rfl hdg kk
theorem gf_X7_222 (E : xE p s m args meth c cc nL rt RX7 G) (hI : xI G M L s.heap H locs) (hdg : decode cc pc = .ok (.getfield 222, 3)) (kk : W p l e R s m args below meth c H locs 0 0 Q (F0 m (pc + 3) ls (.int (M 7 0 6) :: rest))) : W p l e R s m args below meth c H locs 0 0 Q (F0 m pc ls (.ref (xq G 7 0) :: rest)) := x_get E hI mx_7_0 rfl rfl in_X5 6 (by decide) fl_X7_222 (fun _ h => h) rfl hdg kk
theorem gf_X7_253_2 (E : xE p s m args meth c cc nL rt RX7 G) (hI : xI G M L s.heap H locs) (hdg : decode cc pc = .ok (.getfield 253, 3)) (kk : W p l e R s m args below meth c H locs 0 0 Q (F0 m (pc + 3) ls (.int (M 2 0 1) :: rest))) : W p l e R s m args below meth c H locs 0 0 Q (F0 m pc ls (.ref (xq G 2 0) :: rest)) := x_get E hI mx_2_0 rfl rfl in_X6 1 (by decide) fl_X7_253 (fun _ h => h) rfl hdg kk
theorem gf_X7_253_3 (E : xE p s m args meth c cc nL rt RX7 G) (hI : xI G M L s.heap H locs) (hdg : decode cc pc = .ok (.getfield 253, 3)) (kk : W p l e R s m args below meth c H locs 0 0 Q (F0 m (pc + 3) ls (.int (M 3 0 1) :: rest))) : W p l e R s m args below meth c H locs 0 0 Q (F0 m pc ls (.ref (xq G 3 0) :: rest)) := x_get E hI mx_3_0 rfl rfl in_X6 1 (by decide) fl_X7_253 (fun _ h => h) rfl hdg kk
theorem gf_X7_256 (E : xE p s m args meth c cc nL rt RX7 G) (hI : xI G M L s.heap H locs) (hdg : decode cc pc = .ok (.getfield 256, 3)) (kk : W p l e R s m args below meth c H locs 0 0 Q (F0 m (pc + 3) ls (.long (L 0) :: rest))) : W p l e R s m args below meth c H locs 0 0 Q (F0 m pc ls (.ref (xq G 0 0) :: rest)) := x_get E hI mx_0_0 rfl rfl in_X7 10 (by decide) fl_X7_256 (fun _ h => h) rfl hdg kk
theorem pf_X7_256 (E : xE p s m args meth c cc nL rt RX7 G) (hI : xI G M L s.heap H locs) {v : Int64} (hdg : decode cc pc = .ok (.putfield 256, 3)) {L1 : xLL} (hM : va_up L 0 v = L1) (kk : ∀ (H : Heap) (locs : List Loc), xI G M L1 s.heap H locs → W p l e R s m args below meth c H locs 0 0 Q (F0 m (pc + 3) ls rest)) : W p l e R s m args below meth c H locs 0 0 Q (F0 m pc ls (.long v :: .ref (xq G 0 0) :: rest)) := x_putl E hI mx_0_0 rfl rfl in_X7 tyX7 tyX7_ok nmX7 10 (by decide) fl_X7_256 (fun _ h => h) rfl (ty := .long) (by decide +kernel) rfl rfl (Nat.le_of_ble_eq_true rfl) rfl hdg hM kk
theorem gf_X8_7 (E : xE p s m args meth c cc nL rt RX8 G) (hI : xI G M L s.heap H locs) (hdg : decode cc pc = .ok (.getfield 7, 3)) (kk : W p l e R s m args below meth c H locs 0 0 Q (F0 m (pc + 3) ls (.ref (xq G 8 2) :: rest))) : W p l e R s m args below meth c H locs 0 0 Q (F0 m pc ls (.ref (xq G 8 0) :: rest)) := x_get E hI mx_8_0 rfl rfl in_X8 1 (by decide) fl_X8_7 (fun _ h => h) rfl hdg kk
theorem gf_X8_13 (E : xE p s m args meth c cc nL rt RX8 G) (hI : xI G M L s.heap H locs) (hdg : decode cc pc = .ok (.getfield 13, 3)) (kk : W p l e R s m args below meth c H locs 0 0 Q (F0 m (pc + 3) ls (.ref (xq G 8 3) :: rest))) : W p l e R s m args below meth c H locs 0 0 Q (F0 m pc ls (.ref (xq G 8 0) :: rest)) := x_get E hI mx_8_0 rfl rfl in_X8 2 (by decide) fl_X8_13 (fun _ h => h) rfl hdg kk
theorem gf_X8_16 (E : xE p s m args meth c cc nL rt RX8 G) (hI : xI G M L s.heap H locs) (hdg : decode cc pc = .ok (.getfield 16, 3)) (kk : W p l e R s m args below meth c H locs 0 0 Q (F0 m (pc + 3) ls (.ref (xq G 8 4) :: rest))) : W p l e R s m args below meth c H locs 0 0 Q (F0 m pc ls (.ref (xq G 8 0) :: rest)) := x_get E hI mx_8_0 rfl rfl in_X8 3 (by decide) fl_X8_16 (fun _ h => h) rfl hdg kk
theorem gf_X8_19 (E : xE p s m args meth c cc nL rt RX8 G) (hI : xI G M L s.heap H locs) (hdg : decode cc pc = .ok (.getfield 19, 3)) (kk : W p l e R s m args below meth c H locs 0 0 Q (F0 m (pc + 3) ls (.ref (xq G 8 6) :: rest))) : W p l e R s m args below meth c H locs 0 0 Q (F0 m pc ls (.ref (xq G 8 0) :: rest)) := x_get E hI mx_8_0 rfl rfl in_X8 5 (by decide) fl_X8_19 (fun _ h => h) rfl hdg kk
theorem gf_X8_22 (E : xE p s m args meth c cc nL rt RX8 G) (hI : xI G M L s.heap H locs) (hdg : decode cc pc = .ok (.getfield 22, 3)) (kk : W p l e R s m args below meth c H locs 0 0 Q (F0 m (pc + 3) ls (.ref (xq G 8 7) :: rest))) : W p l e R s m args below meth c H locs 0 0 Q (F0 m pc ls (.ref (xq G 8 0) :: rest)) := x_get E hI mx_8_0 rfl rfl in_X8 6 (by decide) fl_X8_22 (fun _ h => h) rfl hdg kk
theorem gf_X8_25 (E : xE p s m args meth c cc nL rt RX8 G) (hI : xI G M L s.heap H locs) (hdg : decode cc pc = .ok (.getfield 25, 3)) (kk : W p l e R s m args below meth c H locs 0 0 Q (F0 m (pc + 3) ls (.ref (xq G 8 8) :: rest))) : W p l e R s m args below meth c H locs 0 0 Q (F0 m pc ls (.ref (xq G 8 0) :: rest)) := x_get E hI mx_8_0 rfl rfl in_X8 7 (by decide) fl_X8_25 (fun _ h => h) rfl hdg kk
theorem gf_X8_28 (E : xE p s m args meth c cc nL rt RX8 G) (hI : xI G M L s.heap H locs) (hdg : decode cc pc = .ok (.getfield 28, 3)) (kk : W p l e R s m args below meth c H locs 0 0 Q (F0 m (pc + 3) ls (.ref (xq G 8 10) :: rest))) : W p l e R s m args below meth c H locs 0 0 Q (F0 m pc ls (.ref (xq G 8 0) :: rest)) := x_get E hI mx_8_0 rfl rfl in_X8 9 (by decide) fl_X8_28 (fun _ h => h) rfl hdg kk
theorem gf_X8_31 (E : xE p s m args meth c cc nL rt RX8 G) (hI : xI G M L s.heap H locs) (hdg : decode cc pc = .ok (.getfield 31, 3)) (kk : W p l e R s m args below meth c H locs 0 0 Q (F0 m (pc + 3) ls (.ref (xq G 8 11) :: rest))) : W p l e R s m args below meth c H locs 0 0 Q (F0 m pc ls (.ref (xq G 8 0) :: rest)) := x_get E hI mx_8_0 rfl rfl in_X8 10 (by decide) fl_X8_31 (fun _ h => h) rfl hdg kk
theorem gf_X8_35 (E : xE p s m args meth c cc nL rt RX8 G) (hI : xI G M L s.heap H locs) (hdg : decode cc pc = .ok (.getfield 35, 3)) (kk : W p l e R s m args below meth c H locs 0 0 Q (F0 m (pc + 3) ls (.ref (xq G 8 13) :: rest))) : W p l e R s m args below meth c H locs 0 0 Q (F0 m pc ls (.ref (xq G 8 0) :: rest)) := x_get E hI mx_8_0 rfl rfl in_X8 12 (by decide) fl_X8_35 (fun _ h => h) rfl hdg kk
theorem gf_X8_38 (E : xE p s m args meth c cc nL rt RX8 G) (hI : xI G M L s.heap H locs) (hdg : decode cc pc = .ok (.getfield 38, 3)) (kk : W p l e R s m args below meth c H locs 0 0 Q (F0 m (pc + 3) ls (.ref (xq G 8 15) :: rest))) : W p l e R s m args below meth c H locs 0 0 Q (F0 m pc ls (.ref (xq G 8 0) :: rest)) := x_get E hI mx_8_0 rfl rfl in_X8 14 (by decide) fl_X8_38 (fun _ h => h) rfl hdg kk
theorem gf_X8_41 (E : xE p s m args meth c cc nL rt RX8 G) (hI : xI G M L s.heap H locs) (hdg : decode cc pc = .ok (.getfield 41, 3)) (kk : W p l e R s m args below meth c H locs 0 0 Q (F0 m (pc + 3) ls (.ref (xq G 8 24) :: rest))) : W p l e R s m args below meth c H locs 0 0 Q (F0 m pc ls (.ref (xq G 8 0) :: rest)) := x_get E hI mx_8_0 rfl rfl in_X8 23 (by decide) fl_X8_41 (fun _ h => h) rfl hdg kk
theorem gf_X8_44 (E : xE p s m args meth c cc nL rt RX8 G) (hI : xI G M L s.heap H locs) (hdg : decode cc pc = .ok (.getfield 44, 3)) (kk : W p l e R s m args below meth c H locs 0 0 Q (F0 m (pc + 3) ls (.ref (xq G 8 26) :: rest))) : W p l e R s m args below meth c H locs 0 0 Q (F0 m pc ls (.ref (xq G 8 0) :: rest)) := x_get E hI mx_8_0 rfl rfl in_X8 25 (by decide) fl_X8_44 (fun _ h => h) rfl hdg kk
theorem gf_X8_47 (E : xE p s m args meth c cc nL rt RX8 G) (hI : xI G M L s.heap H locs) (hdg : decode cc pc = .ok (.getfield 47, 3)) (kk : W p l e R s m args below meth c H locs 0 0 Q (F0 m (pc + 3) ls (.ref (xq G 8 27) :: rest))) : W p l e R s m args below meth c H locs 0 0 Q (F0 m pc ls (.ref (xq G 8 0) :: rest)) := x_get E hI mx_8_0 rfl rfl in_X8 26 (by decide) fl_X8_47 (fun _ h => h) rfl hdg kk
theorem gf_X8_50 (E : xE p s m args meth c cc nL rt RX8 G) (hI : xI G M L s.heap H locs) (hdg : decode cc pc = .ok (.getfield 50, 3)) (kk : W p l e R s m args below meth c H locs 0 0 Q (F0 m (pc + 3) ls (.ref (xq G 8 28) :: rest))) : W p l e R s m args below meth c H locs 0 0 Q (F0 m pc ls (.ref (xq G 8 0) :: rest)) := x_get E hI mx_8_0 rfl rfl in_X8 27 (by decide) fl_X8_50 (fun _ h => h) rfl hdg kk
theorem gf_X8_53 (E : xE p s m args meth c cc nL rt RX8 G) (hI : xI G M L s.heap H locs) (hdg : decode cc pc = .ok (.getfield 53, 3)) (kk : W p l e R s m args below meth c H locs 0 0 Q (F0 m (pc + 3) ls (.ref (xq G 8 29) :: rest))) : W p l e R s m args below meth c H locs 0 0 Q (F0 m pc ls (.ref (xq G 8 0) :: rest)) := x_get E hI mx_8_0 rfl rfl in_X8 28 (by decide) fl_X8_53 (fun _ h => h) rfl hdg kk
theorem gf_X8_56 (E : xE p s m args meth c cc nL rt RX8 G) (hI : xI G M L s.heap H locs) (hdg : decode cc pc = .ok (.getfield 56, 3)) (kk : W p l e R s m args below meth c H locs 0 0 Q (F0 m (pc + 3) ls (.ref (xq G 8 30) :: rest))) : W p l e R s m args below meth c H locs 0 0 Q (F0 m pc ls (.ref (xq G 8 0) :: rest)) := x_get E hI mx_8_0 rfl rfl in_X8 29 (by decide) fl_X8_56 (fun _ h => h) rfl hdg kk
theorem gf_X8_59 (E : xE p s m args meth c cc nL rt RX8 G) (hI : xI G M L s.heap H locs) (hdg : decode cc pc = .ok (.getfield 59, 3)) (kk : W p l e R s m args below meth c H locs 0 0 Q (F0 m (pc + 3) ls (.ref (xq G 8 31) :: rest))) : W p l e R s m args below meth c H locs 0 0 Q (F0 m pc ls (.ref (xq G 8 0) :: rest)) := x_get E hI mx_8_0 rfl rfl in_X8 30 (by decide) fl_X8_59 (fun _ h => h) rfl hdg kk
theorem gf_X8_62 (E : xE p s m args meth c cc nL rt RX8 G) (hI : xI G M L s.heap H locs) (hdg : decode cc pc = .ok (.getfield 62, 3)) (kk : W p l e R s m args below meth c H locs 0 0 Q (F0 m (pc + 3) ls (.int (M 8 0 0) :: rest))) : W p l e R s m args below meth c H locs 0 0 Q (F0 m pc ls (.ref (xq G 8 0) :: rest)) := x_get E hI mx_8_0 rfl rfl in_X8 0 (by decide) fl_X8_62 (fun _ h => h) rfl hdg kk
theorem pf_X8_62 (E : xE p s m args meth c cc nL rt RX8 G) (hI : xI G M L s.heap H locs) {v : Int32} (hdg : decode cc pc = .ok (.putfield 62, 3)) {M1 : xMem} (hM : xsf M 8 0 v = M1) (kk : ∀ (H : Heap) (locs : List Loc), xI G M1 L s.heap H locs → W p l e R s m args below meth c H locs 0 0 Q (F0 m (pc + 3) ls rest)) : W p l e R s m args below meth c H locs 0 0 Q (F0 m pc ls (.int v :: .ref (xq G 8 0) :: rest)) := x_put E hI mx_8_0 rfl rfl in_X8 tyX8 tyX8_ok nmX8 0 (by decide) fl_X8_62 (fun _ h => h) rfl (ty := .int) (by decide +kernel) rfl rfl (Nat.le_of_ble_eq_true rfl) rfl hdg hM kk
theorem gf_X8_70 (E : xE p s m args meth c cc nL rt RX8 G) (hI : xI G M L s.heap H locs) (hdg : decode cc pc = .ok (.getfield 70, 3)) (kk : W p l e R s m args below meth c H locs 0 0 Q (F0 m (pc + 3) ls (.int (M 8 0 4) :: rest))) : W p l e R s m args below meth c H locs 0 0 Q (F0 m pc ls (.ref (xq G 8 0) :: rest)) := x_get E hI mx_8_0 rfl rfl in_X8 4 (by decide) fl_X8_70 (fun _ h => h) rfl hdg kk
theorem pf_X8_70 (E : xE p s m args meth c cc nL rt RX8 G) (hI : xI G M L s.heap H locs) {v : Int32} (hdg : decode cc pc = .ok (.putfield 70, 3)) {M1 : xMem} (hM : xsf M 8 4 v = M1) (kk : ∀ (H : Heap) (locs : List Loc), xI G M1 L s.heap H locs → W p l e R s m args below meth c H locs 0 0 Q (F0 m (pc + 3) ls rest)) : W p l e R s m args below meth c H locs 0 0 Q (F0 m pc ls (.int v :: .ref (xq G 8 0) :: rest)) := x_put E hI mx_8_0 rfl rfl in_X8 tyX8 tyX8_ok nmX8 4 (by decide) fl_X8_70 (fun _ h => h) rfl (ty := .int) (by decide +kernel) rfl rfl (Nat.le_of_ble_eq_true rfl) rfl hdg hM kk
theorem gf_X8_73 (E : xE p s m args meth c cc nL rt RX8 G) (hI : xI G M L s.heap H locs) (hdg : decode cc pc = .ok (.getfield 73, 3)) (kk : W p l e R s m args below meth c H locs 0 0 Q (F0 m (pc + 3) ls (.int (M 8 0 15) :: rest))) : W p l e R s m args below meth c H locs 0 0 Q (F0 m pc ls (.ref (xq G 8 0) :: rest)) := x_get E hI mx_8_0 rfl rfl in_X8 15 (by decide) fl_X8_73 (fun _ h => h) rfl hdg kk
theorem pf_X8_73 (E : xE p s m args meth c cc nL rt RX8 G) (hI : xI G M L s.heap H locs) {v : Int32} (hdg : decode cc pc = .ok (.putfield 73, 3)) {M1 : xMem} (hM : xsf M 8 15 v = M1) (kk : ∀ (H : Heap) (locs : List Loc), xI G M1 L s.heap H locs → W p l e R s m args below meth c H locs 0 0 Q (F0 m (pc + 3) ls rest)) : W p l e R s m args below meth c H locs 0 0 Q (F0 m pc ls (.int v :: .ref (xq G 8 0) :: rest)) := x_put E hI mx_8_0 rfl rfl in_X8 tyX8 tyX8_ok nmX8 15 (by decide) fl_X8_73 (fun _ h => h) rfl (ty := .int) (by decide +kernel) rfl rfl (Nat.le_of_ble_eq_true rfl) rfl hdg hM kk
theorem gf_X8_76 (E : xE p s m args meth c cc nL rt RX8 G) (hI : xI G M L s.heap H locs) (hdg : decode cc pc = .ok (.getfield 76, 3)) (kk : W p l e R s m args below meth c H locs 0 0 Q (F0 m (pc + 3) ls (.int (M 8 0 16) :: rest))) : W p l e R s m args below meth c H locs 0 0 Q (F0 m pc ls (.ref (xq G 8 0) :: rest)) := x_get E hI mx_8_0 rfl rfl in_X8 16 (by decide) fl_X8_76 (fun _ h => h) rfl hdg kk
theorem pf_X8_76 (E : xE p s m args meth c cc nL rt RX8 G) (hI : xI G M L s.heap H locs) {v : Int32} (hdg : decode cc pc = .ok (.putfield 76, 3)) {M1 : xMem} (hM : xsf M 8 16 v = M1) (kk : ∀ (H : Heap) (locs : List Loc), xI G M1 L s.heap H locs → W p l e R s m args below meth c H locs 0 0 Q (F0 m (pc + 3) ls rest)) : W p l e R s m args below meth c H locs 0 0 Q (F0 m pc ls (.int v :: .ref (xq G 8 0) :: rest)) := x_put E hI mx_8_0 rfl rfl in_X8 tyX8 tyX8_ok nmX8 16 (by decide) fl_X8_76 (fun _ h => h) rfl (ty := .int) (by decide +kernel) rfl rfl (Nat.le_of_ble_eq_true rfl) rfl hdg hM kk
theorem gf_X8_83 (E : xE p s m args meth c cc nL rt RX8 G) (hI : xI G M L s.heap H locs) (hdg : decode cc pc = .ok (.getfield 83, 3)) (kk : W p l e R s m args below meth c H locs 0 0 Q (F0 m (pc + 3) ls (.int (M 8 0 17) :: rest))) : W p l e R s m args below meth c H locs 0 0 Q (F0 m pc ls (.ref (xq G 8 0) :: rest)) := x_get E hI mx_8_0 rfl rfl in_X8 17 (by decide) fl_X8_83 (fun _ h => h) rfl hdg kk
theorem pf_X8_83 (E : xE p s m args meth c cc nL rt RX8 G) (hI : xI G M L s.heap H locs) {v : Int32} (hdg : decode cc pc = .ok (.putfield 83, 3)) {M1 : xMem} (hM : xsf M 8 17 v = M1) (kk : ∀ (H : Heap) (locs : List Loc), xI G M1 L s.heap H locs → W p l e R s m args below meth c H locs 0 0 Q (F0 m (pc + 3) ls rest)) : W p l e R s m args below meth c H locs 0 0 Q (F0 m pc ls (.int v :: .ref (xq G 8 0) :: rest)) := x_put E hI mx_8_0 rfl rfl in_X8 tyX8 tyX8_ok nmX8 17 (by decide) fl_X8_83 (fun _ h => h) rfl (ty := .int) (by decide +kernel) rfl rfl (Nat.le_of_ble_eq_true rfl) rfl hdg hM kk
theorem gf_X8_86 (E : xE p s m args meth c cc nL rt RX8 G) (hI : xI G M L s.heap H locs) (hdg : decode cc pc = .ok (.getfield 86, 3)) (kk : W p l e R s m args below meth c H locs 0 0 Q (F0 m (pc + 3) ls (.int (M 8 0 19) :: rest))) : W p l e R s m args below meth c H locs 0 0 Q (F0 m pc ls (.ref (xq G 8 0) :: rest)) := x_get E hI mx_8_0 rfl rfl in_X8 19 (by decide) fl_X8_86 (fun _ h => h) rfl hdg kk
theorem pf_X8_86 (E : xE p s m args meth c cc nL rt RX8 G) (hI : xI G M L s.heap H locs) {v : Int32} (hdg : decode cc pc = .ok (.putfield 86, 3)) {M1 : xMem} (hM : xsf M 8 19 v = M1) (kk : ∀ (H : Heap) (locs : List Loc), xI G M1 L s.heap H locs → W p l e R s m args below meth c H locs 0 0 Q (F0 m (pc + 3) ls rest)) : W p l e R s m args below meth c H locs 0 0 Q (F0 m pc ls (.int v :: .ref (xq G 8 0) :: rest)) := x_put E hI mx_8_0 rfl rfl in_X8 tyX8 tyX8_ok nmX8 19 (by decide) fl_X8_86 (fun _ h => h) rfl (ty := .int) (by decide +kernel) rfl rfl (Nat.le_of_ble_eq_true rfl) rfl hdg hM kk
theorem gf_X8_89 (E : xE p s m args meth c cc nL rt RX8 G) (hI : xI G M L s.heap H locs) (hdg : decode cc pc = .ok (.getfield 89, 3)) (kk : W p l e R s m args below meth c H locs 0 0 Q (F0 m (pc + 3) ls (.int (M 8 0 18) :: rest))) : W p l e R s m args below meth c H locs 0 0 Q (F0 m pc ls (.ref (xq G 8 0) :: rest)) := x_get E hI mx_8_0 rfl rfl in_X8 18 (by decide) fl_X8_89 (fun _ h => h) rfl hdg kk
theorem pf_X8_89 (E : xE p s m args meth c cc nL rt RX8 G) (hI : xI G M L s.heap H locs) {v : Int32} (hdg : decode cc pc = .ok (.putfield 89, 3)) {M1 : xMem} (hM : xsf M 8 18 v = M1) (kk : ∀ (H : Heap) (locs : List Loc), xI G M1 L s.heap H locs → W p l e R s m args below meth c H locs 0 0 Q (F0 m (pc + 3) ls rest)) : W p l e R s m args below meth c H locs 0 0 Q (F0 m pc ls (.int v :: .ref (xq G 8 0) :: rest)) := x_put E hI mx_8_0 rfl rfl in_X8 tyX8 tyX8_ok nmX8 18 (by decide) fl_X8_89 (fun _ h => h) rfl (ty := .int) (by decide +kernel) rfl rfl (Nat.le_of_ble_eq_true rfl) rfl hdg hM kk
theorem gf_X8_96 (E : xE p s m args meth c cc nL rt RX8 G) (hI : xI G M L s.heap H locs) (hdg : decode cc pc = .ok (.getfield 96, 3)) (kk : W p l e R s m args below meth c H locs 0 0 Q (F0 m (pc + 3) ls (.int (M 8 0 20) :: rest))) : W p l e R s m args below meth c H locs 0 0 Q (F0 m pc ls (.ref (xq G 8 0) :: rest)) := x_get E hI mx_8_0 rfl rfl in_X8 20 (by decide) fl_X8_96 (fun _ h => h) rfl hdg kk
theorem pf_X8_96 (E : xE p s m args meth c cc nL rt RX8 G) (hI : xI G M L s.heap H locs) {v : Int32} (hn : narrow .boolean (.int v) = .int v) (hfit : fits .boolean (.int v) = true) (hdg : decode cc pc = .ok (.putfield 96, 3)) {M1 : xMem} (hM : xsf M 8 20 v = M1) (kk : ∀ (H : Heap) (locs : List Loc), xI G M1 L s.heap H locs → W p l e R s m args below meth c H locs 0 0 Q (F0 m (pc + 3) ls rest)) : W p l e R s m args below meth c H locs 0 0 Q (F0 m pc ls (.int v :: .ref (xq G 8 0) :: rest)) := x_put E hI mx_8_0 rfl rfl in_X8 tyX8 tyX8_ok nmX8 20 (by decide) fl_X8_96 (fun _ h => h) rfl (ty := .boolean) (by decide +kernel) hn hfit (Nat.le_of_ble_eq_true rfl) rfl hdg hM kk
theorem gf_X8_103 (E : xE p s m args meth c cc nL rt RX8 G) (hI : xI G M L s.heap H locs) (hdg : decode cc pc = .ok (.getfield 103, 3)) (kk : W p l e R s m args below meth c H locs 0 0 Q (F0 m (pc + 3) ls (.int (M 8 0 22) :: rest))) : W p l e R s m args below meth c H locs 0 0 Q (F0 m pc ls (.ref (xq G 8 0) :: rest)) := x_get E hI mx_8_0 rfl rfl in_X8 22 (by decide) fl_X8_103 (fun _ h => h) rfl hdg kk
theorem pf_X8_103 (E : xE p s m args meth c cc nL rt RX8 G) (hI : xI G M L s.heap H locs) {v : Int32} (hdg : decode cc pc = .ok (.putfield 103, 3)) {M1 : xMem} (hM : xsf M 8 22 v = M1) (kk : ∀ (H : Heap) (locs : List Loc), xI G M1 L s.heap H locs → W p l e R s m args below meth c H locs 0 0 Q (F0 m (pc + 3) ls rest)) : W p l e R s m args below meth c H locs 0 0 Q (F0 m pc ls (.int v :: .ref (xq G 8 0) :: rest)) := x_put E hI mx_8_0 rfl rfl in_X8 tyX8 tyX8_ok nmX8 22 (by decide) fl_X8_103 (fun _ h => h) rfl (ty := .int) (by decide +kernel) rfl rfl (Nat.le_of_ble_eq_true rfl) rfl hdg hM kk
theorem gf_X8_106 (E : xE p s m args meth c cc nL rt RX8 G) (hI : xI G M L s.heap H locs) (hdg : decode cc pc = .ok (.getfield 106, 3)) (kk : W p l e R s m args below meth c H locs 0 0 Q (F0 m (pc + 3) ls (.int (M 8 0 24) :: rest))) : W p l e R s m args below meth c H locs 0 0 Q (F0 m pc ls (.ref (xq G 8 0) :: rest)) := x_get E hI mx_8_0 rfl rfl in_X8 24 (by decide) fl_X8_106 (fun _ h => h) rfl hdg kk
theorem pf_X8_106 (E : xE p s m args meth c cc nL rt RX8 G) (hI : xI G M L s.heap H locs) {v : Int32} (hdg : decode cc pc = .ok (.putfield 106, 3)) {M1 : xMem} (hM : xsf M 8 24 v = M1) (kk : ∀ (H : Heap) (locs : List Loc), xI G M1 L s.heap H locs → W p l e R s m args below meth c H locs 0 0 Q (F0 m (pc + 3) ls rest)) : W p l e R s m args below meth c H locs 0 0 Q (F0 m pc ls (.int v :: .ref (xq G 8 0) :: rest)) := x_put E hI mx_8_0 rfl rfl in_X8 tyX8 tyX8_ok nmX8 24 (by decide) fl_X8_106 (fun _ h => h) rfl (ty := .int) (by decide +kernel) rfl rfl (Nat.le_of_ble_eq_true rfl) rfl hdg hM kk
theorem gf_X8_113 (E : xE p s m args meth c cc nL rt RX8 G) (hI : xI G M L s.heap H locs) (hdg : decode cc pc = .ok (.getfield 113, 3)) (kk : W p l e R s m args below meth c H locs 0 0 Q (F0 m (pc + 3) ls (.int (M 8 0 21) :: rest))) : W p l e R s m args below meth c H locs 0 0 Q (F0 m pc ls (.ref (xq G 8 0) :: rest)) := x_get E hI mx_8_0 rfl rfl in_X8 21 (by decide) fl_X8_113 (fun _ h => h) rfl hdg kk
theorem pf_X8_113 (E : xE p s m args meth c cc nL rt RX8 G) (hI : xI G M L s.heap H locs) {v : Int32} (hdg : decode cc pc = .ok (.putfield 113, 3)) {M1 : xMem} (hM : xsf M 8 21 v = M1) (kk : ∀ (H : Heap) (locs : List Loc), xI G M1 L s.heap H locs → W p l e R s m args below meth c H locs 0 0 Q (F0 m (pc + 3) ls rest)) : W p l e R s m args below meth c H locs 0 0 Q (F0 m pc ls (.int v :: .ref (xq G 8 0) :: rest)) := x_put E hI mx_8_0 rfl rfl in_X8 tyX8 tyX8_ok nmX8 21 (by decide) fl_X8_113 (fun _ h => h) rfl (ty := .int) (by decide +kernel) rfl rfl (Nat.le_of_ble_eq_true rfl) rfl hdg hM kk
theorem gf_X8_122 (E : xE p s m args meth c cc nL rt RX8 G) (hI : xI G M L s.heap H locs) (hdg : decode cc pc = .ok (.getfield 122, 3)) (kk : W p l e R s m args below meth c H locs 0 0 Q (F0 m (pc + 3) ls (.int (M 8 0 8) :: rest))) : W p l e R s m args below meth c H locs 0 0 Q (F0 m pc ls (.ref (xq G 8 0) :: rest)) := x_get E hI mx_8_0 rfl rfl in_X8 8 (by decide) fl_X8_122 (fun _ h => h) rfl hdg kk
theorem pf_X8_122 (E : xE p s m args meth c cc nL rt RX8 G) (hI : xI G M L s.heap H locs) {v : Int32} (hdg : decode cc pc = .ok (.putfield 122, 3)) {M1 : xMem} (hM : xsf M 8 8 v = M1) (kk : ∀ (H : Heap) (locs : List Loc), xI G M1 L s.heap H locs → W p l e R s m args below meth c H locs 0 0 Q (F0 m (pc + 3) ls rest)) : W p l e R s m args below meth c H locs 0 0 Q (F0 m pc ls (.int v :: .ref (xq G 8 0) :: rest)) := x_put E hI mx_8_0 rfl rfl in_X8 tyX8 tyX8_ok nmX8 8 (by decide) fl_X8_122 (fun _ h => h) rfl (ty := .int) (by decide +kernel) rfl rfl (Nat.le_of_ble_eq_true rfl) rfl hdg hM kk
theorem gf_X8_125 (E : xE p s m args meth c cc nL rt RX8 G) (hI : xI G M L s.heap H locs) (hdg : decode cc pc = .ok (.getfield 125, 3)) (kk : W p l e R s m args below meth c H locs 0 0 Q (F0 m (pc + 3) ls (.int (M 8 0 11) :: rest))) : W p l e R s m args below meth c H locs 0 0 Q (F0 m pc ls (.ref (xq G 8 0) :: rest)) := x_get E hI mx_8_0 rfl rfl in_X8 11 (by decide) fl_X8_125 (fun _ h => h) rfl hdg kk
theorem pf_X8_125 (E : xE p s m args meth c cc nL rt RX8 G) (hI : xI G M L s.heap H locs) {v : Int32} (hdg : decode cc pc = .ok (.putfield 125, 3)) {M1 : xMem} (hM : xsf M 8 11 v = M1) (kk : ∀ (H : Heap) (locs : List Loc), xI G M1 L s.heap H locs → W p l e R s m args below meth c H locs 0 0 Q (F0 m (pc + 3) ls rest)) : W p l e R s m args below meth c H locs 0 0 Q (F0 m pc ls (.int v :: .ref (xq G 8 0) :: rest)) := x_put E hI mx_8_0 rfl rfl in_X8 tyX8 tyX8_ok nmX8 11 (by decide) fl_X8_125 (fun _ h => h) rfl (ty := .int) (by decide +kernel) rfl rfl (Nat.le_of_ble_eq_true rfl) rfl hdg hM kk
theorem gf_X8_221 (E : xE p s m args meth c cc nL rt RX8 G) (hI : xI G M L s.heap H locs) (hdg : decode cc pc = .ok (.getfield 221, 3)) (kk : W p l e R s m args below meth c H locs 0 0 Q (F0 m (pc + 3) ls (.long (L 8) :: rest))) : W p l e R s m args below meth c H locs 0 0 Q (F0 m pc ls (.ref (xq G 8 0) :: rest)) := x_get E hI mx_8_0 rfl rfl in_X8 13 (by decide) fl_X8_221 (fun _ h => h) rfl hdg kk
theorem pf_X8_221 (E : xE p s m args meth c cc nL rt RX8 G) (hI : xI G M L s.heap H locs) {v : Int64} (hdg : decode cc pc = .ok (.putfield 221, 3)) {L1 : xLL} (hM : va_up L 8 v = L1) (kk : ∀ (H : Heap) (locs : List Loc), xI G M L1 s.heap H locs → W p l e R s m args below meth c H locs 0 0 Q (F0 m (pc + 3) ls rest)) : W p l e R s m args below meth c H locs 0 0 Q (F0 m pc ls (.long v :: .ref (xq G 8 0) :: rest)) := x_putl E hI mx_8_0 rfl rfl in_X8 tyX8 tyX8_ok nmX8 13 (by decide) fl_X8_221 (fun _ h => h) rfl (ty := .long) (by decide +kernel) rfl rfl (Nat.le_of_ble_eq_true rfl) rfl hdg hM kk
end XF
end
section
theorem dX6_seems_0 : decode cX6_seems 0 = .ok (.aload_n 0, 1) := by decide +kernel
theorem dX6_seems_1 : decode cX6_seems 1 = .ok (.getfield 24, 3) := by decide +kernel
theorem dX6_seems_4 : decode cX6_seems 4 = .ok (.iload_n 1, 1) := by decide +kernel
theorem dX6_seems_5 : decode cX6_seems 5 = .ok (.iaload, 1) := by decide +kernel
theorem dX6_seems_6 : decode cX6_seems 6 = .ok (.tableswitch 38 2 5 #[30, 38, 30, 34], 30) := by decide +kernel
theorem dX6_seems_36 : decode cX6_seems 36 = .ok (.iload_n 2, 1) := by decide +kernel
theorem dX6_seems_37 : decode cX6_seems 37 = .ok (.iconst 3, 1) := by decide +kernel
theorem dX6_seems_38 : decode cX6_seems 38 = .ok (.iadd, 1) := by decide +kernel
theorem dX6_seems_39 : decode cX6_seems 39 = .ok (.ireturn, 1) := by decide +kernel
theorem dX6_seems_40 : decode cX6_seems 40 = .ok (.iload_n 2, 1) := by decide +kernel
theorem dX6_seems_41 : decode cX6_seems 41 = .ok (.iconst 2, 1) := by decide +kernel
theorem dX6_seems_42 : decode cX6_seems 42 = .ok (.idiv, 1) := by decide +kernel
theorem dX6_seems_43 : decode cX6_seems 43 = .ok (.ireturn, 1) := by decide +kernel
theorem dX6_seems_44 : decode cX6_seems 44 = .ok (.iload_n 2, 1) := by decide +kernel
theorem dX6_seems_45 : decode cX6_seems 45 = .ok (.ireturn, 1) := by decide +kernel
def f_X6_seems_b36 (a2 : Int32) : Option (Int32) := some (a2 + (3 : Int32))
def f_X6_seems_b44 (a2 : Int32) : Option (Int32) := some a2
def f_X6_seems (a1 : Int32) (a2 : Int32) (M : xMem) : Option (Int32) := xchk (xb a1 6) ((if (M 3 7 a1.toNatClampNeg) = (2 : Int32) then (f_X6_seems_b36 a2) else (if (M 3 7 a1.toNatClampNeg) = (3 : Int32) then (f_X6_seems_b44 a2) else (if (M 3 7 a1.toNatClampNeg) = (4 : Int32) then (f_X6_seems_b36 a2) else (if (M 3 7 a1.toNatClampNeg) = (5 : Int32) then some (a2 / (2 : Int32)) else (f_X6_seems_b44 a2))))))
set_option maxHeartbeats 4000000 in
set_option maxRecDepth 100000 in
theorem w_X6_seems_b36 {p : Program} {l : Launch} {e : Env} {s : State} {m : MethodId} {args : Array Value} {below : List Frame} {meth : Method} {c : Code} {G : xG} {rr : Int32} (E : xE p s m args meth c cX6_seems 3 (some .int) RX6 G) (a2 : Int32) (M : xMem) (L : xLL) : f_X6_seems_b36 a2  = some rr → ∀ (ls : Array Slot), lv_has ls 3 [(2, .int a2)] → ∀ (H : Heap) (locs : List Loc), xI G M L s.heap H locs → W p l e (xR 1) s m args below meth c H locs 0 0 (MQ below (xQi G rr M L s.heap.size) args s 0 0 (xZ G s.heap.size)) (F0 m 36 ls []) := by
  have hx := E.1
  have hb := E.2.1
  intro  hf ls hl H locs hI
  rw [f_X6_seems_b36] at hf
  refine lv_iload_n hx hb dX6_seems_36 rfl (lv_at hl 0 rfl) ?_
  refine lv_iconst (v := 3) hx hb dX6_seems_37 (by decide) ?_
  refine lv_iadd hx hb dX6_seems_38 ?_
  cases hf
  exact x_iret E hI rfl dX6_seems_39
set_option maxHeartbeats 4000000 in
set_option maxRecDepth 100000 in
theorem w_X6_seems_b44 {p : Program} {l : Launch} {e : Env} {s : State} {m : MethodId} {args : Array Value} {below : List Frame} {meth : Method} {c : Code} {G : xG} {rr : Int32} (E : xE p s m args meth c cX6_seems 3 (some .int) RX6 G) (a2 : Int32) (M : xMem) (L : xLL) : f_X6_seems_b44 a2  = some rr → ∀ (ls : Array Slot), lv_has ls 3 [(2, .int a2)] → ∀ (H : Heap) (locs : List Loc), xI G M L s.heap H locs → W p l e (xR 1) s m args below meth c H locs 0 0 (MQ below (xQi G rr M L s.heap.size) args s 0 0 (xZ G s.heap.size)) (F0 m 44 ls []) := by
  have hx := E.1
  have hb := E.2.1
  intro  hf ls hl H locs hI
  rw [f_X6_seems_b44] at hf
  refine lv_iload_n hx hb dX6_seems_44 rfl (lv_at hl 0 rfl) ?_
  cases hf
  exact x_iret E hI rfl dX6_seems_45
set_option maxHeartbeats 4000000 in
set_option maxRecDepth 100000 in
theorem c_X6_seems (l : Launch) (G : xG) (sz : Nat) (M : xMem) (L : xLL) (a1 : Int32) (a2 : Int32) {rr : Int32} (hf : f_X6_seems a1 a2 M = some rr) : Met l yX6_seems (Cond.code yX6_seems cX6_seems 3 (some .int) :: xTB) (xR 1) (xP G M L sz [.ref (xq G 3 0), .int a1, .int a2]) (xQi G rr M L sz) 0 0 (xZ G sz) := by
  refine x_met (cc := cX6_seems) (nL := 3) (rt := (some .int)) (by decide) (Nat.le_of_ble_eq_true rfl) ?_
  intro p e s m below meth c ls hsz E hl hI
  subst hsz
  have E : xE p s m _ meth c cX6_seems 3 (some .int) RX6 G := E
  have hx := E.1
  have hb := E.2.1
  have hl : lv_has ls 3 [(0, .ref (xq G 3 0)), (1, .int a1), (2, .int a2)] := hl
  rw [f_X6_seems] at hf
  refine lv_aload_n hx hb dX6_seems_0 rfl (lv_at hl 0 rfl) ?_
  refine gf_X6_24_3 E hI dX6_seems_1 ?_
  refine lv_iload_n hx hb dX6_seems_4 rfl (lv_at hl 1 rfl) ?_
  obtain ⟨h5b, hf⟩ := xchk_s hf
  refine x_iald (n := 6) E hI mx_3_7 (fun _ _ => rfl) h5b dX6_seems_5 ?_
  by_cases c6_0 : (M 3 7 a1.toNatClampNeg) = (2 : Int32)
  · replace hf := xif_t c6_0 hf
    refine x_tsIn (off := 30) (tgt := 36) hx hb c6_0 dX6_seems_6 (by decide) (by decide) (by decide) (by decide) ?_
    exact (w_X6_seems_b36 E (a2 := a2) (M := M) (L := L))  hf _ (lv_sub hl [2] rfl) _ _ hI
  · replace hf := xif_f c6_0 hf
    by_cases c6_1 : (M 3 7 a1.toNatClampNeg) = (3 : Int32)
    · replace hf := xif_t c6_1 hf
      refine x_tsIn (off := 38) (tgt := 44) hx hb c6_1 dX6_seems_6 (by decide) (by decide) (by decide) (by decide) ?_
      exact (w_X6_seems_b44 E (a2 := a2) (M := M) (L := L))  hf _ (lv_sub hl [2] rfl) _ _ hI
    · replace hf := xif_f c6_1 hf
      by_cases c6_2 : (M 3 7 a1.toNatClampNeg) = (4 : Int32)
      · replace hf := xif_t c6_2 hf
        refine x_tsIn (off := 30) (tgt := 36) hx hb c6_2 dX6_seems_6 (by decide) (by decide) (by decide) (by decide) ?_
        exact (w_X6_seems_b36 E (a2 := a2) (M := M) (L := L))  hf _ (lv_sub hl [2] rfl) _ _ hI
      · replace hf := xif_f c6_2 hf
        by_cases c6_3 : (M 3 7 a1.toNatClampNeg) = (5 : Int32)
        · replace hf := xif_t c6_3 hf
          refine x_tsIn (off := 34) (tgt := 40) hx hb c6_3 dX6_seems_6 (by decide) (by decide) (by decide) (by decide) ?_
          refine lv_iload_n hx hb dX6_seems_40 rfl (lv_at hl 2 rfl) ?_
          refine lv_iconst (v := 2) hx hb dX6_seems_41 (by decide) ?_
          refine lv_idiv hx hb dX6_seems_42 (by decide) ?_
          cases hf
          exact x_iret E hI rfl dX6_seems_43
        · replace hf := xif_f c6_3 hf
          refine x_tsOut hx hb dX6_seems_6 (fun k hk => by
            have hk2 : k = 0 ∨ k = 1 ∨ k = 2 ∨ k = 3 := by
              have hk3 : k < 4 := hk
              omega
            rcases hk2 with rfl | rfl | rfl | rfl
            · exact c6_0
            · exact c6_1
            · exact c6_2
            · exact c6_3) (tgt := 44) (by decide) ?_
          exact (w_X6_seems_b44 E (a2 := a2) (M := M) (L := L))  hf _ (lv_sub hl [2] rfl) _ _ hI
theorem dX0_stiffness_0 : decode cX0_stiffness 0 = .ok (.aload_n 0, 1) := by decide +kernel
theorem dX0_stiffness_1 : decode cX0_stiffness 1 = .ok (.getfield 27, 3) := by decide +kernel
theorem dX0_stiffness_4 : decode cX0_stiffness 4 = .ok (.getfield 74, 3) := by decide +kernel
theorem dX0_stiffness_7 : decode cX0_stiffness 7 = .ok (.iload_n 1, 1) := by decide +kernel
theorem dX0_stiffness_8 : decode cX0_stiffness 8 = .ok (.iaload, 1) := by decide +kernel
theorem dX0_stiffness_9 : decode cX0_stiffness 9 = .ok (.ifCond .ne 7, 3) := by decide +kernel
theorem dX0_stiffness_12 : decode cX0_stiffness 12 = .ok (.iconst 0, 1) := by decide +kernel
theorem dX0_stiffness_13 : decode cX0_stiffness 13 = .ok (.goto 19, 3) := by decide +kernel
theorem dX0_stiffness_16 : decode cX0_stiffness 16 = .ok (.aload_n 0, 1) := by decide +kernel
theorem dX0_stiffness_17 : decode cX0_stiffness 17 = .ok (.getfield 24, 3) := by decide +kernel
theorem dX0_stiffness_20 : decode cX0_stiffness 20 = .ok (.iload_n 1, 1) := by decide +kernel
theorem dX0_stiffness_21 : decode cX0_stiffness 21 = .ok (.iaload, 1) := by decide +kernel
theorem dX0_stiffness_22 : decode cX0_stiffness 22 = .ok (.aload_n 0, 1) := by decide +kernel
theorem dX0_stiffness_23 : decode cX0_stiffness 23 = .ok (.getfield 27, 3) := by decide +kernel
theorem dX0_stiffness_26 : decode cX0_stiffness 26 = .ok (.getfield 74, 3) := by decide +kernel
theorem dX0_stiffness_29 : decode cX0_stiffness 29 = .ok (.iload_n 1, 1) := by decide +kernel
theorem dX0_stiffness_30 : decode cX0_stiffness 30 = .ok (.iaload, 1) := by decide +kernel
theorem dX0_stiffness_31 : decode cX0_stiffness 31 = .ok (.idiv, 1) := by decide +kernel
theorem dX0_stiffness_32 : decode cX0_stiffness 32 = .ok (.ireturn, 1) := by decide +kernel
def f_X0_stiffness_b32 (t32_0 : Int32) : Option (Int32) := some t32_0
def f_X0_stiffness (i : Nat) (a1 : Int32) (M : xMem) : Option (Int32) := xchk (xb a1 5) ((if (M 3 4 a1.toNatClampNeg) = (0 : Int32) then (f_X0_stiffness_b32) (0 : Int32) else xchk (xb a1 5) (xchk (xb a1 5) (xchk (xnz (M 3 4 a1.toNatClampNeg)) ((f_X0_stiffness_b32) ((M (i + 9) 6 a1.toNatClampNeg) / (M 3 4 a1.toNatClampNeg)))))))
set_option maxHeartbeats 4000000 in
set_option maxRecDepth 100000 in
theorem w_X0_stiffness_b32 {p : Program} {l : Launch} {e : Env} {s : State} {m : MethodId} {args : Array Value} {below : List Frame} {meth : Method} {c : Code} {G : xG} {rr : Int32} (E : xE p s m args meth c cX0_stiffness 2 (some .int) RX0 G) (M : xMem) (L : xLL) : ∀ (t32_0 : Int32), f_X0_stiffness_b32 t32_0 = some rr → ∀ (ls : Array Slot), lv_has ls 2 [] → ∀ (H : Heap) (locs : List Loc), xI G M L s.heap H locs → W p l e (xR 1) s m args below meth c H locs 0 0 (MQ below (xQi G rr M L s.heap.size) args s 0 0 (xZ G s.heap.size)) (F0 m 32 ls [.int t32_0]) := by
  have hx := E.1
  have hb := E.2.1
  intro t32_0 hf ls hl H locs hI
  rw [f_X0_stiffness_b32] at hf
  cases hf
  exact x_iret E hI rfl dX0_stiffness_32
set_option maxHeartbeats 4000000 in
set_option maxRecDepth 100000 in
theorem c_X0_stiffness (l : Launch) (G : xG) (sz : Nat) (M : xMem) (L : xLL) (i : Nat) (a1 : Int32) (hi : i < 21) {rr : Int32} (hf : f_X0_stiffness i a1 M = some rr) : Met l yX0_stiffness (Cond.code yX0_stiffness cX0_stiffness 2 (some .int) :: xTB) (xR 1) (xP G M L sz [.ref (xq G (i + 9) 0), .int a1]) (xQi G rr M L sz) 0 0 (xZ G sz) := by
  refine x_met (cc := cX0_stiffness) (nL := 2) (rt := (some .int)) (by decide) (Nat.le_of_ble_eq_true rfl) ?_
  intro p e s m below meth c ls hsz E hl hI
  subst hsz
  have E : xE p s m _ meth c cX0_stiffness 2 (some .int) RX0 G := E
  have hx := E.1
  have hb := E.2.1
  have hl : lv_has ls 2 [(0, .ref (xq G (i + 9) 0)), (1, .int a1)] := hl
  rw [f_X0_stiffness] at hf
  refine lv_aload_n hx hb dX0_stiffness_0 rfl (lv_at hl 0 rfl) ?_
  refine gf_X0_27 E hI hi dX0_stiffness_1 ?_
  refine gf_X0_74_3 E hI dX0_stiffness_4 ?_
  refine lv_iload_n hx hb dX0_stiffness_7 rfl (lv_at hl 1 rfl) ?_
  obtain ⟨h8b, hf⟩ := xchk_s hf
  refine x_iald (n := 5) E hI mx_3_4 (fun _ _ => rfl) h8b dX0_stiffness_8 ?_
  refine lv_if_ne (tgt := 16) hx hb dX0_stiffness_9 (by decide) (fun c9 => ?_) (fun c9 => ?_)
  · replace hf := xif_f c9 hf
    refine lv_aload_n hx hb dX0_stiffness_16 rfl (lv_at hl 0 rfl) ?_
    refine gf_X0_24 E hI hi dX0_stiffness_17 ?_
    refine lv_iload_n hx hb dX0_stiffness_20 rfl (lv_at hl 1 rfl) ?_
    obtain ⟨h21b, hf⟩ := xchk_s hf
    refine x_iald (n := 5) E hI (mf_6 hi) (fun _ _ => rfl) h21b dX0_stiffness_21 ?_
    refine lv_aload_n hx hb dX0_stiffness_22 rfl (lv_at hl 0 rfl) ?_
    refine gf_X0_27 E hI hi dX0_stiffness_23 ?_
    refine gf_X0_74_3 E hI dX0_stiffness_26 ?_
    refine lv_iload_n hx hb dX0_stiffness_29 rfl (lv_at hl 1 rfl) ?_
    obtain ⟨h30b, hf⟩ := xchk_s hf
    refine x_iald (n := 5) E hI mx_3_4 (fun _ _ => rfl) h30b dX0_stiffness_30 ?_
    obtain ⟨h31z, hf⟩ := xchk_s hf
    refine lv_idiv hx hb dX0_stiffness_31 (xnz_s h31z) ?_
    exact (w_X0_stiffness_b32 E (M := M) (L := L)) ((M (i + 9) 6 a1.toNatClampNeg) / (M 3 4 a1.toNatClampNeg)) hf _ (lv_sub hl [] rfl) _ _ hI
  · replace hf := xif_t c9 hf
    refine lv_iconst (v := 0) hx hb dX0_stiffness_12 (by decide) ?_
    refine lv_goto (tgt := 32) hx hb dX0_stiffness_13 (by decide) ?_
    exact (w_X0_stiffness_b32 E (M := M) (L := L)) (0 : Int32) hf _ (lv_sub hl [] rfl) _ _ hI
theorem dX0_eggsAt_0 : decode cX0_eggsAt 0 = .ok (.iconst 0, 1) := by decide +kernel
theorem dX0_eggsAt_1 : decode cX0_eggsAt 1 = .ok (.istore_n 2, 1) := by decide +kernel
theorem dX0_eggsAt_2 : decode cX0_eggsAt 2 = .ok (.iconst 0, 1) := by decide +kernel
theorem dX0_eggsAt_3 : decode cX0_eggsAt 3 = .ok (.istore_n 3, 1) := by decide +kernel
theorem dX0_eggsAt_4 : decode cX0_eggsAt 4 = .ok (.iload_n 3, 1) := by decide +kernel
theorem dX0_eggsAt_5 : decode cX0_eggsAt 5 = .ok (.aload_n 0, 1) := by decide +kernel
theorem dX0_eggsAt_6 : decode cX0_eggsAt 6 = .ok (.getfield 27, 3) := by decide +kernel
theorem dX0_eggsAt_9 : decode cX0_eggsAt 9 = .ok (.getfield 94, 3) := by decide +kernel
theorem dX0_eggsAt_12 : decode cX0_eggsAt 12 = .ok (.if_icmp .ge 25, 3) := by decide +kernel
theorem dX0_eggsAt_15 : decode cX0_eggsAt 15 = .ok (.aload_n 0, 1) := by decide +kernel
theorem dX0_eggsAt_16 : decode cX0_eggsAt 16 = .ok (.getfield 9, 3) := by decide +kernel
theorem dX0_eggsAt_19 : decode cX0_eggsAt 19 = .ok (.iload_n 3, 1) := by decide +kernel
theorem dX0_eggsAt_20 : decode cX0_eggsAt 20 = .ok (.iaload, 1) := by decide +kernel
theorem dX0_eggsAt_21 : decode cX0_eggsAt 21 = .ok (.iload_n 1, 1) := by decide +kernel
theorem dX0_eggsAt_22 : decode cX0_eggsAt 22 = .ok (.if_icmp .ne 9, 3) := by decide +kernel
theorem dX0_eggsAt_25 : decode cX0_eggsAt 25 = .ok (.iload_n 2, 1) := by decide +kernel
theorem dX0_eggsAt_26 : decode cX0_eggsAt 26 = .ok (.iconst 1, 1) := by decide +kernel
theorem dX0_eggsAt_27 : decode cX0_eggsAt 27 = .ok (.iload_n 3, 1) := by decide +kernel
theorem dX0_eggsAt_28 : decode cX0_eggsAt 28 = .ok (.ishl, 1) := by decide +kernel
theorem dX0_eggsAt_29 : decode cX0_eggsAt 29 = .ok (.ior, 1) := by decide +kernel
theorem dX0_eggsAt_30 : decode cX0_eggsAt 30 = .ok (.istore_n 2, 1) := by decide +kernel
theorem dX0_eggsAt_31 : decode cX0_eggsAt 31 = .ok (.iinc 3 1, 3) := by decide +kernel
theorem dX0_eggsAt_34 : decode cX0_eggsAt 34 = .ok (.goto (-30), 3) := by decide +kernel
theorem dX0_eggsAt_37 : decode cX0_eggsAt 37 = .ok (.iload_n 2, 1) := by decide +kernel
theorem dX0_eggsAt_38 : decode cX0_eggsAt 38 = .ok (.ireturn, 1) := by decide +kernel
def f_X0_eggsAt_b31 (v4_3 : Int32) (k4 : Int32 → Int32 → Option (Int32)) (v31_2 : Int32) : Option (Int32) := k4 v31_2 (v4_3 + (1 : Int32))
def f_X0_eggsAt_l4 (i : Nat) (a1 : Int32) (M : xMem) : Nat → Int32 → Int32 → Option (Int32)
  | 0, _, _ => none
  | n + 1, v4_2, v4_3 => (if (M 3 0 1) ≤ v4_3 then some v4_2 else xchk (xb v4_3 6) ((if (M (i + 9) 2 v4_3.toNatClampNeg) = a1 then (f_X0_eggsAt_b31 v4_3 (f_X0_eggsAt_l4 i a1 M n)) (v4_2 ||| ((1 : Int32) <<< (v4_3 &&& 31))) else (f_X0_eggsAt_b31 v4_3 (f_X0_eggsAt_l4 i a1 M n)) v4_2)))
def f_X0_eggsAt (i : Nat) (a1 : Int32) (M : xMem) : Option (Int32) := (f_X0_eggsAt_l4 i a1 M FU) (0 : Int32) (0 : Int32)
set_option maxHeartbeats 4000000 in
set_option maxRecDepth 100000 in
theorem w_X0_eggsAt_b31 {p : Program} {l : Launch} {e : Env} {s : State} {m : MethodId} {args : Array Value} {below : List Frame} {meth : Method} {c : Code} {G : xG} {rr : Int32} (E : xE p s m args meth c cX0_eggsAt 4 (some .int) RX0 G) (i : Nat) (a1 : Int32) (M : xMem) (L : xLL) (v4_2 : Int32) (v4_3 : Int32) (k4 : Int32 → Int32 → Option (Int32)) (hk4 : ∀ (v4_2 : Int32) (v4_3 : Int32), k4 v4_2 v4_3 = some rr → ∀ (ls : Array Slot), lv_has ls 4 [(0, .ref (xq G (i + 9) 0)), (1, .int a1), (2, .int v4_2), (3, .int v4_3)] → ∀ (H : Heap) (locs : List Loc), xI G M L s.heap H locs → W p l e (xR 1) s m args below meth c H locs 0 0 (MQ below (xQi G rr M L s.heap.size) args s 0 0 (xZ G s.heap.size)) (F0 m 4 ls [])) : ∀ (v31_2 : Int32), f_X0_eggsAt_b31 v4_3 k4 v31_2 = some rr → ∀ (ls : Array Slot), lv_has ls 4 [(0, .ref (xq G (i + 9) 0)), (1, .int a1), (2, .int v31_2), (3, .int v4_3)] → ∀ (H : Heap) (locs : List Loc), xI G M L s.heap H locs → W p l e (xR 1) s m args below meth c H locs 0 0 (MQ below (xQi G rr M L s.heap.size) args s 0 0 (xZ G s.heap.size)) (F0 m 31 ls []) := by
  have hx := E.1
  have hb := E.2.1
  intro v31_2 hf ls hl H locs hI
  rw [f_X0_eggsAt_b31] at hf
  refine lv_iinc (v := (v4_3 + (1 : Int32))) (lv' := [(3, .int (v4_3 + (1 : Int32))), (0, .ref (xq G (i + 9) 0)), (1, .int a1), (2, .int v31_2)]) hx hb dX0_eggsAt_31 hl (k := 3) rfl rfl (by decide) rfl (fun ls hl => ?_)
  refine lv_goto (tgt := 4) hx hb dX0_eggsAt_34 (by decide) ?_
  exact hk4 v31_2 (v4_3 + (1 : Int32)) hf _ (lv_sub hl [1, 2, 3, 0] rfl) _ _ hI
set_option maxHeartbeats 4000000 in
set_option maxRecDepth 100000 in
theorem w_X0_eggsAt_l4 {p : Program} {l : Launch} {e : Env} {s : State} {m : MethodId} {args : Array Value} {below : List Frame} {meth : Method} {c : Code} {G : xG} {rr : Int32} (E : xE p s m args meth c cX0_eggsAt 4 (some .int) RX0 G) (i : Nat) (a1 : Int32) (M : xMem) (L : xLL) (hi : i < 21) : ∀ (n : Nat), ∀ (v4_2 : Int32) (v4_3 : Int32), f_X0_eggsAt_l4 i a1 M n v4_2 v4_3 = some rr → ∀ (ls : Array Slot), lv_has ls 4 [(0, .ref (xq G (i + 9) 0)), (1, .int a1), (2, .int v4_2), (3, .int v4_3)] → ∀ (H : Heap) (locs : List Loc), xI G M L s.heap H locs → W p l e (xR 1) s m args below meth c H locs 0 0 (MQ below (xQi G rr M L s.heap.size) args s 0 0 (xZ G s.heap.size)) (F0 m 4 ls []) := by
  have hx := E.1
  have hb := E.2.1
  intro n
  induction n with
  | zero =>
    intro v4_2 v4_3 hf
    exact absurd hf (by simp [f_X0_eggsAt_l4])
  | succ n ih =>
    intro v4_2 v4_3 hf ls hl H locs hI
    rw [f_X0_eggsAt_l4] at hf
    refine lv_iload_n hx hb dX0_eggsAt_4 rfl (lv_at hl 3 rfl) ?_
    refine lv_aload_n hx hb dX0_eggsAt_5 rfl (lv_at hl 0 rfl) ?_
    refine gf_X0_27 E hI hi dX0_eggsAt_6 ?_
    refine gf_X0_94_3 E hI dX0_eggsAt_9 ?_
    refine lv_icmp_ge (tgt := 37) hx hb dX0_eggsAt_12 (by decide) (fun c12 => ?_) (fun c12 => ?_)
    · replace hf := xif_t c12 hf
      refine lv_iload_n hx hb dX0_eggsAt_37 rfl (lv_at hl 2 rfl) ?_
      cases hf
      exact x_iret E hI rfl dX0_eggsAt_38
    · replace hf := xif_f c12 hf
      refine lv_aload_n hx hb dX0_eggsAt_15 rfl (lv_at hl 0 rfl) ?_
      refine gf_X0_9 E hI hi dX0_eggsAt_16 ?_
      refine lv_iload_n hx hb dX0_eggsAt_19 rfl (lv_at hl 3 rfl) ?_
      obtain ⟨h20b, hf⟩ := xchk_s hf
      refine x_iald (n := 6) E hI (mf_2 hi) (fun _ _ => rfl) h20b dX0_eggsAt_20 ?_
      refine lv_iload_n hx hb dX0_eggsAt_21 rfl (lv_at hl 1 rfl) ?_
      refine lv_icmp_ne (tgt := 31) hx hb dX0_eggsAt_22 (by decide) (fun c22 => ?_) (fun c22 => ?_)
      · replace hf := xif_f c22 hf
        exact (w_X0_eggsAt_b31 E (i := i) (a1 := a1) (M := M) (L := L) (v4_2 := v4_2) (v4_3 := v4_3) (k4 := (f_X0_eggsAt_l4 i a1 M n)) (hk4 := ih)) v4_2 hf _ (lv_sub hl [0, 1, 2, 3] rfl) _ _ hI
      · replace hf := xif_t c22 hf
        refine lv_iload_n hx hb dX0_eggsAt_25 rfl (lv_at hl 2 rfl) ?_
        refine lv_iconst (v := 1) hx hb dX0_eggsAt_26 (by decide) ?_
        refine lv_iload_n hx hb dX0_eggsAt_27 rfl (lv_at hl 3 rfl) ?_
        refine lv_ishl hx hb dX0_eggsAt_28 ?_
        refine lv_ior hx hb dX0_eggsAt_29 ?_
        refine lv_istore_n (lv' := [(2, .int (v4_2 ||| ((1 : Int32) <<< (v4_3 &&& 31)))), (0, .ref (xq G (i + 9) 0)), (1, .int a1), (3, .int v4_3)]) hx hb dX0_eggsAt_30 rfl hl (by decide) rfl (fun ls hl => ?_)
        exact (w_X0_eggsAt_b31 E (i := i) (a1 := a1) (M := M) (L := L) (v4_2 := v4_2) (v4_3 := v4_3) (k4 := (f_X0_eggsAt_l4 i a1 M n)) (hk4 := ih)) (v4_2 ||| ((1 : Int32) <<< (v4_3 &&& 31))) hf _ (lv_sub hl [1, 2, 0, 3] rfl) _ _ hI
set_option maxHeartbeats 4000000 in
set_option maxRecDepth 100000 in
theorem c_X0_eggsAt (l : Launch) (G : xG) (sz : Nat) (M : xMem) (L : xLL) (i : Nat) (a1 : Int32) (hi : i < 21) {rr : Int32} (hf : f_X0_eggsAt i a1 M = some rr) : Met l yX0_eggsAt (Cond.code yX0_eggsAt cX0_eggsAt 4 (some .int) :: xTB) (xR 1) (xP G M L sz [.ref (xq G (i + 9) 0), .int a1]) (xQi G rr M L sz) 0 0 (xZ G sz) := by
  refine x_met (cc := cX0_eggsAt) (nL := 4) (rt := (some .int)) (by decide) (Nat.le_of_ble_eq_true rfl) ?_
  intro p e s m below meth c ls hsz E hl hI
  subst hsz
  have E : xE p s m _ meth c cX0_eggsAt 4 (some .int) RX0 G := E
  have hx := E.1
  have hb := E.2.1
  have hl : lv_has ls 4 [(0, .ref (xq G (i + 9) 0)), (1, .int a1)] := hl
  rw [f_X0_eggsAt] at hf
  refine lv_iconst (v := 0) hx hb dX0_eggsAt_0 (by decide) ?_
  refine lv_istore_n (lv' := [(2, .int (0 : Int32)), (0, .ref (xq G (i + 9) 0)), (1, .int a1)]) hx hb dX0_eggsAt_1 rfl hl (by decide) rfl (fun ls hl => ?_)
  refine lv_iconst (v := 0) hx hb dX0_eggsAt_2 (by decide) ?_
  refine lv_istore_n (lv' := [(3, .int (0 : Int32)), (2, .int (0 : Int32)), (0, .ref (xq G (i + 9) 0)), (1, .int a1)]) hx hb dX0_eggsAt_3 rfl hl (by decide) rfl (fun ls hl => ?_)
  exact (w_X0_eggsAt_l4 E (i := i) (a1 := a1) (M := M) (L := L) (hi := hi) FU) (0 : Int32) (0 : Int32) hf _ (lv_sub hl [2, 3, 1, 0] rfl) _ _ hI
theorem dJ6_bitCount_0f7a4_0 : decode cJ6_bitCount_0f7a4 0 = .ok (.iload_n 0, 1) := by decide +kernel
theorem dJ6_bitCount_0f7a4_1 : decode cJ6_bitCount_0f7a4 1 = .ok (.iload_n 0, 1) := by decide +kernel
theorem dJ6_bitCount_0f7a4_2 : decode cJ6_bitCount_0f7a4 2 = .ok (.iconst 1, 1) := by decide +kernel
theorem dJ6_bitCount_0f7a4_3 : decode cJ6_bitCount_0f7a4 3 = .ok (.iushr, 1) := by decide +kernel
theorem dJ6_bitCount_0f7a4_4 : decode cJ6_bitCount_0f7a4 4 = .ok (.ldc_w 265, 3) := by decide +kernel
theorem dJ6_bitCount_0f7a4_7 : decode cJ6_bitCount_0f7a4 7 = .ok (.iand, 1) := by decide +kernel
theorem dJ6_bitCount_0f7a4_8 : decode cJ6_bitCount_0f7a4 8 = .ok (.isub, 1) := by decide +kernel
theorem dJ6_bitCount_0f7a4_9 : decode cJ6_bitCount_0f7a4 9 = .ok (.istore_n 0, 1) := by decide +kernel
theorem dJ6_bitCount_0f7a4_10 : decode cJ6_bitCount_0f7a4 10 = .ok (.iload_n 0, 1) := by decide +kernel
theorem dJ6_bitCount_0f7a4_11 : decode cJ6_bitCount_0f7a4 11 = .ok (.ldc_w 266, 3) := by decide +kernel
theorem dJ6_bitCount_0f7a4_14 : decode cJ6_bitCount_0f7a4 14 = .ok (.iand, 1) := by decide +kernel
theorem dJ6_bitCount_0f7a4_15 : decode cJ6_bitCount_0f7a4 15 = .ok (.iload_n 0, 1) := by decide +kernel
theorem dJ6_bitCount_0f7a4_16 : decode cJ6_bitCount_0f7a4 16 = .ok (.iconst 2, 1) := by decide +kernel
theorem dJ6_bitCount_0f7a4_17 : decode cJ6_bitCount_0f7a4 17 = .ok (.iushr, 1) := by decide +kernel
theorem dJ6_bitCount_0f7a4_18 : decode cJ6_bitCount_0f7a4 18 = .ok (.ldc_w 266, 3) := by decide +kernel
theorem dJ6_bitCount_0f7a4_21 : decode cJ6_bitCount_0f7a4 21 = .ok (.iand, 1) := by decide +kernel
theorem dJ6_bitCount_0f7a4_22 : decode cJ6_bitCount_0f7a4 22 = .ok (.iadd, 1) := by decide +kernel
theorem dJ6_bitCount_0f7a4_23 : decode cJ6_bitCount_0f7a4 23 = .ok (.istore_n 0, 1) := by decide +kernel
theorem dJ6_bitCount_0f7a4_24 : decode cJ6_bitCount_0f7a4 24 = .ok (.iload_n 0, 1) := by decide +kernel
theorem dJ6_bitCount_0f7a4_25 : decode cJ6_bitCount_0f7a4 25 = .ok (.iload_n 0, 1) := by decide +kernel
theorem dJ6_bitCount_0f7a4_26 : decode cJ6_bitCount_0f7a4 26 = .ok (.iconst 4, 1) := by decide +kernel
theorem dJ6_bitCount_0f7a4_27 : decode cJ6_bitCount_0f7a4 27 = .ok (.iushr, 1) := by decide +kernel
theorem dJ6_bitCount_0f7a4_28 : decode cJ6_bitCount_0f7a4 28 = .ok (.iadd, 1) := by decide +kernel
theorem dJ6_bitCount_0f7a4_29 : decode cJ6_bitCount_0f7a4 29 = .ok (.ldc_w 267, 3) := by decide +kernel
theorem dJ6_bitCount_0f7a4_32 : decode cJ6_bitCount_0f7a4 32 = .ok (.iand, 1) := by decide +kernel
theorem dJ6_bitCount_0f7a4_33 : decode cJ6_bitCount_0f7a4 33 = .ok (.istore_n 0, 1) := by decide +kernel
theorem dJ6_bitCount_0f7a4_34 : decode cJ6_bitCount_0f7a4 34 = .ok (.iload_n 0, 1) := by decide +kernel
theorem dJ6_bitCount_0f7a4_35 : decode cJ6_bitCount_0f7a4 35 = .ok (.iload_n 0, 1) := by decide +kernel
theorem dJ6_bitCount_0f7a4_36 : decode cJ6_bitCount_0f7a4 36 = .ok (.bipush 8, 2) := by decide +kernel
theorem dJ6_bitCount_0f7a4_38 : decode cJ6_bitCount_0f7a4 38 = .ok (.iushr, 1) := by decide +kernel
theorem dJ6_bitCount_0f7a4_39 : decode cJ6_bitCount_0f7a4 39 = .ok (.iadd, 1) := by decide +kernel
theorem dJ6_bitCount_0f7a4_40 : decode cJ6_bitCount_0f7a4 40 = .ok (.istore_n 0, 1) := by decide +kernel
theorem dJ6_bitCount_0f7a4_41 : decode cJ6_bitCount_0f7a4 41 = .ok (.iload_n 0, 1) := by decide +kernel
theorem dJ6_bitCount_0f7a4_42 : decode cJ6_bitCount_0f7a4 42 = .ok (.iload_n 0, 1) := by decide +kernel
theorem dJ6_bitCount_0f7a4_43 : decode cJ6_bitCount_0f7a4 43 = .ok (.bipush 16, 2) := by decide +kernel
theorem dJ6_bitCount_0f7a4_45 : decode cJ6_bitCount_0f7a4 45 = .ok (.iushr, 1) := by decide +kernel
theorem dJ6_bitCount_0f7a4_46 : decode cJ6_bitCount_0f7a4 46 = .ok (.iadd, 1) := by decide +kernel
theorem dJ6_bitCount_0f7a4_47 : decode cJ6_bitCount_0f7a4 47 = .ok (.istore_n 0, 1) := by decide +kernel
theorem dJ6_bitCount_0f7a4_48 : decode cJ6_bitCount_0f7a4 48 = .ok (.iload_n 0, 1) := by decide +kernel
theorem dJ6_bitCount_0f7a4_49 : decode cJ6_bitCount_0f7a4 49 = .ok (.bipush 63, 2) := by decide +kernel
theorem dJ6_bitCount_0f7a4_51 : decode cJ6_bitCount_0f7a4 51 = .ok (.iand, 1) := by decide +kernel
theorem dJ6_bitCount_0f7a4_52 : decode cJ6_bitCount_0f7a4 52 = .ok (.ireturn, 1) := by decide +kernel
def f_J6_bitCount_0f7a4 (a0 : Int32) (M : xMem) : Option (Int32) := some ((((((((a0 - ((((a0).toUInt32 >>> (((1 : Int32)).toUInt32 &&& Int32.toUInt32 31)).toInt32) &&& (1431655765 : Int32))) &&& (858993459 : Int32)) + (((((a0 - ((((a0).toUInt32 >>> (((1 : Int32)).toUInt32 &&& Int32.toUInt32 31)).toInt32) &&& (1431655765 : Int32)))).toUInt32 >>> (((2 : Int32)).toUInt32 &&& Int32.toUInt32 31)).toInt32) &&& (858993459 : Int32))) + ((((((a0 - ((((a0).toUInt32 >>> (((1 : Int32)).toUInt32 &&& Int32.toUInt32 31)).toInt32) &&& (1431655765 : Int32))) &&& (858993459 : Int32)) + (((((a0 - ((((a0).toUInt32 >>> (((1 : Int32)).toUInt32 &&& Int32.toUInt32 31)).toInt32) &&& (1431655765 : Int32)))).toUInt32 >>> (((2 : Int32)).toUInt32 &&& Int32.toUInt32 31)).toInt32) &&& (858993459 : Int32)))).toUInt32 >>> (((4 : Int32)).toUInt32 &&& Int32.toUInt32 31)).toInt32)) &&& (252645135 : Int32)) + ((((((((a0 - ((((a0).toUInt32 >>> (((1 : Int32)).toUInt32 &&& Int32.toUInt32 31)).toInt32) &&& (1431655765 : Int32))) &&& (858993459 : Int32)) + (((((a0 - ((((a0).toUInt32 >>> (((1 : Int32)).toUInt32 &&& Int32.toUInt32 31)).toInt32) &&& (1431655765 : Int32)))).toUInt32 >>> (((2 : Int32)).toUInt32 &&& Int32.toUInt32 31)).toInt32) &&& (858993459 : Int32))) + ((((((a0 - ((((a0).toUInt32 >>> (((1 : Int32)).toUInt32 &&& Int32.toUInt32 31)).toInt32) &&& (1431655765 : Int32))) &&& (858993459 : Int32)) + (((((a0 - ((((a0).toUInt32 >>> (((1 : Int32)).toUInt32 &&& Int32.toUInt32 31)).toInt32) &&& (1431655765 : Int32)))).toUInt32 >>> (((2 : Int32)).toUInt32 &&& Int32.toUInt32 31)).toInt32) &&& (858993459 : Int32)))).toUInt32 >>> (((4 : Int32)).toUInt32 &&& Int32.toUInt32 31)).toInt32)) &&& (252645135 : Int32))).toUInt32 >>> (((8 : Int32)).toUInt32 &&& Int32.toUInt32 31)).toInt32)) + (((((((((a0 - ((((a0).toUInt32 >>> (((1 : Int32)).toUInt32 &&& Int32.toUInt32 31)).toInt32) &&& (1431655765 : Int32))) &&& (858993459 : Int32)) + (((((a0 - ((((a0).toUInt32 >>> (((1 : Int32)).toUInt32 &&& Int32.toUInt32 31)).toInt32) &&& (1431655765 : Int32)))).toUInt32 >>> (((2 : Int32)).toUInt32 &&& Int32.toUInt32 31)).toInt32) &&& (858993459 : Int32))) + ((((((a0 - ((((a0).toUInt32 >>> (((1 : Int32)).toUInt32 &&& Int32.toUInt32 31)).toInt32) &&& (1431655765 : Int32))) &&& (858993459 : Int32)) + (((((a0 - ((((a0).toUInt32 >>> (((1 : Int32)).toUInt32 &&& Int32.toUInt32 31)).toInt32) &&& (1431655765 : Int32)))).toUInt32 >>> (((2 : Int32)).toUInt32 &&& Int32.toUInt32 31)).toInt32) &&& (858993459 : Int32)))).toUInt32 >>> (((4 : Int32)).toUInt32 &&& Int32.toUInt32 31)).toInt32)) &&& (252645135 : Int32)) + ((((((((a0 - ((((a0).toUInt32 >>> (((1 : Int32)).toUInt32 &&& Int32.toUInt32 31)).toInt32) &&& (1431655765 : Int32))) &&& (858993459 : Int32)) + (((((a0 - ((((a0).toUInt32 >>> (((1 : Int32)).toUInt32 &&& Int32.toUInt32 31)).toInt32) &&& (1431655765 : Int32)))).toUInt32 >>> (((2 : Int32)).toUInt32 &&& Int32.toUInt32 31)).toInt32) &&& (858993459 : Int32))) + ((((((a0 - ((((a0).toUInt32 >>> (((1 : Int32)).toUInt32 &&& Int32.toUInt32 31)).toInt32) &&& (1431655765 : Int32))) &&& (858993459 : Int32)) + (((((a0 - ((((a0).toUInt32 >>> (((1 : Int32)).toUInt32 &&& Int32.toUInt32 31)).toInt32) &&& (1431655765 : Int32)))).toUInt32 >>> (((2 : Int32)).toUInt32 &&& Int32.toUInt32 31)).toInt32) &&& (858993459 : Int32)))).toUInt32 >>> (((4 : Int32)).toUInt32 &&& Int32.toUInt32 31)).toInt32)) &&& (252645135 : Int32))).toUInt32 >>> (((8 : Int32)).toUInt32 &&& Int32.toUInt32 31)).toInt32))).toUInt32 >>> (((16 : Int32)).toUInt32 &&& Int32.toUInt32 31)).toInt32)) &&& (63 : Int32))
set_option maxHeartbeats 4000000 in
set_option maxRecDepth 100000 in
theorem c_J6_bitCount_0f7a4 (l : Launch) (G : xG) (sz : Nat) (M : xMem) (L : xLL) (a0 : Int32) {rr : Int32} (hf : f_J6_bitCount_0f7a4 a0 M = some rr) : Met l yJ6_bitCount_0f7a4 (Cond.code yJ6_bitCount_0f7a4 cJ6_bitCount_0f7a4 1 (some .int) :: xTB) (xR 1) (xP G M L sz [.int a0]) (xQi G rr M L sz) 0 0 (xZ G sz) := by
  refine x_met (cc := cJ6_bitCount_0f7a4) (nL := 1) (rt := (some .int)) (by decide) (Nat.le_of_ble_eq_true rfl) ?_
  intro p e s m below meth c ls hsz E hl hI
  subst hsz
  have E : xE p s m _ meth c cJ6_bitCount_0f7a4 1 (some .int) RJ6 G := E
  have hx := E.1
  have hb := E.2.1
  have hl : lv_has ls 1 [(0, .int a0)] := hl
  rw [f_J6_bitCount_0f7a4] at hf
  refine lv_iload_n hx hb dJ6_bitCount_0f7a4_0 rfl (lv_at hl 0 rfl) ?_
  refine lv_iload_n hx hb dJ6_bitCount_0f7a4_1 rfl (lv_at hl 0 rfl) ?_
  refine lv_iconst (v := 1) hx hb dJ6_bitCount_0f7a4_2 (by decide) ?_
  refine lv_iushr hx hb dJ6_bitCount_0f7a4_3 rfl ?_
  refine lv_ldcw hx hb E.2.2.2.2.1 (E.2.2.2.2.2.1 _ kc_J6_265) dJ6_bitCount_0f7a4_4 ?_
  refine lv_iand hx hb dJ6_bitCount_0f7a4_7 ?_
  refine lv_isub hx hb dJ6_bitCount_0f7a4_8 ?_
  refine lv_istore_n (lv' := [(0, .int (a0 - ((((a0).toUInt32 >>> (((1 : Int32)).toUInt32 &&& Int32.toUInt32 31)).toInt32) &&& (1431655765 : Int32))))]) hx hb dJ6_bitCount_0f7a4_9 rfl hl (by decide) rfl (fun ls hl => ?_)
  refine lv_iload_n hx hb dJ6_bitCount_0f7a4_10 rfl (lv_at hl 0 rfl) ?_
  refine lv_ldcw hx hb E.2.2.2.2.1 (E.2.2.2.2.2.1 _ kc_J6_266) dJ6_bitCount_0f7a4_11 ?_
  refine lv_iand hx hb dJ6_bitCount_0f7a4_14 ?_
  refine lv_iload_n hx hb dJ6_bitCount_0f7a4_15 rfl (lv_at hl 0 rfl) ?_
  refine lv_iconst (v := 2) hx hb dJ6_bitCount_0f7a4_16 (by decide) ?_
  refine lv_iushr hx hb dJ6_bitCount_0f7a4_17 rfl ?_
  refine lv_ldcw hx hb E.2.2.2.2.1 (E.2.2.2.2.2.1 _ kc_J6_266) dJ6_bitCount_0f7a4_18 ?_
  refine lv_iand hx hb dJ6_bitCount_0f7a4_21 ?_
  refine lv_iadd hx hb dJ6_bitCount_0f7a4_22 ?_
  refine lv_istore_n (lv' := [(0, .int (((a0 - ((((a0).toUInt32 >>> (((1 : Int32)).toUInt32 &&& Int32.toUInt32 31)).toInt32) &&& (1431655765 : Int32))) &&& (858993459 : Int32)) + (((((a0 - ((((a0).toUInt32 >>> (((1 : Int32)).toUInt32 &&& Int32.toUInt32 31)).toInt32) &&& (1431655765 : Int32)))).toUInt32 >>> (((2 : Int32)).toUInt32 &&& Int32.toUInt32 31)).toInt32) &&& (858993459 : Int32))))]) hx hb dJ6_bitCount_0f7a4_23 rfl hl (by decide) rfl (fun ls hl => ?_)
  refine lv_iload_n hx hb dJ6_bitCount_0f7a4_24 rfl (lv_at hl 0 rfl) ?_
  refine lv_iload_n hx hb dJ6_bitCount_0f7a4_25 rfl (lv_at hl 0 rfl) ?_
  refine lv_iconst (v := 4) hx hb dJ6_bitCount_0f7a4_26 (by decide) ?_
  refine lv_iushr hx hb dJ6_bitCount_0f7a4_27 rfl ?_
  refine lv_iadd hx hb dJ6_bitCount_0f7a4_28 ?_
  refine lv_ldcw hx hb E.2.2.2.2.1 (E.2.2.2.2.2.1 _ kc_J6_267) dJ6_bitCount_0f7a4_29 ?_
  refine lv_iand hx hb dJ6_bitCount_0f7a4_32 ?_
  refine lv_istore_n (lv' := [(0, .int (((((a0 - ((((a0).toUInt32 >>> (((1 : Int32)).toUInt32 &&& Int32.toUInt32 31)).toInt32) &&& (1431655765 : Int32))) &&& (858993459 : Int32)) + (((((a0 - ((((a0).toUInt32 >>> (((1 : Int32)).toUInt32 &&& Int32.toUInt32 31)).toInt32) &&& (1431655765 : Int32)))).toUInt32 >>> (((2 : Int32)).toUInt32 &&& Int32.toUInt32 31)).toInt32) &&& (858993459 : Int32))) + ((((((a0 - ((((a0).toUInt32 >>> (((1 : Int32)).toUInt32 &&& Int32.toUInt32 31)).toInt32) &&& (1431655765 : Int32))) &&& (858993459 : Int32)) + (((((a0 - ((((a0).toUInt32 >>> (((1 : Int32)).toUInt32 &&& Int32.toUInt32 31)).toInt32) &&& (1431655765 : Int32)))).toUInt32 >>> (((2 : Int32)).toUInt32 &&& Int32.toUInt32 31)).toInt32) &&& (858993459 : Int32)))).toUInt32 >>> (((4 : Int32)).toUInt32 &&& Int32.toUInt32 31)).toInt32)) &&& (252645135 : Int32)))]) hx hb dJ6_bitCount_0f7a4_33 rfl hl (by decide) rfl (fun ls hl => ?_)
  refine lv_iload_n hx hb dJ6_bitCount_0f7a4_34 rfl (lv_at hl 0 rfl) ?_
  refine lv_iload_n hx hb dJ6_bitCount_0f7a4_35 rfl (lv_at hl 0 rfl) ?_
  refine lv_bipush (v := 8) hx hb dJ6_bitCount_0f7a4_36 (by decide) ?_
  refine lv_iushr hx hb dJ6_bitCount_0f7a4_38 rfl ?_
  refine lv_iadd hx hb dJ6_bitCount_0f7a4_39 ?_
  refine lv_istore_n (lv' := [(0, .int ((((((a0 - ((((a0).toUInt32 >>> (((1 : Int32)).toUInt32 &&& Int32.toUInt32 31)).toInt32) &&& (1431655765 : Int32))) &&& (858993459 : Int32)) + (((((a0 - ((((a0).toUInt32 >>> (((1 : Int32)).toUInt32 &&& Int32.toUInt32 31)).toInt32) &&& (1431655765 : Int32)))).toUInt32 >>> (((2 : Int32)).toUInt32 &&& Int32.toUInt32 31)).toInt32) &&& (858993459 : Int32))) + ((((((a0 - ((((a0).toUInt32 >>> (((1 : Int32)).toUInt32 &&& Int32.toUInt32 31)).toInt32) &&& (1431655765 : Int32))) &&& (858993459 : Int32)) + (((((a0 - ((((a0).toUInt32 >>> (((1 : Int32)).toUInt32 &&& Int32.toUInt32 31)).toInt32) &&& (1431655765 : Int32)))).toUInt32 >>> (((2 : Int32)).toUInt32 &&& Int32.toUInt32 31)).toInt32) &&& (858993459 : Int32)))).toUInt32 >>> (((4 : Int32)).toUInt32 &&& Int32.toUInt32 31)).toInt32)) &&& (252645135 : Int32)) + ((((((((a0 - ((((a0).toUInt32 >>> (((1 : Int32)).toUInt32 &&& Int32.toUInt32 31)).toInt32) &&& (1431655765 : Int32))) &&& (858993459 : Int32)) + (((((a0 - ((((a0).toUInt32 >>> (((1 : Int32)).toUInt32 &&& Int32.toUInt32 31)).toInt32) &&& (1431655765 : Int32)))).toUInt32 >>> (((2 : Int32)).toUInt32 &&& Int32.toUInt32 31)).toInt32) &&& (858993459 : Int32))) + ((((((a0 - ((((a0).toUInt32 >>> (((1 : Int32)).toUInt32 &&& Int32.toUInt32 31)).toInt32) &&& (1431655765 : Int32))) &&& (858993459 : Int32)) + (((((a0 - ((((a0).toUInt32 >>> (((1 : Int32)).toUInt32 &&& Int32.toUInt32 31)).toInt32) &&& (1431655765 : Int32)))).toUInt32 >>> (((2 : Int32)).toUInt32 &&& Int32.toUInt32 31)).toInt32) &&& (858993459 : Int32)))).toUInt32 >>> (((4 : Int32)).toUInt32 &&& Int32.toUInt32 31)).toInt32)) &&& (252645135 : Int32))).toUInt32 >>> (((8 : Int32)).toUInt32 &&& Int32.toUInt32 31)).toInt32)))]) hx hb dJ6_bitCount_0f7a4_40 rfl hl (by decide) rfl (fun ls hl => ?_)
  refine lv_iload_n hx hb dJ6_bitCount_0f7a4_41 rfl (lv_at hl 0 rfl) ?_
  refine lv_iload_n hx hb dJ6_bitCount_0f7a4_42 rfl (lv_at hl 0 rfl) ?_
  refine lv_bipush (v := 16) hx hb dJ6_bitCount_0f7a4_43 (by decide) ?_
  refine lv_iushr hx hb dJ6_bitCount_0f7a4_45 rfl ?_
  refine lv_iadd hx hb dJ6_bitCount_0f7a4_46 ?_
  refine lv_istore_n (lv' := [(0, .int (((((((a0 - ((((a0).toUInt32 >>> (((1 : Int32)).toUInt32 &&& Int32.toUInt32 31)).toInt32) &&& (1431655765 : Int32))) &&& (858993459 : Int32)) + (((((a0 - ((((a0).toUInt32 >>> (((1 : Int32)).toUInt32 &&& Int32.toUInt32 31)).toInt32) &&& (1431655765 : Int32)))).toUInt32 >>> (((2 : Int32)).toUInt32 &&& Int32.toUInt32 31)).toInt32) &&& (858993459 : Int32))) + ((((((a0 - ((((a0).toUInt32 >>> (((1 : Int32)).toUInt32 &&& Int32.toUInt32 31)).toInt32) &&& (1431655765 : Int32))) &&& (858993459 : Int32)) + (((((a0 - ((((a0).toUInt32 >>> (((1 : Int32)).toUInt32 &&& Int32.toUInt32 31)).toInt32) &&& (1431655765 : Int32)))).toUInt32 >>> (((2 : Int32)).toUInt32 &&& Int32.toUInt32 31)).toInt32) &&& (858993459 : Int32)))).toUInt32 >>> (((4 : Int32)).toUInt32 &&& Int32.toUInt32 31)).toInt32)) &&& (252645135 : Int32)) + ((((((((a0 - ((((a0).toUInt32 >>> (((1 : Int32)).toUInt32 &&& Int32.toUInt32 31)).toInt32) &&& (1431655765 : Int32))) &&& (858993459 : Int32)) + (((((a0 - ((((a0).toUInt32 >>> (((1 : Int32)).toUInt32 &&& Int32.toUInt32 31)).toInt32) &&& (1431655765 : Int32)))).toUInt32 >>> (((2 : Int32)).toUInt32 &&& Int32.toUInt32 31)).toInt32) &&& (858993459 : Int32))) + ((((((a0 - ((((a0).toUInt32 >>> (((1 : Int32)).toUInt32 &&& Int32.toUInt32 31)).toInt32) &&& (1431655765 : Int32))) &&& (858993459 : Int32)) + (((((a0 - ((((a0).toUInt32 >>> (((1 : Int32)).toUInt32 &&& Int32.toUInt32 31)).toInt32) &&& (1431655765 : Int32)))).toUInt32 >>> (((2 : Int32)).toUInt32 &&& Int32.toUInt32 31)).toInt32) &&& (858993459 : Int32)))).toUInt32 >>> (((4 : Int32)).toUInt32 &&& Int32.toUInt32 31)).toInt32)) &&& (252645135 : Int32))).toUInt32 >>> (((8 : Int32)).toUInt32 &&& Int32.toUInt32 31)).toInt32)) + (((((((((a0 - ((((a0).toUInt32 >>> (((1 : Int32)).toUInt32 &&& Int32.toUInt32 31)).toInt32) &&& (1431655765 : Int32))) &&& (858993459 : Int32)) + (((((a0 - ((((a0).toUInt32 >>> (((1 : Int32)).toUInt32 &&& Int32.toUInt32 31)).toInt32) &&& (1431655765 : Int32)))).toUInt32 >>> (((2 : Int32)).toUInt32 &&& Int32.toUInt32 31)).toInt32) &&& (858993459 : Int32))) + ((((((a0 - ((((a0).toUInt32 >>> (((1 : Int32)).toUInt32 &&& Int32.toUInt32 31)).toInt32) &&& (1431655765 : Int32))) &&& (858993459 : Int32)) + (((((a0 - ((((a0).toUInt32 >>> (((1 : Int32)).toUInt32 &&& Int32.toUInt32 31)).toInt32) &&& (1431655765 : Int32)))).toUInt32 >>> (((2 : Int32)).toUInt32 &&& Int32.toUInt32 31)).toInt32) &&& (858993459 : Int32)))).toUInt32 >>> (((4 : Int32)).toUInt32 &&& Int32.toUInt32 31)).toInt32)) &&& (252645135 : Int32)) + ((((((((a0 - ((((a0).toUInt32 >>> (((1 : Int32)).toUInt32 &&& Int32.toUInt32 31)).toInt32) &&& (1431655765 : Int32))) &&& (858993459 : Int32)) + (((((a0 - ((((a0).toUInt32 >>> (((1 : Int32)).toUInt32 &&& Int32.toUInt32 31)).toInt32) &&& (1431655765 : Int32)))).toUInt32 >>> (((2 : Int32)).toUInt32 &&& Int32.toUInt32 31)).toInt32) &&& (858993459 : Int32))) + ((((((a0 - ((((a0).toUInt32 >>> (((1 : Int32)).toUInt32 &&& Int32.toUInt32 31)).toInt32) &&& (1431655765 : Int32))) &&& (858993459 : Int32)) + (((((a0 - ((((a0).toUInt32 >>> (((1 : Int32)).toUInt32 &&& Int32.toUInt32 31)).toInt32) &&& (1431655765 : Int32)))).toUInt32 >>> (((2 : Int32)).toUInt32 &&& Int32.toUInt32 31)).toInt32) &&& (858993459 : Int32)))).toUInt32 >>> (((4 : Int32)).toUInt32 &&& Int32.toUInt32 31)).toInt32)) &&& (252645135 : Int32))).toUInt32 >>> (((8 : Int32)).toUInt32 &&& Int32.toUInt32 31)).toInt32))).toUInt32 >>> (((16 : Int32)).toUInt32 &&& Int32.toUInt32 31)).toInt32)))]) hx hb dJ6_bitCount_0f7a4_47 rfl hl (by decide) rfl (fun ls hl => ?_)
  refine lv_iload_n hx hb dJ6_bitCount_0f7a4_48 rfl (lv_at hl 0 rfl) ?_
  refine lv_bipush (v := 63) hx hb dJ6_bitCount_0f7a4_49 (by decide) ?_
  refine lv_iand hx hb dJ6_bitCount_0f7a4_51 ?_
  cases hf
  exact x_iret E hI rfl dJ6_bitCount_0f7a4_52
theorem dX0_isFull_0 : decode cX0_isFull 0 = .ok (.aload_n 0, 1) := by decide +kernel
theorem dX0_isFull_1 : decode cX0_isFull 1 = .ok (.iload_n 1, 1) := by decide +kernel
theorem dX0_isFull_2 : decode cX0_isFull 2 = .ok (.iconst 1, 1) := by decide +kernel
theorem dX0_isFull_3 : decode cX0_isFull 3 = .ok (.iadd, 1) := by decide +kernel
theorem dX0_isFull_4 : decode cX0_isFull 4 = .ok (.invokevirtual 77, 3) := by decide +kernel
theorem dX0_isFull_7 : decode cX0_isFull 7 = .ok (.invokestatic 80, 3) := by decide +kernel
theorem dX0_isFull_10 : decode cX0_isFull 10 = .ok (.aload_n 0, 1) := by decide +kernel
theorem dX0_isFull_11 : decode cX0_isFull 11 = .ok (.getfield 27, 3) := by decide +kernel
theorem dX0_isFull_14 : decode cX0_isFull 14 = .ok (.getfield 85, 3) := by decide +kernel
theorem dX0_isFull_17 : decode cX0_isFull 17 = .ok (.iload_n 1, 1) := by decide +kernel
theorem dX0_isFull_18 : decode cX0_isFull 18 = .ok (.iaload, 1) := by decide +kernel
theorem dX0_isFull_19 : decode cX0_isFull 19 = .ok (.if_icmp .lt 7, 3) := by decide +kernel
theorem dX0_isFull_22 : decode cX0_isFull 22 = .ok (.iconst 1, 1) := by decide +kernel
theorem dX0_isFull_23 : decode cX0_isFull 23 = .ok (.goto 4, 3) := by decide +kernel
theorem dX0_isFull_26 : decode cX0_isFull 26 = .ok (.iconst 0, 1) := by decide +kernel
theorem dX0_isFull_27 : decode cX0_isFull 27 = .ok (.ireturn, 1) := by decide +kernel
def f_X0_isFull_b27 (t27_0 : Int32) : Option (Int32) := xchk (xbo t27_0) (some t27_0)
def f_X0_isFull (i : Nat) (a1 : Int32) (M : xMem) : Option (Int32) := xb1 (f_X0_eggsAt i (a1 + (1 : Int32)) M) (fun r4 => xb1 (f_J6_bitCount_0f7a4 r4 M) (fun r7 => xchk (xb a1 5) ((if r7 < (M 3 5 a1.toNatClampNeg) then (f_X0_isFull_b27) (0 : Int32) else (f_X0_isFull_b27) (1 : Int32)))))
set_option maxHeartbeats 4000000 in
set_option maxRecDepth 100000 in
theorem w_X0_isFull_b27 {p : Program} {l : Launch} {e : Env} {s : State} {m : MethodId} {args : Array Value} {below : List Frame} {meth : Method} {c : Code} {G : xG} {rr : Int32} (E : xE p s m args meth c cX0_isFull 2 (some .boolean) RX0 G) (M : xMem) (L : xLL) : ∀ (t27_0 : Int32), f_X0_isFull_b27 t27_0 = some rr → ∀ (ls : Array Slot), lv_has ls 2 [] → ∀ (H : Heap) (locs : List Loc), xI G M L s.heap H locs → W p l e (xR 2) s m args below meth c H locs 0 0 (MQ below (xQi G rr M L s.heap.size) args s 0 0 (xZ G s.heap.size)) (F0 m 27 ls [.int t27_0]) := by
  have hx := E.1
  have hb := E.2.1
  intro t27_0 hf ls hl H locs hI
  rw [f_X0_isFull_b27] at hf
  obtain ⟨h27n, hf⟩ := xchk_s hf
  cases hf
  exact x_zret E hI (xbo_s h27n) rfl dX0_isFull_27
set_option maxHeartbeats 4000000 in
set_option maxRecDepth 100000 in
theorem c_X0_isFull (l : Launch) (G : xG) (sz : Nat) (M : xMem) (L : xLL) (i : Nat) (a1 : Int32) (hi : i < 21) {rr : Int32} (hf : f_X0_isFull i a1 M = some rr) : Met l yX0_isFull (Cond.code yX0_isFull cX0_isFull 2 (some .boolean) :: xTB) (xR 2) (xP G M L sz [.ref (xq G (i + 9) 0), .int a1]) (xQi G rr M L sz) 0 0 (xZ G sz) := by
  refine x_met (cc := cX0_isFull) (nL := 2) (rt := (some .boolean)) (by decide) (Nat.le_of_ble_eq_true rfl) ?_
  intro p e s m below meth c ls hsz E hl hI
  subst hsz
  have E : xE p s m _ meth c cX0_isFull 2 (some .boolean) RX0 G := E
  have hx := E.1
  have hb := E.2.1
  have hl : lv_has ls 2 [(0, .ref (xq G (i + 9) 0)), (1, .int a1)] := hl
  rw [f_X0_isFull] at hf
  refine lv_aload_n hx hb dX0_isFull_0 rfl (lv_at hl 0 rfl) ?_
  refine lv_iload_n hx hb dX0_isFull_1 rfl (lv_at hl 1 rfl) ?_
  refine lv_iconst (v := 1) hx hb dX0_isFull_2 (by decide) ?_
  refine lv_iadd hx hb dX0_isFull_3 ?_
  obtain ⟨r4, g4, hf⟩ := xb1_s hf
  refine x_callVi (As := [.int (a1 + (1 : Int32))]) (rest := []) E hI (mf_0 hi) rfl rfl rfl (c_X0_eggsAt l G _ (M := M) (L := L) (i := i) (hi := hi) (a1 := (a1 + (1 : Int32))) g4) yv_X0_eggsAt ml_X0_77 (by decide) (by decide) rfl rfl hl.1 (Nat.le_of_ble_eq_true rfl) dX0_isFull_4 (fun H locs hI => ?_)
  obtain ⟨r7, g7, hf⟩ := xb1_s hf
  refine x_callSi (As := [.int r4]) (rest := []) E hI (c_J6_bitCount_0f7a4 l G _ (M := M) (L := L) (a0 := r4) g7) ys_J6_bitCount_0f7a4 ml_X0_80 (by decide) (by decide) rfl rfl hl.1 (Nat.le_of_ble_eq_true rfl) dX0_isFull_7 (fun H locs hI => ?_)
  refine lv_aload_n hx hb dX0_isFull_10 rfl (lv_at hl 0 rfl) ?_
  refine gf_X0_27 E hI hi dX0_isFull_11 ?_
  refine gf_X0_85_3 E hI dX0_isFull_14 ?_
  refine lv_iload_n hx hb dX0_isFull_17 rfl (lv_at hl 1 rfl) ?_
  obtain ⟨h18b, hf⟩ := xchk_s hf
  refine x_iald (n := 5) E hI mx_3_5 (fun _ _ => rfl) h18b dX0_isFull_18 ?_
  refine lv_icmp_lt (tgt := 26) hx hb dX0_isFull_19 (by decide) (fun c19 => ?_) (fun c19 => ?_)
  · replace hf := xif_t c19 hf
    refine lv_iconst (v := 0) hx hb dX0_isFull_26 (by decide) ?_
    exact (w_X0_isFull_b27 E (M := M) (L := L)) (0 : Int32) hf _ (lv_sub hl [] rfl) _ _ hI
  · replace hf := xif_f c19 hf
    refine lv_iconst (v := 1) hx hb dX0_isFull_22 (by decide) ?_
    refine lv_goto (tgt := 27) hx hb dX0_isFull_23 (by decide) ?_
    exact (w_X0_isFull_b27 E (M := M) (L := L)) (1 : Int32) hf _ (lv_sub hl [] rfl) _ _ hI
theorem dX6_leaked_0 : decode cX6_leaked 0 = .ok (.aload_n 0, 1) := by decide +kernel
theorem dX6_leaked_1 : decode cX6_leaked 1 = .ok (.getfield 24, 3) := by decide +kernel
theorem dX6_leaked_4 : decode cX6_leaked 4 = .ok (.iload_n 1, 1) := by decide +kernel
theorem dX6_leaked_5 : decode cX6_leaked 5 = .ok (.iaload, 1) := by decide +kernel
theorem dX6_leaked_6 : decode cX6_leaked 6 = .ok (.iconst 3, 1) := by decide +kernel
theorem dX6_leaked_7 : decode cX6_leaked 7 = .ok (.if_icmp .ne 13, 3) := by decide +kernel
theorem dX6_leaked_10 : decode cX6_leaked 10 = .ok (.iconst 1, 1) := by decide +kernel
theorem dX6_leaked_11 : decode cX6_leaked 11 = .ok (.iload_n 2, 1) := by decide +kernel
theorem dX6_leaked_12 : decode cX6_leaked 12 = .ok (.iconst 1, 1) := by decide +kernel
theorem dX6_leaked_13 : decode cX6_leaked 13 = .ok (.isub, 1) := by decide +kernel
theorem dX6_leaked_14 : decode cX6_leaked 14 = .ok (.invokestatic 40, 3) := by decide +kernel
theorem dX6_leaked_17 : decode cX6_leaked 17 = .ok (.goto 4, 3) := by decide +kernel
theorem dX6_leaked_20 : decode cX6_leaked 20 = .ok (.iload_n 2, 1) := by decide +kernel
theorem dX6_leaked_21 : decode cX6_leaked 21 = .ok (.ireturn, 1) := by decide +kernel
def f_X6_leaked_b21 (t21_0 : Int32) : Option (Int32) := some t21_0
def f_X6_leaked (a1 : Int32) (a2 : Int32) (M : xMem) : Option (Int32) := xchk (xb a1 6) ((if (M 3 7 a1.toNatClampNeg) = (3 : Int32) then (f_X6_leaked_b21) (if (1 : Int32) < (a2 - (1 : Int32)) then (a2 - (1 : Int32)) else (1 : Int32)) else (f_X6_leaked_b21) a2))
set_option maxHeartbeats 4000000 in
set_option maxRecDepth 100000 in
theorem w_X6_leaked_b21 {p : Program} {l : Launch} {e : Env} {s : State} {m : MethodId} {args : Array Value} {below : List Frame} {meth : Method} {c : Code} {G : xG} {rr : Int32} (E : xE p s m args meth c cX6_leaked 3 (some .int) RX6 G) (M : xMem) (L : xLL) : ∀ (t21_0 : Int32), f_X6_leaked_b21 t21_0 = some rr → ∀ (ls : Array Slot), lv_has ls 3 [] → ∀ (H : Heap) (locs : List Loc), xI G M L s.heap H locs → W p l e (xR 1) s m args below meth c H locs 0 0 (MQ below (xQi G rr M L s.heap.size) args s 0 0 (xZ G s.heap.size)) (F0 m 21 ls [.int t21_0]) := by
  have hx := E.1
  have hb := E.2.1
  intro t21_0 hf ls hl H locs hI
  rw [f_X6_leaked_b21] at hf
  cases hf
  exact x_iret E hI rfl dX6_leaked_21
set_option maxHeartbeats 4000000 in
set_option maxRecDepth 100000 in
theorem c_X6_leaked (l : Launch) (G : xG) (sz : Nat) (M : xMem) (L : xLL) (a1 : Int32) (a2 : Int32) {rr : Int32} (hf : f_X6_leaked a1 a2 M = some rr) : Met l yX6_leaked (Cond.code yX6_leaked cX6_leaked 3 (some .int) :: xTB) (xR 1) (xP G M L sz [.ref (xq G 3 0), .int a1, .int a2]) (xQi G rr M L sz) 0 0 (xZ G sz) := by
  refine x_met (cc := cX6_leaked) (nL := 3) (rt := (some .int)) (by decide) (Nat.le_of_ble_eq_true rfl) ?_
  intro p e s m below meth c ls hsz E hl hI
  subst hsz
  have E : xE p s m _ meth c cX6_leaked 3 (some .int) RX6 G := E
  have hx := E.1
  have hb := E.2.1
  have hl : lv_has ls 3 [(0, .ref (xq G 3 0)), (1, .int a1), (2, .int a2)] := hl
  rw [f_X6_leaked] at hf
  refine lv_aload_n hx hb dX6_leaked_0 rfl (lv_at hl 0 rfl) ?_
  refine gf_X6_24_3 E hI dX6_leaked_1 ?_
  refine lv_iload_n hx hb dX6_leaked_4 rfl (lv_at hl 1 rfl) ?_
  obtain ⟨h5b, hf⟩ := xchk_s hf
  refine x_iald (n := 6) E hI mx_3_7 (fun _ _ => rfl) h5b dX6_leaked_5 ?_
  refine lv_iconst (v := 3) hx hb dX6_leaked_6 (by decide) ?_
  refine lv_icmp_ne (tgt := 20) hx hb dX6_leaked_7 (by decide) (fun c7 => ?_) (fun c7 => ?_)
  · replace hf := xif_f c7 hf
    refine lv_iload_n hx hb dX6_leaked_20 rfl (lv_at hl 2 rfl) ?_
    exact (w_X6_leaked_b21 E (M := M) (L := L)) a2 hf _ (lv_sub hl [] rfl) _ _ hI
  · replace hf := xif_t c7 hf
    refine lv_iconst (v := 1) hx hb dX6_leaked_10 (by decide) ?_
    refine lv_iload_n hx hb dX6_leaked_11 rfl (lv_at hl 2 rfl) ?_
    refine lv_iconst (v := 1) hx hb dX6_leaked_12 (by decide) ?_
    refine lv_isub hx hb dX6_leaked_13 ?_
    refine x_max E ml_X6_40 ms_max mi_math mc_max (by decide) hl.1 (Nat.le_of_ble_eq_true rfl) dX6_leaked_14 ?_
    refine lv_goto (tgt := 21) hx hb dX6_leaked_17 (by decide) ?_
    exact (w_X6_leaked_b21 E (M := M) (L := L)) (if (1 : Int32) < (a2 - (1 : Int32)) then (a2 - (1 : Int32)) else (1 : Int32)) hf _ (lv_sub hl [] rfl) _ _ hI
theorem dX0_highestMark_0 : decode cX0_highestMark 0 = .ok (.aload_n 0, 1) := by decide +kernel
theorem dX0_highestMark_1 : decode cX0_highestMark 1 = .ok (.getfield 27, 3) := by decide +kernel
theorem dX0_highestMark_4 : decode cX0_highestMark 4 = .ok (.iload_n 1, 1) := by decide +kernel
theorem dX0_highestMark_5 : decode cX0_highestMark 5 = .ok (.aload_n 0, 1) := by decide +kernel
theorem dX0_highestMark_6 : decode cX0_highestMark 6 = .ok (.getfield 15, 3) := by decide +kernel
theorem dX0_highestMark_9 : decode cX0_highestMark 9 = .ok (.iload_n 1, 1) := by decide +kernel
theorem dX0_highestMark_10 : decode cX0_highestMark 10 = .ok (.iaload, 1) := by decide +kernel
theorem dX0_highestMark_11 : decode cX0_highestMark 11 = .ok (.invokevirtual 67, 3) := by decide +kernel
theorem dX0_highestMark_14 : decode cX0_highestMark 14 = .ok (.aload_n 0, 1) := by decide +kernel
theorem dX0_highestMark_15 : decode cX0_highestMark 15 = .ok (.iload_n 2, 1) := by decide +kernel
theorem dX0_highestMark_16 : decode cX0_highestMark 16 = .ok (.invokevirtual 70, 3) := by decide +kernel
theorem dX0_highestMark_19 : decode cX0_highestMark 19 = .ok (.isub, 1) := by decide +kernel
theorem dX0_highestMark_20 : decode cX0_highestMark 20 = .ok (.ireturn, 1) := by decide +kernel
def f_X0_highestMark (i : Nat) (a1 : Int32) (a2 : Int32) (M : xMem) : Option (Int32) := xchk (xb a1 6) (xb1 (f_X6_seems a1 (M (i + 9) 3 a1.toNatClampNeg) M) (fun r11 => xb1 (f_X0_stiffness i a2 M) (fun r16 => some (r11 - r16))))
set_option maxHeartbeats 4000000 in
set_option maxRecDepth 100000 in
theorem c_X0_highestMark (l : Launch) (G : xG) (sz : Nat) (M : xMem) (L : xLL) (i : Nat) (a1 : Int32) (a2 : Int32) (hi : i < 21) {rr : Int32} (hf : f_X0_highestMark i a1 a2 M = some rr) : Met l yX0_highestMark (Cond.code yX0_highestMark cX0_highestMark 3 (some .int) :: xTB) (xR 2) (xP G M L sz [.ref (xq G (i + 9) 0), .int a1, .int a2]) (xQi G rr M L sz) 0 0 (xZ G sz) := by
  refine x_met (cc := cX0_highestMark) (nL := 3) (rt := (some .int)) (by decide) (Nat.le_of_ble_eq_true rfl) ?_
  intro p e s m below meth c ls hsz E hl hI
  subst hsz
  have E : xE p s m _ meth c cX0_highestMark 3 (some .int) RX0 G := E
  have hx := E.1
  have hb := E.2.1
  have hl : lv_has ls 3 [(0, .ref (xq G (i + 9) 0)), (1, .int a1), (2, .int a2)] := hl
  rw [f_X0_highestMark] at hf
  refine lv_aload_n hx hb dX0_highestMark_0 rfl (lv_at hl 0 rfl) ?_
  refine gf_X0_27 E hI hi dX0_highestMark_1 ?_
  refine lv_iload_n hx hb dX0_highestMark_4 rfl (lv_at hl 1 rfl) ?_
  refine lv_aload_n hx hb dX0_highestMark_5 rfl (lv_at hl 0 rfl) ?_
  refine gf_X0_15 E hI hi dX0_highestMark_6 ?_
  refine lv_iload_n hx hb dX0_highestMark_9 rfl (lv_at hl 1 rfl) ?_
  obtain ⟨h10b, hf⟩ := xchk_s hf
  refine x_iald (n := 6) E hI (mf_3 hi) (fun _ _ => rfl) h10b dX0_highestMark_10 ?_
  obtain ⟨r11, g11, hf⟩ := xb1_s hf
  refine x_callVi (As := [.int a1, .int (M (i + 9) 3 a1.toNatClampNeg)]) (rest := []) E hI mx_3_0 rfl rfl rfl (c_X6_seems l G _ (M := M) (L := L) (a1 := a1) (a2 := (M (i + 9) 3 a1.toNatClampNeg)) g11) yv_X6_seems ml_X0_67 (by decide) (by decide) rfl rfl hl.1 (Nat.le_of_ble_eq_true rfl) dX0_highestMark_11 (fun H locs hI => ?_)
  refine lv_aload_n hx hb dX0_highestMark_14 rfl (lv_at hl 0 rfl) ?_
  refine lv_iload_n hx hb dX0_highestMark_15 rfl (lv_at hl 2 rfl) ?_
  obtain ⟨r16, g16, hf⟩ := xb1_s hf
  refine x_callVi (As := [.int a2]) (rest := [.int r11]) E hI (mf_0 hi) rfl rfl rfl (c_X0_stiffness l G _ (M := M) (L := L) (i := i) (hi := hi) (a1 := a2) g16) yv_X0_stiffness ml_X0_70 (by decide) (by decide) rfl rfl hl.1 (Nat.le_of_ble_eq_true rfl) dX0_highestMark_16 (fun H locs hI => ?_)
  refine lv_isub hx hb dX0_highestMark_19 ?_
  cases hf
  exact x_iret E hI rfl dX0_highestMark_20
theorem dX0_roll_0 : decode cX0_roll 0 = .ok (.iconst 0, 1) := by decide +kernel
theorem dX0_roll_1 : decode cX0_roll 1 = .ok (.istore_n 2, 1) := by decide +kernel
theorem dX0_roll_2 : decode cX0_roll 2 = .ok (.iload_n 2, 1) := by decide +kernel
theorem dX0_roll_3 : decode cX0_roll 3 = .ok (.aload_n 0, 1) := by decide +kernel
theorem dX0_roll_4 : decode cX0_roll 4 = .ok (.getfield 27, 3) := by decide +kernel
theorem dX0_roll_7 : decode cX0_roll 7 = .ok (.getfield 47, 3) := by decide +kernel
theorem dX0_roll_10 : decode cX0_roll 10 = .ok (.if_icmp .ge 90, 3) := by decide +kernel
theorem dX0_roll_13 : decode cX0_roll 13 = .ok (.aload_n 0, 1) := by decide +kernel
theorem dX0_roll_14 : decode cX0_roll 14 = .ok (.getfield 21, 3) := by decide +kernel
theorem dX0_roll_17 : decode cX0_roll 17 = .ok (.iload_n 2, 1) := by decide +kernel
theorem dX0_roll_18 : decode cX0_roll 18 = .ok (.iaload, 1) := by decide +kernel
theorem dX0_roll_19 : decode cX0_roll 19 = .ok (.istore_n 3, 1) := by decide +kernel
theorem dX0_roll_20 : decode cX0_roll 20 = .ok (.aload_n 0, 1) := by decide +kernel
theorem dX0_roll_21 : decode cX0_roll 21 = .ok (.getfield 18, 3) := by decide +kernel
theorem dX0_roll_24 : decode cX0_roll 24 = .ok (.iload_n 3, 1) := by decide +kernel
theorem dX0_roll_25 : decode cX0_roll 25 = .ok (.iaload, 1) := by decide +kernel
theorem dX0_roll_26 : decode cX0_roll 26 = .ok (.aload_n 0, 1) := by decide +kernel
theorem dX0_roll_27 : decode cX0_roll 27 = .ok (.iload_n 1, 1) := by decide +kernel
theorem dX0_roll_28 : decode cX0_roll 28 = .ok (.iload_n 3, 1) := by decide +kernel
theorem dX0_roll_29 : decode cX0_roll 29 = .ok (.invokevirtual 51, 3) := by decide +kernel
theorem dX0_roll_32 : decode cX0_roll 32 = .ok (.if_icmp .gt 42, 3) := by decide +kernel
theorem dX0_roll_35 : decode cX0_roll 35 = .ok (.aload_n 0, 1) := by decide +kernel
theorem dX0_roll_36 : decode cX0_roll 36 = .ok (.iload_n 3, 1) := by decide +kernel
theorem dX0_roll_37 : decode cX0_roll 37 = .ok (.invokevirtual 55, 3) := by decide +kernel
theorem dX0_roll_40 : decode cX0_roll 40 = .ok (.ifCond .ne 34, 3) := by decide +kernel
theorem dX0_roll_43 : decode cX0_roll 43 = .ok (.aload_n 0, 1) := by decide +kernel
theorem dX0_roll_44 : decode cX0_roll 44 = .ok (.getfield 9, 3) := by decide +kernel
theorem dX0_roll_47 : decode cX0_roll 47 = .ok (.iload_n 1, 1) := by decide +kernel
theorem dX0_roll_48 : decode cX0_roll 48 = .ok (.iload_n 3, 1) := by decide +kernel
theorem dX0_roll_49 : decode cX0_roll 49 = .ok (.iconst 1, 1) := by decide +kernel
theorem dX0_roll_50 : decode cX0_roll 50 = .ok (.iadd, 1) := by decide +kernel
theorem dX0_roll_51 : decode cX0_roll 51 = .ok (.iastore, 1) := by decide +kernel
theorem dX0_roll_52 : decode cX0_roll 52 = .ok (.aload_n 0, 1) := by decide +kernel
theorem dX0_roll_53 : decode cX0_roll 53 = .ok (.getfield 24, 3) := by decide +kernel
theorem dX0_roll_56 : decode cX0_roll 56 = .ok (.iload_n 3, 1) := by decide +kernel
theorem dX0_roll_57 : decode cX0_roll 57 = .ok (.sipush 999, 3) := by decide +kernel
theorem dX0_roll_60 : decode cX0_roll 60 = .ok (.aload_n 0, 1) := by decide +kernel
theorem dX0_roll_61 : decode cX0_roll 61 = .ok (.getfield 24, 3) := by decide +kernel
theorem dX0_roll_64 : decode cX0_roll 64 = .ok (.iload_n 3, 1) := by decide +kernel
theorem dX0_roll_65 : decode cX0_roll 65 = .ok (.iaload, 1) := by decide +kernel
theorem dX0_roll_66 : decode cX0_roll 66 = .ok (.iconst 1, 1) := by decide +kernel
theorem dX0_roll_67 : decode cX0_roll 67 = .ok (.iadd, 1) := by decide +kernel
theorem dX0_roll_68 : decode cX0_roll 68 = .ok (.invokestatic 59, 3) := by decide +kernel
theorem dX0_roll_71 : decode cX0_roll 71 = .ok (.iastore, 1) := by decide +kernel
theorem dX0_roll_72 : decode cX0_roll 72 = .ok (.iload_n 3, 1) := by decide +kernel
theorem dX0_roll_73 : decode cX0_roll 73 = .ok (.ireturn, 1) := by decide +kernel
theorem dX0_roll_74 : decode cX0_roll 74 = .ok (.aload_n 0, 1) := by decide +kernel
theorem dX0_roll_75 : decode cX0_roll 75 = .ok (.getfield 15, 3) := by decide +kernel
theorem dX0_roll_78 : decode cX0_roll 78 = .ok (.iload_n 1, 1) := by decide +kernel
theorem dX0_roll_79 : decode cX0_roll 79 = .ok (.aload_n 0, 1) := by decide +kernel
theorem dX0_roll_80 : decode cX0_roll 80 = .ok (.getfield 27, 3) := by decide +kernel
theorem dX0_roll_83 : decode cX0_roll 83 = .ok (.iload_n 1, 1) := by decide +kernel
theorem dX0_roll_84 : decode cX0_roll 84 = .ok (.aload_n 0, 1) := by decide +kernel
theorem dX0_roll_85 : decode cX0_roll 85 = .ok (.getfield 15, 3) := by decide +kernel
theorem dX0_roll_88 : decode cX0_roll 88 = .ok (.iload_n 1, 1) := by decide +kernel
theorem dX0_roll_89 : decode cX0_roll 89 = .ok (.iaload, 1) := by decide +kernel
theorem dX0_roll_90 : decode cX0_roll 90 = .ok (.invokevirtual 64, 3) := by decide +kernel
theorem dX0_roll_93 : decode cX0_roll 93 = .ok (.iastore, 1) := by decide +kernel
theorem dX0_roll_94 : decode cX0_roll 94 = .ok (.iinc 2 1, 3) := by decide +kernel
theorem dX0_roll_97 : decode cX0_roll 97 = .ok (.goto (-95), 3) := by decide +kernel
theorem dX0_roll_100 : decode cX0_roll 100 = .ok (.aload_n 0, 1) := by decide +kernel
theorem dX0_roll_101 : decode cX0_roll 101 = .ok (.getfield 9, 3) := by decide +kernel
theorem dX0_roll_104 : decode cX0_roll 104 = .ok (.iload_n 1, 1) := by decide +kernel
theorem dX0_roll_105 : decode cX0_roll 105 = .ok (.bipush 8, 2) := by decide +kernel
theorem dX0_roll_107 : decode cX0_roll 107 = .ok (.iastore, 1) := by decide +kernel
theorem dX0_roll_108 : decode cX0_roll 108 = .ok (.bipush (-9), 2) := by decide +kernel
theorem dX0_roll_110 : decode cX0_roll 110 = .ok (.ireturn, 1) := by decide +kernel
def f_X0_roll_b74 (i : Nat) (a1 : Int32) (v2_2 : Int32) (M2 : xMem) (k2 : Int32 → xMem → Option (Int32 × xMem)) : Option (Int32 × xMem) := xchk (xb a1 6) (xb1 (f_X6_leaked a1 (M2 (i + 9) 3 a1.toNatClampNeg) M2) (fun r90 => xchk (xb a1 6) (xlet (xst M2 (i + 9) 3 a1 r90) (fun M93 => k2 (v2_2 + (1 : Int32)) M93))))
def f_X0_roll_l2 (i : Nat) (a1 : Int32) : Nat → Int32 → xMem → Option (Int32 × xMem)
  | 0, _, _ => none
  | n + 1, v2_2, M2 => (if (M2 3 0 0) ≤ v2_2 then xchk (xb a1 6) (xlet (xst M2 (i + 9) 2 a1 (8 : Int32)) (fun M107 => some ((-9 : Int32), M107))) else xchk (xb v2_2 5) (xchk (xb (M2 (i + 9) 5 v2_2.toNatClampNeg) 5) (xb1 (f_X0_highestMark i a1 (M2 (i + 9) 5 v2_2.toNatClampNeg) M2) (fun r29 => (if r29 < (M2 (i + 9) 4 (M2 (i + 9) 5 v2_2.toNatClampNeg).toNatClampNeg) then (f_X0_roll_b74 i a1 v2_2 M2 (f_X0_roll_l2 i a1 n)) else xb1 (f_X0_isFull i (M2 (i + 9) 5 v2_2.toNatClampNeg) M2) (fun r37 => (if r37 = (0 : Int32) then xchk (xb a1 6) (xlet (xst M2 (i + 9) 2 a1 ((M2 (i + 9) 5 v2_2.toNatClampNeg) + (1 : Int32))) (fun M51 => xchk (xb (M2 (i + 9) 5 v2_2.toNatClampNeg) 5) (xchk (xb (M2 (i + 9) 5 v2_2.toNatClampNeg) 5) (xlet (xst M51 (i + 9) 6 (M2 (i + 9) 5 v2_2.toNatClampNeg) (if ((M51 (i + 9) 6 (M2 (i + 9) 5 v2_2.toNatClampNeg).toNatClampNeg) + (1 : Int32)) < (999 : Int32) then ((M51 (i + 9) 6 (M2 (i + 9) 5 v2_2.toNatClampNeg).toNatClampNeg) + (1 : Int32)) else (999 : Int32))) (fun M71 => some ((M2 (i + 9) 5 v2_2.toNatClampNeg), M71)))))) else (f_X0_roll_b74 i a1 v2_2 M2 (f_X0_roll_l2 i a1 n)))))))))
def f_X0_roll (i : Nat) (a1 : Int32) (M : xMem) : Option (Int32 × xMem) := (f_X0_roll_l2 i a1 FU) (0 : Int32) M
set_option maxHeartbeats 4000000 in
set_option maxRecDepth 100000 in
theorem w_X0_roll_b74 {p : Program} {l : Launch} {e : Env} {s : State} {m : MethodId} {args : Array Value} {below : List Frame} {meth : Method} {c : Code} {G : xG} {rr : Int32} {MM : xMem} (E : xE p s m args meth c cX0_roll 4 (some .int) RX0 G) (i : Nat) (a1 : Int32) (M : xMem) (L : xLL) (v2_2 : Int32) (M2 : xMem) (hi : i < 21) (k2 : Int32 → xMem → Option (Int32 × xMem)) (hk2 : ∀ (v2_2 : Int32) (M2 : xMem), k2 v2_2 M2 = some (rr, MM) → ∀ (ls : Array Slot), lv_has ls 4 [(0, .ref (xq G (i + 9) 0)), (1, .int a1), (2, .int v2_2)] → ∀ (H : Heap) (locs : List Loc), xI G M2 L s.heap H locs → W p l e (xR 3) s m args below meth c H locs 0 0 (MQ below (xQi G rr MM L s.heap.size) args s 0 0 (xZ G s.heap.size)) (F0 m 2 ls [])) : f_X0_roll_b74 i a1 v2_2 M2 k2  = some (rr, MM) → ∀ (ls : Array Slot), lv_has ls 4 [(0, .ref (xq G (i + 9) 0)), (1, .int a1), (2, .int v2_2)] → ∀ (H : Heap) (locs : List Loc), xI G M2 L s.heap H locs → W p l e (xR 3) s m args below meth c H locs 0 0 (MQ below (xQi G rr MM L s.heap.size) args s 0 0 (xZ G s.heap.size)) (F0 m 74 ls []) := by
  have hx := E.1
  have hb := E.2.1
  intro  hf ls hl H locs hI
  rw [f_X0_roll_b74] at hf
  refine lv_aload_n hx hb dX0_roll_74 rfl (lv_at hl 0 rfl) ?_
  refine gf_X0_15 E hI hi dX0_roll_75 ?_
  refine lv_iload_n hx hb dX0_roll_78 rfl (lv_at hl 1 rfl) ?_
  refine lv_aload_n hx hb dX0_roll_79 rfl (lv_at hl 0 rfl) ?_
  refine gf_X0_27 E hI hi dX0_roll_80 ?_
  refine lv_iload_n hx hb dX0_roll_83 rfl (lv_at hl 1 rfl) ?_
  refine lv_aload_n hx hb dX0_roll_84 rfl (lv_at hl 0 rfl) ?_
  refine gf_X0_15 E hI hi dX0_roll_85 ?_
  refine lv_iload_n hx hb dX0_roll_88 rfl (lv_at hl 1 rfl) ?_
  obtain ⟨h89b, hf⟩ := xchk_s hf
  refine x_iald (n := 6) E hI (mf_3 hi) (fun _ _ => rfl) h89b dX0_roll_89 ?_
  obtain ⟨r90, g90, hf⟩ := xb1_s hf
  refine x_callVi (As := [.int a1, .int (M2 (i + 9) 3 a1.toNatClampNeg)]) (rest := [.int a1, .ref (xq G (i + 9) 3)]) E hI mx_3_0 rfl rfl rfl (c_X6_leaked l G _ (M := M2) (L := L) (a1 := a1) (a2 := (M2 (i + 9) 3 a1.toNatClampNeg)) g90) yv_X6_leaked ml_X0_64 (by decide) (by decide) rfl rfl hl.1 (Nat.le_of_ble_eq_true rfl) dX0_roll_90 (fun H locs hI => ?_)
  obtain ⟨h93b, hf⟩ := xchk_s hf
  obtain ⟨M93, e93, hf⟩ := xlet_s hf
  refine x_iast (n := 6) E hI (mf_3 hi) (fun _ _ => rfl) h93b dX0_roll_93 e93 (fun H locs hI => ?_)
  refine lv_iinc (v := (v2_2 + (1 : Int32))) (lv' := [(2, .int (v2_2 + (1 : Int32))), (0, .ref (xq G (i + 9) 0)), (1, .int a1)]) hx hb dX0_roll_94 hl (k := 2) rfl rfl (by decide) rfl (fun ls hl => ?_)
  refine lv_goto (tgt := 2) hx hb dX0_roll_97 (by decide) ?_
  exact hk2 (v2_2 + (1 : Int32)) M93 hf _ (lv_sub hl [1, 2, 0] rfl) _ _ hI
set_option maxHeartbeats 4000000 in
set_option maxRecDepth 100000 in
theorem w_X0_roll_l2 {p : Program} {l : Launch} {e : Env} {s : State} {m : MethodId} {args : Array Value} {below : List Frame} {meth : Method} {c : Code} {G : xG} {rr : Int32} {MM : xMem} (E : xE p s m args meth c cX0_roll 4 (some .int) RX0 G) (i : Nat) (a1 : Int32) (M : xMem) (L : xLL) (hi : i < 21) : ∀ (n : Nat), ∀ (v2_2 : Int32) (M2 : xMem), f_X0_roll_l2 i a1 n v2_2 M2 = some (rr, MM) → ∀ (ls : Array Slot), lv_has ls 4 [(0, .ref (xq G (i + 9) 0)), (1, .int a1), (2, .int v2_2)] → ∀ (H : Heap) (locs : List Loc), xI G M2 L s.heap H locs → W p l e (xR 3) s m args below meth c H locs 0 0 (MQ below (xQi G rr MM L s.heap.size) args s 0 0 (xZ G s.heap.size)) (F0 m 2 ls []) := by
  have hx := E.1
  have hb := E.2.1
  intro n
  induction n with
  | zero =>
    intro v2_2 M2 hf
    exact absurd hf (by simp [f_X0_roll_l2])
  | succ n ih =>
    intro v2_2 M2 hf ls hl H locs hI
    rw [f_X0_roll_l2] at hf
    refine lv_iload_n hx hb dX0_roll_2 rfl (lv_at hl 2 rfl) ?_
    refine lv_aload_n hx hb dX0_roll_3 rfl (lv_at hl 0 rfl) ?_
    refine gf_X0_27 E hI hi dX0_roll_4 ?_
    refine gf_X0_47_3 E hI dX0_roll_7 ?_
    refine lv_icmp_ge (tgt := 100) hx hb dX0_roll_10 (by decide) (fun c10 => ?_) (fun c10 => ?_)
    · replace hf := xif_t c10 hf
      refine lv_aload_n hx hb dX0_roll_100 rfl (lv_at hl 0 rfl) ?_
      refine gf_X0_9 E hI hi dX0_roll_101 ?_
      refine lv_iload_n hx hb dX0_roll_104 rfl (lv_at hl 1 rfl) ?_
      refine lv_bipush (v := 8) hx hb dX0_roll_105 (by decide) ?_
      obtain ⟨h107b, hf⟩ := xchk_s hf
      obtain ⟨M107, e107, hf⟩ := xlet_s hf
      refine x_iast (n := 6) E hI (mf_2 hi) (fun _ _ => rfl) h107b dX0_roll_107 e107 (fun H locs hI => ?_)
      refine lv_bipush (v := -9) hx hb dX0_roll_108 (by decide) ?_
      cases hf
      exact x_iret E hI rfl dX0_roll_110
    · replace hf := xif_f c10 hf
      refine lv_aload_n hx hb dX0_roll_13 rfl (lv_at hl 0 rfl) ?_
      refine gf_X0_21 E hI hi dX0_roll_14 ?_
      refine lv_iload_n hx hb dX0_roll_17 rfl (lv_at hl 2 rfl) ?_
      obtain ⟨h18b, hf⟩ := xchk_s hf
      refine x_iald (n := 5) E hI (mf_5 hi) (fun _ _ => rfl) h18b dX0_roll_18 ?_
      refine lv_istore_n (lv' := [(3, .int (M2 (i + 9) 5 v2_2.toNatClampNeg)), (0, .ref (xq G (i + 9) 0)), (1, .int a1), (2, .int v2_2)]) hx hb dX0_roll_19 rfl hl (by decide) rfl (fun ls hl => ?_)
      refine lv_aload_n hx hb dX0_roll_20 rfl (lv_at hl 1 rfl) ?_
      refine gf_X0_18 E hI hi dX0_roll_21 ?_
      refine lv_iload_n hx hb dX0_roll_24 rfl (lv_at hl 0 rfl) ?_
      obtain ⟨h25b, hf⟩ := xchk_s hf
      refine x_iald (n := 5) E hI (mf_4 hi) (fun _ _ => rfl) h25b dX0_roll_25 ?_
      refine lv_aload_n hx hb dX0_roll_26 rfl (lv_at hl 1 rfl) ?_
      refine lv_iload_n hx hb dX0_roll_27 rfl (lv_at hl 2 rfl) ?_
      refine lv_iload_n hx hb dX0_roll_28 rfl (lv_at hl 0 rfl) ?_
      obtain ⟨r29, g29, hf⟩ := xb1_s hf
      refine x_callVi (As := [.int a1, .int (M2 (i + 9) 5 v2_2.toNatClampNeg)]) (rest := [.int (M2 (i + 9) 4 (M2 (i + 9) 5 v2_2.toNatClampNeg).toNatClampNeg)]) E hI (mf_0 hi) rfl rfl rfl (c_X0_highestMark l G _ (M := M2) (L := L) (i := i) (hi := hi) (a1 := a1) (a2 := (M2 (i + 9) 5 v2_2.toNatClampNeg)) g29) yv_X0_highestMark ml_X0_51 (by decide) (by decide) rfl rfl hl.1 (Nat.le_of_ble_eq_true rfl) dX0_roll_29 (fun H locs hI => ?_)
      refine lv_icmp_gt (tgt := 74) hx hb dX0_roll_32 (by decide) (fun c32 => ?_) (fun c32 => ?_)
      · replace hf := xif_t c32 hf
        exact (w_X0_roll_b74 E (i := i) (a1 := a1) (M := M) (L := L) (v2_2 := v2_2) (M2 := M2) (hi := hi) (k2 := (f_X0_roll_l2 i a1 n)) (hk2 := ih))  hf _ (lv_sub hl [1, 2, 3] rfl) _ _ hI
      · replace hf := xif_f c32 hf
        refine lv_aload_n hx hb dX0_roll_35 rfl (lv_at hl 1 rfl) ?_
        refine lv_iload_n hx hb dX0_roll_36 rfl (lv_at hl 0 rfl) ?_
        obtain ⟨r37, g37, hf⟩ := xb1_s hf
        refine x_callVi (As := [.int (M2 (i + 9) 5 v2_2.toNatClampNeg)]) (rest := []) E hI (mf_0 hi) rfl rfl rfl (c_X0_isFull l G _ (M := M2) (L := L) (i := i) (hi := hi) (a1 := (M2 (i + 9) 5 v2_2.toNatClampNeg)) g37) yv_X0_isFull ml_X0_55 (by decide) (by decide) rfl rfl hl.1 (Nat.le_of_ble_eq_true rfl) dX0_roll_37 (fun H locs hI => ?_)
        refine lv_if_ne (tgt := 74) hx hb dX0_roll_40 (by decide) (fun c40 => ?_) (fun c40 => ?_)
        · replace hf := xif_f c40 hf
          exact (w_X0_roll_b74 E (i := i) (a1 := a1) (M := M) (L := L) (v2_2 := v2_2) (M2 := M2) (hi := hi) (k2 := (f_X0_roll_l2 i a1 n)) (hk2 := ih))  hf _ (lv_sub hl [1, 2, 3] rfl) _ _ hI
        · replace hf := xif_t c40 hf
          refine lv_aload_n hx hb dX0_roll_43 rfl (lv_at hl 1 rfl) ?_
          refine gf_X0_9 E hI hi dX0_roll_44 ?_
          refine lv_iload_n hx hb dX0_roll_47 rfl (lv_at hl 2 rfl) ?_
          refine lv_iload_n hx hb dX0_roll_48 rfl (lv_at hl 0 rfl) ?_
          refine lv_iconst (v := 1) hx hb dX0_roll_49 (by decide) ?_
          refine lv_iadd hx hb dX0_roll_50 ?_
          obtain ⟨h51b, hf⟩ := xchk_s hf
          obtain ⟨M51, e51, hf⟩ := xlet_s hf
          refine x_iast (n := 6) E hI (mf_2 hi) (fun _ _ => rfl) h51b dX0_roll_51 e51 (fun H locs hI => ?_)
          refine lv_aload_n hx hb dX0_roll_52 rfl (lv_at hl 1 rfl) ?_
          refine gf_X0_24 E hI hi dX0_roll_53 ?_
          refine lv_iload_n hx hb dX0_roll_56 rfl (lv_at hl 0 rfl) ?_
          refine lv_sipush (v := 999) hx hb dX0_roll_57 (by decide) ?_
          refine lv_aload_n hx hb dX0_roll_60 rfl (lv_at hl 1 rfl) ?_
          refine gf_X0_24 E hI hi dX0_roll_61 ?_
          refine lv_iload_n hx hb dX0_roll_64 rfl (lv_at hl 0 rfl) ?_
          obtain ⟨h65b, hf⟩ := xchk_s hf
          refine x_iald (n := 5) E hI (mf_6 hi) (fun _ _ => rfl) h65b dX0_roll_65 ?_
          refine lv_iconst (v := 1) hx hb dX0_roll_66 (by decide) ?_
          refine lv_iadd hx hb dX0_roll_67 ?_
          refine x_min E ml_X0_59 ms_min mi_math mc_min (by decide) hl.1 (Nat.le_of_ble_eq_true rfl) dX0_roll_68 ?_
          obtain ⟨h71b, hf⟩ := xchk_s hf
          obtain ⟨M71, e71, hf⟩ := xlet_s hf
          refine x_iast (n := 5) E hI (mf_6 hi) (fun _ _ => rfl) h71b dX0_roll_71 e71 (fun H locs hI => ?_)
          refine lv_iload_n hx hb dX0_roll_72 rfl (lv_at hl 0 rfl) ?_
          cases hf
          exact x_iret E hI rfl dX0_roll_73
set_option maxHeartbeats 4000000 in
set_option maxRecDepth 100000 in
theorem c_X0_roll (l : Launch) (G : xG) (sz : Nat) (M : xMem) (L : xLL) (i : Nat) (a1 : Int32) (hi : i < 21) {rr : Int32} {MM : xMem} (hf : f_X0_roll i a1 M = some (rr, MM)) : Met l yX0_roll (Cond.code yX0_roll cX0_roll 4 (some .int) :: xTB) (xR 3) (xP G M L sz [.ref (xq G (i + 9) 0), .int a1]) (xQi G rr MM L sz) 0 0 (xZ G sz) := by
  refine x_met (cc := cX0_roll) (nL := 4) (rt := (some .int)) (by decide) (Nat.le_of_ble_eq_true rfl) ?_
  intro p e s m below meth c ls hsz E hl hI
  subst hsz
  have E : xE p s m _ meth c cX0_roll 4 (some .int) RX0 G := E
  have hx := E.1
  have hb := E.2.1
  have hl : lv_has ls 4 [(0, .ref (xq G (i + 9) 0)), (1, .int a1)] := hl
  rw [f_X0_roll] at hf
  refine lv_iconst (v := 0) hx hb dX0_roll_0 (by decide) ?_
  refine lv_istore_n (lv' := [(2, .int (0 : Int32)), (0, .ref (xq G (i + 9) 0)), (1, .int a1)]) hx hb dX0_roll_1 rfl hl (by decide) rfl (fun ls hl => ?_)
  exact (w_X0_roll_l2 E (i := i) (a1 := a1) (M := M) (L := L) (hi := hi) FU) (0 : Int32) M hf _ (lv_sub hl [1, 2, 0] rfl) _ _ hI
theorem dX0_become_0 : decode cX0_become 0 = .ok (.aload_n 1, 1) := by decide +kernel
theorem dX0_become_1 : decode cX0_become 1 = .ok (.getfield 9, 3) := by decide +kernel
theorem dX0_become_4 : decode cX0_become 4 = .ok (.iconst 0, 1) := by decide +kernel
theorem dX0_become_5 : decode cX0_become 5 = .ok (.aload_n 0, 1) := by decide +kernel
theorem dX0_become_6 : decode cX0_become 6 = .ok (.getfield 9, 3) := by decide +kernel
theorem dX0_become_9 : decode cX0_become 9 = .ok (.iconst 0, 1) := by decide +kernel
theorem dX0_become_10 : decode cX0_become 10 = .ok (.bipush 6, 2) := by decide +kernel
theorem dX0_become_12 : decode cX0_become 12 = .ok (.invokestatic 40, 3) := by decide +kernel
theorem dX0_become_15 : decode cX0_become 15 = .ok (.aload_n 1, 1) := by decide +kernel
theorem dX0_become_16 : decode cX0_become 16 = .ok (.getfield 15, 3) := by decide +kernel
theorem dX0_become_19 : decode cX0_become 19 = .ok (.iconst 0, 1) := by decide +kernel
theorem dX0_become_20 : decode cX0_become 20 = .ok (.aload_n 0, 1) := by decide +kernel
theorem dX0_become_21 : decode cX0_become 21 = .ok (.getfield 15, 3) := by decide +kernel
theorem dX0_become_24 : decode cX0_become 24 = .ok (.iconst 0, 1) := by decide +kernel
theorem dX0_become_25 : decode cX0_become 25 = .ok (.bipush 6, 2) := by decide +kernel
theorem dX0_become_27 : decode cX0_become 27 = .ok (.invokestatic 40, 3) := by decide +kernel
theorem dX0_become_30 : decode cX0_become 30 = .ok (.aload_n 1, 1) := by decide +kernel
theorem dX0_become_31 : decode cX0_become 31 = .ok (.getfield 18, 3) := by decide +kernel
theorem dX0_become_34 : decode cX0_become 34 = .ok (.iconst 0, 1) := by decide +kernel
theorem dX0_become_35 : decode cX0_become 35 = .ok (.aload_n 0, 1) := by decide +kernel
theorem dX0_become_36 : decode cX0_become 36 = .ok (.getfield 18, 3) := by decide +kernel
theorem dX0_become_39 : decode cX0_become 39 = .ok (.iconst 0, 1) := by decide +kernel
theorem dX0_become_40 : decode cX0_become 40 = .ok (.iconst 5, 1) := by decide +kernel
theorem dX0_become_41 : decode cX0_become 41 = .ok (.invokestatic 40, 3) := by decide +kernel
theorem dX0_become_44 : decode cX0_become 44 = .ok (.aload_n 1, 1) := by decide +kernel
theorem dX0_become_45 : decode cX0_become 45 = .ok (.getfield 21, 3) := by decide +kernel
theorem dX0_become_48 : decode cX0_become 48 = .ok (.iconst 0, 1) := by decide +kernel
theorem dX0_become_49 : decode cX0_become 49 = .ok (.aload_n 0, 1) := by decide +kernel
theorem dX0_become_50 : decode cX0_become 50 = .ok (.getfield 21, 3) := by decide +kernel
theorem dX0_become_53 : decode cX0_become 53 = .ok (.iconst 0, 1) := by decide +kernel
theorem dX0_become_54 : decode cX0_become 54 = .ok (.iconst 5, 1) := by decide +kernel
theorem dX0_become_55 : decode cX0_become 55 = .ok (.invokestatic 40, 3) := by decide +kernel
theorem dX0_become_58 : decode cX0_become 58 = .ok (.aload_n 1, 1) := by decide +kernel
theorem dX0_become_59 : decode cX0_become 59 = .ok (.getfield 24, 3) := by decide +kernel
theorem dX0_become_62 : decode cX0_become 62 = .ok (.iconst 0, 1) := by decide +kernel
theorem dX0_become_63 : decode cX0_become 63 = .ok (.aload_n 0, 1) := by decide +kernel
theorem dX0_become_64 : decode cX0_become 64 = .ok (.getfield 24, 3) := by decide +kernel
theorem dX0_become_67 : decode cX0_become 67 = .ok (.iconst 0, 1) := by decide +kernel
theorem dX0_become_68 : decode cX0_become 68 = .ok (.iconst 5, 1) := by decide +kernel
theorem dX0_become_69 : decode cX0_become 69 = .ok (.invokestatic 40, 3) := by decide +kernel
theorem dX0_become_72 : decode cX0_become 72 = .ok (.return_, 1) := by decide +kernel
def f_X0_become (i : Nat) (j1 : Nat) (M : xMem) : Option (xMem) := xchk (xcb (0 : Int32) (0 : Int32) (6 : Int32) 6 6) (xlet (xcp M (j1 + 9) 2 (0 : Int32) (i + 9) 2 (0 : Int32) (6 : Int32)) (fun M12 => xchk (xcb (0 : Int32) (0 : Int32) (6 : Int32) 6 6) (xlet (xcp M12 (j1 + 9) 3 (0 : Int32) (i + 9) 3 (0 : Int32) (6 : Int32)) (fun M27 => xchk (xcb (0 : Int32) (0 : Int32) (5 : Int32) 5 5) (xlet (xcp M27 (j1 + 9) 4 (0 : Int32) (i + 9) 4 (0 : Int32) (5 : Int32)) (fun M41 => xchk (xcb (0 : Int32) (0 : Int32) (5 : Int32) 5 5) (xlet (xcp M41 (j1 + 9) 5 (0 : Int32) (i + 9) 5 (0 : Int32) (5 : Int32)) (fun M55 => xchk (xcb (0 : Int32) (0 : Int32) (5 : Int32) 5 5) (xlet (xcp M55 (j1 + 9) 6 (0 : Int32) (i + 9) 6 (0 : Int32) (5 : Int32)) (fun M69 => some M69))))))))))
set_option maxHeartbeats 4000000 in
set_option maxRecDepth 100000 in
theorem c_X0_become (l : Launch) (G : xG) (sz : Nat) (M : xMem) (L : xLL) (i : Nat) (j1 : Nat) (hi : i < 21) (hj1 : j1 < 21) {MM : xMem} (hf : f_X0_become i j1 M = some MM) : Met l yX0_become (Cond.code yX0_become cX0_become 2 none :: xTB) (xR 1) (xP G M L sz [.ref (xq G (i + 9) 0), .ref (xq G (j1 + 9) 0)]) (xQv G MM L sz) 0 0 (xZ G sz) := by
  refine x_met (cc := cX0_become) (nL := 2) (rt := none) (by decide) (Nat.le_of_ble_eq_true rfl) ?_
  intro p e s m below meth c ls hsz E hl hI
  subst hsz
  have E : xE p s m _ meth c cX0_become 2 none RX0 G := E
  have hx := E.1
  have hb := E.2.1
  have hl : lv_has ls 2 [(0, .ref (xq G (i + 9) 0)), (1, .ref (xq G (j1 + 9) 0))] := hl
  rw [f_X0_become] at hf
  refine lv_aload_n hx hb dX0_become_0 rfl (lv_at hl 1 rfl) ?_
  refine gf_X0_9 E hI hj1 dX0_become_1 ?_
  refine lv_iconst (v := 0) hx hb dX0_become_4 (by decide) ?_
  refine lv_aload_n hx hb dX0_become_5 rfl (lv_at hl 0 rfl) ?_
  refine gf_X0_9 E hI hi dX0_become_6 ?_
  refine lv_iconst (v := 0) hx hb dX0_become_9 (by decide) ?_
  refine lv_bipush (v := 6) hx hb dX0_become_10 (by decide) ?_
  obtain ⟨h12c, hf⟩ := xchk_s hf
  obtain ⟨M12, e12, hf⟩ := xlet_s hf
  refine x_copy E hI (mf_2 hj1) (fun _ _ => rfl) (mf_2 hi) (fun _ _ => rfl) ml_X0_40 ac_n ac_s ac_i (by decide) hl.1 (Nat.le_of_ble_eq_true rfl) h12c dX0_become_12 e12 (fun H locs hI => ?_)
  refine lv_aload_n hx hb dX0_become_15 rfl (lv_at hl 1 rfl) ?_
  refine gf_X0_15 E hI hj1 dX0_become_16 ?_
  refine lv_iconst (v := 0) hx hb dX0_become_19 (by decide) ?_
  refine lv_aload_n hx hb dX0_become_20 rfl (lv_at hl 0 rfl) ?_
  refine gf_X0_15 E hI hi dX0_become_21 ?_
  refine lv_iconst (v := 0) hx hb dX0_become_24 (by decide) ?_
  refine lv_bipush (v := 6) hx hb dX0_become_25 (by decide) ?_
  obtain ⟨h27c, hf⟩ := xchk_s hf
  obtain ⟨M27, e27, hf⟩ := xlet_s hf
  refine x_copy E hI (mf_3 hj1) (fun _ _ => rfl) (mf_3 hi) (fun _ _ => rfl) ml_X0_40 ac_n ac_s ac_i (by decide) hl.1 (Nat.le_of_ble_eq_true rfl) h27c dX0_become_27 e27 (fun H locs hI => ?_)
  refine lv_aload_n hx hb dX0_become_30 rfl (lv_at hl 1 rfl) ?_
  refine gf_X0_18 E hI hj1 dX0_become_31 ?_
  refine lv_iconst (v := 0) hx hb dX0_become_34 (by decide) ?_
  refine lv_aload_n hx hb dX0_become_35 rfl (lv_at hl 0 rfl) ?_
  refine gf_X0_18 E hI hi dX0_become_36 ?_
  refine lv_iconst (v := 0) hx hb dX0_become_39 (by decide) ?_
  refine lv_iconst (v := 5) hx hb dX0_become_40 (by decide) ?_
  obtain ⟨h41c, hf⟩ := xchk_s hf
  obtain ⟨M41, e41, hf⟩ := xlet_s hf
  refine x_copy E hI (mf_4 hj1) (fun _ _ => rfl) (mf_4 hi) (fun _ _ => rfl) ml_X0_40 ac_n ac_s ac_i (by decide) hl.1 (Nat.le_of_ble_eq_true rfl) h41c dX0_become_41 e41 (fun H locs hI => ?_)
  refine lv_aload_n hx hb dX0_become_44 rfl (lv_at hl 1 rfl) ?_
  refine gf_X0_21 E hI hj1 dX0_become_45 ?_
  refine lv_iconst (v := 0) hx hb dX0_become_48 (by decide) ?_
  refine lv_aload_n hx hb dX0_become_49 rfl (lv_at hl 0 rfl) ?_
  refine gf_X0_21 E hI hi dX0_become_50 ?_
  refine lv_iconst (v := 0) hx hb dX0_become_53 (by decide) ?_
  refine lv_iconst (v := 5) hx hb dX0_become_54 (by decide) ?_
  obtain ⟨h55c, hf⟩ := xchk_s hf
  obtain ⟨M55, e55, hf⟩ := xlet_s hf
  refine x_copy E hI (mf_5 hj1) (fun _ _ => rfl) (mf_5 hi) (fun _ _ => rfl) ml_X0_40 ac_n ac_s ac_i (by decide) hl.1 (Nat.le_of_ble_eq_true rfl) h55c dX0_become_55 e55 (fun H locs hI => ?_)
  refine lv_aload_n hx hb dX0_become_58 rfl (lv_at hl 1 rfl) ?_
  refine gf_X0_24 E hI hj1 dX0_become_59 ?_
  refine lv_iconst (v := 0) hx hb dX0_become_62 (by decide) ?_
  refine lv_aload_n hx hb dX0_become_63 rfl (lv_at hl 0 rfl) ?_
  refine gf_X0_24 E hI hi dX0_become_64 ?_
  refine lv_iconst (v := 0) hx hb dX0_become_67 (by decide) ?_
  refine lv_iconst (v := 5) hx hb dX0_become_68 (by decide) ?_
  obtain ⟨h69c, hf⟩ := xchk_s hf
  obtain ⟨M69, e69, hf⟩ := xlet_s hf
  refine x_copy E hI (mf_6 hj1) (fun _ _ => rfl) (mf_6 hi) (fun _ _ => rfl) ml_X0_40 ac_n ac_s ac_i (by decide) hl.1 (Nat.le_of_ble_eq_true rfl) h69c dX0_become_69 e69 (fun H locs hI => ?_)
  cases hf
  exact x_vret E hI dX0_become_72
theorem dJ7_fill_53178_0 : decode cJ7_fill_53178 0 = .ok (.iconst 0, 1) := by decide +kernel
theorem dJ7_fill_53178_1 : decode cJ7_fill_53178 1 = .ok (.istore_n 2, 1) := by decide +kernel
theorem dJ7_fill_53178_2 : decode cJ7_fill_53178 2 = .ok (.aload_n 0, 1) := by decide +kernel
theorem dJ7_fill_53178_3 : decode cJ7_fill_53178 3 = .ok (.arraylength, 1) := by decide +kernel
theorem dJ7_fill_53178_4 : decode cJ7_fill_53178 4 = .ok (.istore_n 3, 1) := by decide +kernel
theorem dJ7_fill_53178_5 : decode cJ7_fill_53178 5 = .ok (.iload_n 2, 1) := by decide +kernel
theorem dJ7_fill_53178_6 : decode cJ7_fill_53178 6 = .ok (.iload_n 3, 1) := by decide +kernel
theorem dJ7_fill_53178_7 : decode cJ7_fill_53178 7 = .ok (.if_icmp .ge 13, 3) := by decide +kernel
theorem dJ7_fill_53178_10 : decode cJ7_fill_53178 10 = .ok (.aload_n 0, 1) := by decide +kernel
theorem dJ7_fill_53178_11 : decode cJ7_fill_53178 11 = .ok (.iload_n 2, 1) := by decide +kernel
theorem dJ7_fill_53178_12 : decode cJ7_fill_53178 12 = .ok (.iload_n 1, 1) := by decide +kernel
theorem dJ7_fill_53178_13 : decode cJ7_fill_53178 13 = .ok (.iastore, 1) := by decide +kernel
theorem dJ7_fill_53178_14 : decode cJ7_fill_53178 14 = .ok (.iinc 2 1, 3) := by decide +kernel
theorem dJ7_fill_53178_17 : decode cJ7_fill_53178 17 = .ok (.goto (-12), 3) := by decide +kernel
theorem dJ7_fill_53178_20 : decode cJ7_fill_53178 20 = .ok (.return_, 1) := by decide +kernel
def f_J7_fill_53178_l5 (o0 : Nat) (r0 : Nat) (n0 : Nat) (a1 : Int32) : Nat → Int32 → xMem → Option (xMem)
  | 0, _, _ => none
  | n + 1, v5_2, M5 => (if (Int32.ofNat n0) ≤ v5_2 then some M5 else xchk (xb v5_2 n0) (xlet (xst M5 o0 r0 v5_2 a1) (fun M13 => (f_J7_fill_53178_l5 o0 r0 n0 a1 n) (v5_2 + (1 : Int32)) M13)))
def f_J7_fill_53178 (o0 : Nat) (r0 : Nat) (n0 : Nat) (a1 : Int32) (M : xMem) : Option (xMem) := (f_J7_fill_53178_l5 o0 r0 n0 a1 FU) (0 : Int32) M
set_option maxHeartbeats 4000000 in
set_option maxRecDepth 100000 in
theorem w_J7_fill_53178_l5 {p : Program} {l : Launch} {e : Env} {s : State} {m : MethodId} {args : Array Value} {below : List Frame} {meth : Method} {c : Code} {G : xG} {MM : xMem} (E : xE p s m args meth c cJ7_fill_53178 4 none RJ7 G) (o0 : Nat) (r0 : Nat) (n0 : Nat) (a1 : Int32) (M : xMem) (L : xLL) (hm0 : (o0, r0) ∈ ixs) (hc0 : ∀ w v, xc G o0 r0 w v = .inl (xk G 0, n0, .inl w)) : ∀ (n : Nat), ∀ (v5_2 : Int32) (M5 : xMem), f_J7_fill_53178_l5 o0 r0 n0 a1 n v5_2 M5 = some MM → ∀ (ls : Array Slot), lv_has ls 4 [(0, .ref (xq G o0 r0)), (1, .int a1), (2, .int v5_2), (3, .int (Int32.ofNat n0))] → ∀ (H : Heap) (locs : List Loc), xI G M5 L s.heap H locs → W p l e (xR 1) s m args below meth c H locs 0 0 (MQ below (xQv G MM L s.heap.size) args s 0 0 (xZ G s.heap.size)) (F0 m 5 ls []) := by
  have hx := E.1
  have hb := E.2.1
  intro n
  induction n with
  | zero =>
    intro v5_2 M5 hf
    exact absurd hf (by simp [f_J7_fill_53178_l5])
  | succ n ih =>
    intro v5_2 M5 hf ls hl H locs hI
    rw [f_J7_fill_53178_l5] at hf
    refine lv_iload_n hx hb dJ7_fill_53178_5 rfl (lv_at hl 2 rfl) ?_
    refine lv_iload_n hx hb dJ7_fill_53178_6 rfl (lv_at hl 3 rfl) ?_
    refine lv_icmp_ge (tgt := 20) hx hb dJ7_fill_53178_7 (by decide) (fun c7 => ?_) (fun c7 => ?_)
    · replace hf := xif_t c7 hf
      cases hf
      exact x_vret E hI dJ7_fill_53178_20
    · replace hf := xif_f c7 hf
      refine lv_aload_n hx hb dJ7_fill_53178_10 rfl (lv_at hl 0 rfl) ?_
      refine lv_iload_n hx hb dJ7_fill_53178_11 rfl (lv_at hl 2 rfl) ?_
      refine lv_iload_n hx hb dJ7_fill_53178_12 rfl (lv_at hl 1 rfl) ?_
      obtain ⟨h13b, hf⟩ := xchk_s hf
      obtain ⟨M13, e13, hf⟩ := xlet_s hf
      refine x_iast (n := n0) E hI hm0 hc0 h13b dJ7_fill_53178_13 e13 (fun H locs hI => ?_)
      refine lv_iinc (v := (v5_2 + (1 : Int32))) (lv' := [(2, .int (v5_2 + (1 : Int32))), (0, .ref (xq G o0 r0)), (1, .int a1), (3, .int (Int32.ofNat n0))]) hx hb dJ7_fill_53178_14 hl (k := 2) rfl rfl (by decide) rfl (fun ls hl => ?_)
      refine lv_goto (tgt := 5) hx hb dJ7_fill_53178_17 (by decide) ?_
      exact ih (v5_2 + (1 : Int32)) M13 hf _ (lv_sub hl [1, 2, 0, 3] rfl) _ _ hI
set_option maxHeartbeats 4000000 in
set_option maxRecDepth 100000 in
theorem c_J7_fill_53178 (l : Launch) (G : xG) (sz : Nat) (M : xMem) (L : xLL) (o0 : Nat) (r0 : Nat) (n0 : Nat) (a1 : Int32) (hm0 : (o0, r0) ∈ ixs) (hc0 : ∀ w v, xc G o0 r0 w v = .inl (xk G 0, n0, .inl w)) {MM : xMem} (hf : f_J7_fill_53178 o0 r0 n0 a1 M = some MM) : Met l yJ7_fill_53178 (Cond.code yJ7_fill_53178 cJ7_fill_53178 4 none :: xTB) (xR 1) (xP G M L sz [.ref (xq G o0 r0), .int a1]) (xQv G MM L sz) 0 0 (xZ G sz) := by
  refine x_met (cc := cJ7_fill_53178) (nL := 4) (rt := none) (by decide) (Nat.le_of_ble_eq_true rfl) ?_
  intro p e s m below meth c ls hsz E hl hI
  subst hsz
  have E : xE p s m _ meth c cJ7_fill_53178 4 none RJ7 G := E
  have hx := E.1
  have hb := E.2.1
  have hl : lv_has ls 4 [(0, .ref (xq G o0 r0)), (1, .int a1)] := hl
  rw [f_J7_fill_53178] at hf
  refine lv_iconst (v := 0) hx hb dJ7_fill_53178_0 (by decide) ?_
  refine lv_istore_n (lv' := [(2, .int (0 : Int32)), (0, .ref (xq G o0 r0)), (1, .int a1)]) hx hb dJ7_fill_53178_1 rfl hl (by decide) rfl (fun ls hl => ?_)
  refine lv_aload_n hx hb dJ7_fill_53178_2 rfl (lv_at hl 1 rfl) ?_
  refine x_alen E hI hm0 hc0 dJ7_fill_53178_3 ?_
  refine lv_istore_n (lv' := [(3, .int (Int32.ofNat n0)), (2, .int (0 : Int32)), (0, .ref (xq G o0 r0)), (1, .int a1)]) hx hb dJ7_fill_53178_4 rfl hl (by decide) rfl (fun ls hl => ?_)
  exact (w_J7_fill_53178_l5 E (o0 := o0) (r0 := r0) (n0 := n0) (a1 := a1) (M := M) (L := L) (hm0 := hm0) (hc0 := hc0) FU) (0 : Int32) M hf _ (lv_sub hl [2, 3, 1, 0] rfl) _ _ hI
theorem dX0_begin_0 : decode cX0_begin 0 = .ok (.aload_n 0, 1) := by decide +kernel
theorem dX0_begin_1 : decode cX0_begin 1 = .ok (.getfield 9, 3) := by decide +kernel
theorem dX0_begin_4 : decode cX0_begin 4 = .ok (.iconst 0, 1) := by decide +kernel
theorem dX0_begin_5 : decode cX0_begin 5 = .ok (.invokestatic 31, 3) := by decide +kernel
theorem dX0_begin_8 : decode cX0_begin 8 = .ok (.aload_n 0, 1) := by decide +kernel
theorem dX0_begin_9 : decode cX0_begin 9 = .ok (.getfield 24, 3) := by decide +kernel
theorem dX0_begin_12 : decode cX0_begin 12 = .ok (.iconst 0, 1) := by decide +kernel
theorem dX0_begin_13 : decode cX0_begin 13 = .ok (.invokestatic 31, 3) := by decide +kernel
theorem dX0_begin_16 : decode cX0_begin 16 = .ok (.aload_n 0, 1) := by decide +kernel
theorem dX0_begin_17 : decode cX0_begin 17 = .ok (.getfield 27, 3) := by decide +kernel
theorem dX0_begin_20 : decode cX0_begin 20 = .ok (.getfield 37, 3) := by decide +kernel
theorem dX0_begin_23 : decode cX0_begin 23 = .ok (.iconst 0, 1) := by decide +kernel
theorem dX0_begin_24 : decode cX0_begin 24 = .ok (.aload_n 0, 1) := by decide +kernel
theorem dX0_begin_25 : decode cX0_begin 25 = .ok (.getfield 15, 3) := by decide +kernel
theorem dX0_begin_28 : decode cX0_begin 28 = .ok (.iconst 0, 1) := by decide +kernel
theorem dX0_begin_29 : decode cX0_begin 29 = .ok (.bipush 6, 2) := by decide +kernel
theorem dX0_begin_31 : decode cX0_begin 31 = .ok (.invokestatic 40, 3) := by decide +kernel
theorem dX0_begin_34 : decode cX0_begin 34 = .ok (.aload_n 0, 1) := by decide +kernel
theorem dX0_begin_35 : decode cX0_begin 35 = .ok (.getfield 27, 3) := by decide +kernel
theorem dX0_begin_38 : decode cX0_begin 38 = .ok (.getfield 46, 3) := by decide +kernel
theorem dX0_begin_41 : decode cX0_begin 41 = .ok (.iconst 0, 1) := by decide +kernel
theorem dX0_begin_42 : decode cX0_begin 42 = .ok (.aload_n 0, 1) := by decide +kernel
theorem dX0_begin_43 : decode cX0_begin 43 = .ok (.getfield 18, 3) := by decide +kernel
theorem dX0_begin_46 : decode cX0_begin 46 = .ok (.iconst 0, 1) := by decide +kernel
theorem dX0_begin_47 : decode cX0_begin 47 = .ok (.iconst 5, 1) := by decide +kernel
theorem dX0_begin_48 : decode cX0_begin 48 = .ok (.invokestatic 40, 3) := by decide +kernel
theorem dX0_begin_51 : decode cX0_begin 51 = .ok (.iconst 0, 1) := by decide +kernel
theorem dX0_begin_52 : decode cX0_begin 52 = .ok (.istore_n 1, 1) := by decide +kernel
theorem dX0_begin_53 : decode cX0_begin 53 = .ok (.iload_n 1, 1) := by decide +kernel
theorem dX0_begin_54 : decode cX0_begin 54 = .ok (.iconst 5, 1) := by decide +kernel
theorem dX0_begin_55 : decode cX0_begin 55 = .ok (.if_icmp .ge 16, 3) := by decide +kernel
theorem dX0_begin_58 : decode cX0_begin 58 = .ok (.aload_n 0, 1) := by decide +kernel
theorem dX0_begin_59 : decode cX0_begin 59 = .ok (.getfield 21, 3) := by decide +kernel
theorem dX0_begin_62 : decode cX0_begin 62 = .ok (.iload_n 1, 1) := by decide +kernel
theorem dX0_begin_63 : decode cX0_begin 63 = .ok (.iload_n 1, 1) := by decide +kernel
theorem dX0_begin_64 : decode cX0_begin 64 = .ok (.iastore, 1) := by decide +kernel
theorem dX0_begin_65 : decode cX0_begin 65 = .ok (.iinc 1 1, 3) := by decide +kernel
theorem dX0_begin_68 : decode cX0_begin 68 = .ok (.goto (-15), 3) := by decide +kernel
theorem dX0_begin_71 : decode cX0_begin 71 = .ok (.return_, 1) := by decide +kernel
def f_X0_begin_l53 (i : Nat) : Nat → Int32 → xMem → Option (xMem)
  | 0, _, _ => none
  | n + 1, v53_1, M53 => (if (5 : Int32) ≤ v53_1 then some M53 else xchk (xb v53_1 5) (xlet (xst M53 (i + 9) 5 v53_1 v53_1) (fun M64 => (f_X0_begin_l53 i n) (v53_1 + (1 : Int32)) M64)))
def f_X0_begin (i : Nat) (M : xMem) : Option (xMem) := xb1 (f_J7_fill_53178 (i + 9) 2 6 (0 : Int32) M) (fun M5 => xb1 (f_J7_fill_53178 (i + 9) 6 5 (0 : Int32) M5) (fun M13 => xchk (xcb (0 : Int32) (0 : Int32) (6 : Int32) 6 6) (xlet (xcp M13 3 6 (0 : Int32) (i + 9) 3 (0 : Int32) (6 : Int32)) (fun M31 => xchk (xcb (0 : Int32) (0 : Int32) (5 : Int32) 5 5) (xlet (xcp M31 3 3 (0 : Int32) (i + 9) 4 (0 : Int32) (5 : Int32)) (fun M48 => (f_X0_begin_l53 i FU) (0 : Int32) M48))))))
set_option maxHeartbeats 4000000 in
set_option maxRecDepth 100000 in
theorem w_X0_begin_l53 {p : Program} {l : Launch} {e : Env} {s : State} {m : MethodId} {args : Array Value} {below : List Frame} {meth : Method} {c : Code} {G : xG} {MM : xMem} (E : xE p s m args meth c cX0_begin 2 none RX0 G) (i : Nat) (M : xMem) (L : xLL) (hi : i < 21) : ∀ (n : Nat), ∀ (v53_1 : Int32) (M53 : xMem), f_X0_begin_l53 i n v53_1 M53 = some MM → ∀ (ls : Array Slot), lv_has ls 2 [(0, .ref (xq G (i + 9) 0)), (1, .int v53_1)] → ∀ (H : Heap) (locs : List Loc), xI G M53 L s.heap H locs → W p l e (xR 2) s m args below meth c H locs 0 0 (MQ below (xQv G MM L s.heap.size) args s 0 0 (xZ G s.heap.size)) (F0 m 53 ls []) := by
  have hx := E.1
  have hb := E.2.1
  intro n
  induction n with
  | zero =>
    intro v53_1 M53 hf
    exact absurd hf (by simp [f_X0_begin_l53])
  | succ n ih =>
    intro v53_1 M53 hf ls hl H locs hI
    rw [f_X0_begin_l53] at hf
    refine lv_iload_n hx hb dX0_begin_53 rfl (lv_at hl 1 rfl) ?_
    refine lv_iconst (v := 5) hx hb dX0_begin_54 (by decide) ?_
    refine lv_icmp_ge (tgt := 71) hx hb dX0_begin_55 (by decide) (fun c55 => ?_) (fun c55 => ?_)
    · replace hf := xif_t c55 hf
      cases hf
      exact x_vret E hI dX0_begin_71
    · replace hf := xif_f c55 hf
      refine lv_aload_n hx hb dX0_begin_58 rfl (lv_at hl 0 rfl) ?_
      refine gf_X0_21 E hI hi dX0_begin_59 ?_
      refine lv_iload_n hx hb dX0_begin_62 rfl (lv_at hl 1 rfl) ?_
      refine lv_iload_n hx hb dX0_begin_63 rfl (lv_at hl 1 rfl) ?_
      obtain ⟨h64b, hf⟩ := xchk_s hf
      obtain ⟨M64, e64, hf⟩ := xlet_s hf
      refine x_iast (n := 5) E hI (mf_5 hi) (fun _ _ => rfl) h64b dX0_begin_64 e64 (fun H locs hI => ?_)
      refine lv_iinc (v := (v53_1 + (1 : Int32))) (lv' := [(1, .int (v53_1 + (1 : Int32))), (0, .ref (xq G (i + 9) 0))]) hx hb dX0_begin_65 hl (k := 1) rfl rfl (by decide) rfl (fun ls hl => ?_)
      refine lv_goto (tgt := 53) hx hb dX0_begin_68 (by decide) ?_
      exact ih (v53_1 + (1 : Int32)) M64 hf _ (lv_sub hl [1, 0] rfl) _ _ hI
set_option maxHeartbeats 4000000 in
set_option maxRecDepth 100000 in
theorem c_X0_begin (l : Launch) (G : xG) (sz : Nat) (M : xMem) (L : xLL) (i : Nat) (hi : i < 21) {MM : xMem} (hf : f_X0_begin i M = some MM) : Met l yX0_begin (Cond.code yX0_begin cX0_begin 2 none :: xTB) (xR 2) (xP G M L sz [.ref (xq G (i + 9) 0)]) (xQv G MM L sz) 0 0 (xZ G sz) := by
  refine x_met (cc := cX0_begin) (nL := 2) (rt := none) (by decide) (Nat.le_of_ble_eq_true rfl) ?_
  intro p e s m below meth c ls hsz E hl hI
  subst hsz
  have E : xE p s m _ meth c cX0_begin 2 none RX0 G := E
  have hx := E.1
  have hb := E.2.1
  have hl : lv_has ls 2 [(0, .ref (xq G (i + 9) 0))] := hl
  rw [f_X0_begin] at hf
  refine lv_aload_n hx hb dX0_begin_0 rfl (lv_at hl 0 rfl) ?_
  refine gf_X0_9 E hI hi dX0_begin_1 ?_
  refine lv_iconst (v := 0) hx hb dX0_begin_4 (by decide) ?_
  obtain ⟨M5, g5, hf⟩ := xb1_s hf
  refine x_callSv (As := [.ref (xq G (i + 9) 2), .int (0 : Int32)]) (rest := []) E hI (c_J7_fill_53178 l G _ (M := M) (L := L) (o0 := (i + 9)) (r0 := 2) (n0 := 6) (hm0 := (mf_2 hi)) (hc0 := (fun _ _ => rfl)) (a1 := (0 : Int32)) g5) ys_J7_fill_53178 ml_X0_31 (by decide) (by decide) rfl rfl hl.1 (Nat.le_of_ble_eq_true rfl) dX0_begin_5 (fun H locs hI => ?_)
  refine lv_aload_n hx hb dX0_begin_8 rfl (lv_at hl 0 rfl) ?_
  refine gf_X0_24 E hI hi dX0_begin_9 ?_
  refine lv_iconst (v := 0) hx hb dX0_begin_12 (by decide) ?_
  obtain ⟨M13, g13, hf⟩ := xb1_s hf
  refine x_callSv (As := [.ref (xq G (i + 9) 6), .int (0 : Int32)]) (rest := []) E hI (c_J7_fill_53178 l G _ (M := M5) (L := L) (o0 := (i + 9)) (r0 := 6) (n0 := 5) (hm0 := (mf_6 hi)) (hc0 := (fun _ _ => rfl)) (a1 := (0 : Int32)) g13) ys_J7_fill_53178 ml_X0_31 (by decide) (by decide) rfl rfl hl.1 (Nat.le_of_ble_eq_true rfl) dX0_begin_13 (fun H locs hI => ?_)
  refine lv_aload_n hx hb dX0_begin_16 rfl (lv_at hl 0 rfl) ?_
  refine gf_X0_27 E hI hi dX0_begin_17 ?_
  refine gf_X0_37_3 E hI dX0_begin_20 ?_
  refine lv_iconst (v := 0) hx hb dX0_begin_23 (by decide) ?_
  refine lv_aload_n hx hb dX0_begin_24 rfl (lv_at hl 0 rfl) ?_
  refine gf_X0_15 E hI hi dX0_begin_25 ?_
  refine lv_iconst (v := 0) hx hb dX0_begin_28 (by decide) ?_
  refine lv_bipush (v := 6) hx hb dX0_begin_29 (by decide) ?_
  obtain ⟨h31c, hf⟩ := xchk_s hf
  obtain ⟨M31, e31, hf⟩ := xlet_s hf
  refine x_copy E hI mx_3_6 (fun _ _ => rfl) (mf_3 hi) (fun _ _ => rfl) ml_X0_40 ac_n ac_s ac_i (by decide) hl.1 (Nat.le_of_ble_eq_true rfl) h31c dX0_begin_31 e31 (fun H locs hI => ?_)
  refine lv_aload_n hx hb dX0_begin_34 rfl (lv_at hl 0 rfl) ?_
  refine gf_X0_27 E hI hi dX0_begin_35 ?_
  refine gf_X0_46_3 E hI dX0_begin_38 ?_
  refine lv_iconst (v := 0) hx hb dX0_begin_41 (by decide) ?_
  refine lv_aload_n hx hb dX0_begin_42 rfl (lv_at hl 0 rfl) ?_
  refine gf_X0_18 E hI hi dX0_begin_43 ?_
  refine lv_iconst (v := 0) hx hb dX0_begin_46 (by decide) ?_
  refine lv_iconst (v := 5) hx hb dX0_begin_47 (by decide) ?_
  obtain ⟨h48c, hf⟩ := xchk_s hf
  obtain ⟨M48, e48, hf⟩ := xlet_s hf
  refine x_copy E hI mx_3_3 (fun _ _ => rfl) (mf_4 hi) (fun _ _ => rfl) ml_X0_40 ac_n ac_s ac_i (by decide) hl.1 (Nat.le_of_ble_eq_true rfl) h48c dX0_begin_48 e48 (fun H locs hI => ?_)
  refine lv_iconst (v := 0) hx hb dX0_begin_51 (by decide) ?_
  refine lv_istore_n (lv' := [(1, .int (0 : Int32)), (0, .ref (xq G (i + 9) 0))]) hx hb dX0_begin_52 rfl hl (by decide) rfl (fun ls hl => ?_)
  exact (w_X0_begin_l53 E (i := i) (M := M) (L := L) (hi := hi) FU) (0 : Int32) M48 hf _ (lv_sub hl [1, 0] rfl) _ _ hI
end
