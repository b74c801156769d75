section
-- ===== PART A: goes FIRST, ahead of the names: the tables' words, and 'selects' of the private methods out of them =====
/-- a private method of a class that the tables say can be made, by its rows of tables_1 -/
def lw_okq (q : MethodName × Nat) : Prop := (q.1.cls ≠ "java/lang/invoke/MethodHandle" ∧ q.1.cls ≠ "java/lang/invoke/VarHandle") ∧ Cond.instantiable q.1.cls q.2 ∈ tables_1 ∧ Cond.privateMethod q.1 ∈ tables_1 ∧ Cond.instanceMethod q.1 ∈ tables_1
theorem lw_p0 : lw_okq (⟨"TemperNurses$Course", "setCell", "(II)V"⟩, 2) := ⟨⟨by decide +kernel, by decide +kernel⟩, List.mem_of_getElem? (i := 124) (by decide +kernel), List.mem_of_getElem? (i := 255) (by decide +kernel), List.mem_of_getElem? (i := 256) (by decide +kernel)⟩
theorem lw_p1 : lw_okq (⟨"TemperNurses$TextReader", "readToken", "()V"⟩, 10) := ⟨⟨by decide +kernel, by decide +kernel⟩, List.mem_of_getElem? (i := 83) (by decide +kernel), List.mem_of_getElem? (i := 343) (by decide +kernel), List.mem_of_getElem? (i := 344) (by decide +kernel)⟩
theorem lw_p2 : lw_okq (⟨"TemperNurses$TextReader", "byteAt", "(I)I"⟩, 10) := ⟨⟨by decide +kernel, by decide +kernel⟩, List.mem_of_getElem? (i := 83) (by decide +kernel), List.mem_of_getElem? (i := 347) (by decide +kernel), List.mem_of_getElem? (i := 348) (by decide +kernel)⟩
theorem lw_p3 : lw_okq (⟨"TemperNurses$TextReader", "isLetter", "(I)Z"⟩, 10) := ⟨⟨by decide +kernel, by decide +kernel⟩, List.mem_of_getElem? (i := 83) (by decide +kernel), List.mem_of_getElem? (i := 352) (by decide +kernel), List.mem_of_getElem? (i := 353) (by decide +kernel)⟩
theorem lw_p4 : lw_okq (⟨"TemperNurses$TextReader", "readLetters", "()V"⟩, 10) := ⟨⟨by decide +kernel, by decide +kernel⟩, List.mem_of_getElem? (i := 83) (by decide +kernel), List.mem_of_getElem? (i := 356) (by decide +kernel), List.mem_of_getElem? (i := 357) (by decide +kernel)⟩
theorem lw_p5 : lw_okq (⟨"TemperNurses$TextReader", "isDigit", "(I)Z"⟩, 10) := ⟨⟨by decide +kernel, by decide +kernel⟩, List.mem_of_getElem? (i := 83) (by decide +kernel), List.mem_of_getElem? (i := 360) (by decide +kernel), List.mem_of_getElem? (i := 361) (by decide +kernel)⟩
theorem lw_p6 : lw_okq (⟨"TemperNurses$TextReader", "readDigits", "()V"⟩, 10) := ⟨⟨by decide +kernel, by decide +kernel⟩, List.mem_of_getElem? (i := 83) (by decide +kernel), List.mem_of_getElem? (i := 364) (by decide +kernel), List.mem_of_getElem? (i := 365) (by decide +kernel)⟩
theorem lw_p7 : lw_okq (⟨"TemperNurses$TextReader", "canStand", "()Z"⟩, 10) := ⟨⟨by decide +kernel, by decide +kernel⟩, List.mem_of_getElem? (i := 83) (by decide +kernel), List.mem_of_getElem? (i := 368) (by decide +kernel), List.mem_of_getElem? (i := 369) (by decide +kernel)⟩
theorem lw_p8 : lw_okq (⟨"TemperNurses$TextReader", "canBeginItem", "()Z"⟩, 10) := ⟨⟨by decide +kernel, by decide +kernel⟩, List.mem_of_getElem? (i := 83) (by decide +kernel), List.mem_of_getElem? (i := 372) (by decide +kernel), List.mem_of_getElem? (i := 373) (by decide +kernel)⟩
theorem lw_p9 : lw_okq (⟨"TemperNurses$TextReader", "numbersOfItem", "()I"⟩, 10) := ⟨⟨by decide +kernel, by decide +kernel⟩, List.mem_of_getElem? (i := 83) (by decide +kernel), List.mem_of_getElem? (i := 376) (by decide +kernel), List.mem_of_getElem? (i := 377) (by decide +kernel)⟩
theorem lw_p10 : lw_okq (⟨"TemperNurses$TextReader", "canBeTold", "()Z"⟩, 10) := ⟨⟨by decide +kernel, by decide +kernel⟩, List.mem_of_getElem? (i := 83) (by decide +kernel), List.mem_of_getElem? (i := 380) (by decide +kernel), List.mem_of_getElem? (i := 381) (by decide +kernel)⟩
theorem lw_p11 : lw_okq (⟨"TemperNurses$TextReader", "takeToken", "()V"⟩, 10) := ⟨⟨by decide +kernel, by decide +kernel⟩, List.mem_of_getElem? (i := 83) (by decide +kernel), List.mem_of_getElem? (i := 396) (by decide +kernel), List.mem_of_getElem? (i := 397) (by decide +kernel)⟩
theorem lw_p12 : lw_okq (⟨"TemperNurses$TextReader", "takeItem", "()V"⟩, 10) := ⟨⟨by decide +kernel, by decide +kernel⟩, List.mem_of_getElem? (i := 83) (by decide +kernel), List.mem_of_getElem? (i := 400) (by decide +kernel), List.mem_of_getElem? (i := 401) (by decide +kernel)⟩
theorem lw_p13 : lw_okq (⟨"TemperNurses$Course", "cell", "(I)I"⟩, 2) := ⟨⟨by decide +kernel, by decide +kernel⟩, List.mem_of_getElem? (i := 124) (by decide +kernel), List.mem_of_getElem? (i := 443) (by decide +kernel), List.mem_of_getElem? (i := 444) (by decide +kernel)⟩
theorem lw_p14 : lw_okq (⟨"TemperNurses$Course", "isLowestOfRing", "(I)Z"⟩, 2) := ⟨⟨by decide +kernel, by decide +kernel⟩, List.mem_of_getElem? (i := 124) (by decide +kernel), List.mem_of_getElem? (i := 526) (by decide +kernel), List.mem_of_getElem? (i := 527) (by decide +kernel)⟩
theorem lw_p15 : lw_okq (⟨"TemperNurses$Planner", "tryYears", "(II)V"⟩, 7) := ⟨⟨by decide +kernel, by decide +kernel⟩, List.mem_of_getElem? (i := 159) (by decide +kernel), List.mem_of_getElem? (i := 577) (by decide +kernel), List.mem_of_getElem? (i := 578) (by decide +kernel)⟩
def lw_privs_1 : List (MethodName × Nat) := [(⟨"TemperNurses$Course", "setCell", "(II)V"⟩, 2), (⟨"TemperNurses$TextReader", "readToken", "()V"⟩, 10), (⟨"TemperNurses$TextReader", "byteAt", "(I)I"⟩, 10), (⟨"TemperNurses$TextReader", "isLetter", "(I)Z"⟩, 10), (⟨"TemperNurses$TextReader", "readLetters", "()V"⟩, 10), (⟨"TemperNurses$TextReader", "isDigit", "(I)Z"⟩, 10), (⟨"TemperNurses$TextReader", "readDigits", "()V"⟩, 10), (⟨"TemperNurses$TextReader", "canStand", "()Z"⟩, 10), (⟨"TemperNurses$TextReader", "canBeginItem", "()Z"⟩, 10), (⟨"TemperNurses$TextReader", "numbersOfItem", "()I"⟩, 10), (⟨"TemperNurses$TextReader", "canBeTold", "()Z"⟩, 10), (⟨"TemperNurses$TextReader", "takeToken", "()V"⟩, 10), (⟨"TemperNurses$TextReader", "takeItem", "()V"⟩, 10), (⟨"TemperNurses$Course", "cell", "(I)I"⟩, 2), (⟨"TemperNurses$Course", "isLowestOfRing", "(I)Z"⟩, 2), (⟨"TemperNurses$Planner", "tryYears", "(II)V"⟩, 7)]
theorem lw_r1 : ∀ q ∈ lw_privs_1, lw_okq q := List.forall_mem_cons.mpr ⟨lw_p0, List.forall_mem_cons.mpr ⟨lw_p1, List.forall_mem_cons.mpr ⟨lw_p2, List.forall_mem_cons.mpr ⟨lw_p3, List.forall_mem_cons.mpr ⟨lw_p4, List.forall_mem_cons.mpr ⟨lw_p5, List.forall_mem_cons.mpr ⟨lw_p6, List.forall_mem_cons.mpr ⟨lw_p7, List.forall_mem_cons.mpr ⟨lw_p8, List.forall_mem_cons.mpr ⟨lw_p9, List.forall_mem_cons.mpr ⟨lw_p10, List.forall_mem_cons.mpr ⟨lw_p11, List.forall_mem_cons.mpr ⟨lw_p12, List.forall_mem_cons.mpr ⟨lw_p13, List.forall_mem_cons.mpr ⟨lw_p14, List.forall_mem_cons.mpr ⟨lw_p15, fun _ h => absurd h List.not_mem_nil⟩⟩⟩⟩⟩⟩⟩⟩⟩⟩⟩⟩⟩⟩⟩⟩
theorem lw_p16 : lw_okq (⟨"TemperNurses$Planner", "tryPlaces", "(II)V"⟩, 7) := ⟨⟨by decide +kernel, by decide +kernel⟩, List.mem_of_getElem? (i := 159) (by decide +kernel), List.mem_of_getElem? (i := 606) (by decide +kernel), List.mem_of_getElem? (i := 607) (by decide +kernel)⟩
theorem lw_p17 : lw_okq (⟨"TemperNurses$BedMaker", "tryOthers", "(II)V"⟩, 5) := ⟨⟨by decide +kernel, by decide +kernel⟩, List.mem_of_getElem? (i := 189) (by decide +kernel), List.mem_of_getElem? (i := 631) (by decide +kernel), List.mem_of_getElem? (i := 632) (by decide +kernel)⟩
theorem lw_p18 : lw_okq (⟨"TemperNurses$BedMaker", "mayShare", "(II)Z"⟩, 5) := ⟨⟨by decide +kernel, by decide +kernel⟩, List.mem_of_getElem? (i := 189) (by decide +kernel), List.mem_of_getElem? (i := 636) (by decide +kernel), List.mem_of_getElem? (i := 637) (by decide +kernel)⟩
theorem lw_p19 : lw_okq (⟨"TemperNurses", "countLooseWays", "(II)I"⟩, 12) := ⟨⟨by decide +kernel, by decide +kernel⟩, List.mem_of_getElem? (i := 16) (by decide +kernel), List.mem_of_getElem? (i := 646) (by decide +kernel), List.mem_of_getElem? (i := 647) (by decide +kernel)⟩
theorem lw_p20 : lw_okq (⟨"TemperNurses$Listener", "isAsHeard", "(I)Z"⟩, 4) := ⟨⟨by decide +kernel, by decide +kernel⟩, List.mem_of_getElem? (i := 213) (by decide +kernel), List.mem_of_getElem? (i := 675) (by decide +kernel), List.mem_of_getElem? (i := 676) (by decide +kernel)⟩
theorem lw_p21 : lw_okq (⟨"TemperNurses$Listener", "countBanging", "(II)I"⟩, 4) := ⟨⟨by decide +kernel, by decide +kernel⟩, List.mem_of_getElem? (i := 213) (by decide +kernel), List.mem_of_getElem? (i := 690) (by decide +kernel), List.mem_of_getElem? (i := 691) (by decide +kernel)⟩
theorem lw_p22 : lw_okq (⟨"TemperNurses", "imageOf", "(I)LTemperNurses$Course;"⟩, 12) := ⟨⟨by decide +kernel, by decide +kernel⟩, List.mem_of_getElem? (i := 16) (by decide +kernel), List.mem_of_getElem? (i := 740) (by decide +kernel), List.mem_of_getElem? (i := 741) (by decide +kernel)⟩
theorem lw_p23 : lw_okq (⟨"TemperNursesModel", "lookAt", "(I)V"⟩, 31) := ⟨⟨by decide +kernel, by decide +kernel⟩, List.mem_of_getElem? (i := 760) (by decide +kernel), List.mem_of_getElem? (i := 876) (by decide +kernel), List.mem_of_getElem? (i := 877) (by decide +kernel)⟩
theorem lw_p24 : lw_okq (⟨"TemperNursesModel", "isBetween", "(III)Z"⟩, 31) := ⟨⟨by decide +kernel, by decide +kernel⟩, List.mem_of_getElem? (i := 760) (by decide +kernel), List.mem_of_getElem? (i := 880) (by decide +kernel), List.mem_of_getElem? (i := 881) (by decide +kernel)⟩
theorem lw_p25 : lw_okq (⟨"TemperNursesModel", "takesItem", "()Z"⟩, 31) := ⟨⟨by decide +kernel, by decide +kernel⟩, List.mem_of_getElem? (i := 760) (by decide +kernel), List.mem_of_getElem? (i := 884) (by decide +kernel), List.mem_of_getElem? (i := 885) (by decide +kernel)⟩
theorem lw_p26 : lw_okq (⟨"TemperNursesModel", "isLetter", "(I)Z"⟩, 31) := ⟨⟨by decide +kernel, by decide +kernel⟩, List.mem_of_getElem? (i := 760) (by decide +kernel), List.mem_of_getElem? (i := 888) (by decide +kernel), List.mem_of_getElem? (i := 889) (by decide +kernel)⟩
theorem lw_p27 : lw_okq (⟨"TemperNursesModel", "takesTemper", "()Z"⟩, 31) := ⟨⟨by decide +kernel, by decide +kernel⟩, List.mem_of_getElem? (i := 760) (by decide +kernel), List.mem_of_getElem? (i := 892) (by decide +kernel), List.mem_of_getElem? (i := 893) (by decide +kernel)⟩
theorem lw_p28 : lw_okq (⟨"TemperNursesModel", "takes", "(III)Z"⟩, 31) := ⟨⟨by decide +kernel, by decide +kernel⟩, List.mem_of_getElem? (i := 760) (by decide +kernel), List.mem_of_getElem? (i := 896) (by decide +kernel), List.mem_of_getElem? (i := 897) (by decide +kernel)⟩
theorem lw_p29 : lw_okq (⟨"TemperNursesModel", "takesNurse", "()Z"⟩, 31) := ⟨⟨by decide +kernel, by decide +kernel⟩, List.mem_of_getElem? (i := 760) (by decide +kernel), List.mem_of_getElem? (i := 900) (by decide +kernel), List.mem_of_getElem? (i := 901) (by decide +kernel)⟩
theorem lw_p30 : lw_okq (⟨"TemperNursesModel", "takesClash", "()Z"⟩, 31) := ⟨⟨by decide +kernel, by decide +kernel⟩, List.mem_of_getElem? (i := 760) (by decide +kernel), List.mem_of_getElem? (i := 904) (by decide +kernel), List.mem_of_getElem? (i := 905) (by decide +kernel)⟩
theorem lw_p31 : lw_okq (⟨"TemperNursesModel", "takeAll", "()V"⟩, 31) := ⟨⟨by decide +kernel, by decide +kernel⟩, List.mem_of_getElem? (i := 760) (by decide +kernel), List.mem_of_getElem? (i := 908) (by decide +kernel), List.mem_of_getElem? (i := 909) (by decide +kernel)⟩
def lw_privs_2 : List (MethodName × Nat) := [(⟨"TemperNurses$Planner", "tryPlaces", "(II)V"⟩, 7), (⟨"TemperNurses$BedMaker", "tryOthers", "(II)V"⟩, 5), (⟨"TemperNurses$BedMaker", "mayShare", "(II)Z"⟩, 5), (⟨"TemperNurses", "countLooseWays", "(II)I"⟩, 12), (⟨"TemperNurses$Listener", "isAsHeard", "(I)Z"⟩, 4), (⟨"TemperNurses$Listener", "countBanging", "(II)I"⟩, 4), (⟨"TemperNurses", "imageOf", "(I)LTemperNurses$Course;"⟩, 12), (⟨"TemperNursesModel", "lookAt", "(I)V"⟩, 31), (⟨"TemperNursesModel", "isBetween", "(III)Z"⟩, 31), (⟨"TemperNursesModel", "takesItem", "()Z"⟩, 31), (⟨"TemperNursesModel", "isLetter", "(I)Z"⟩, 31), (⟨"TemperNursesModel", "takesTemper", "()Z"⟩, 31), (⟨"TemperNursesModel", "takes", "(III)Z"⟩, 31), (⟨"TemperNursesModel", "takesNurse", "()Z"⟩, 31), (⟨"TemperNursesModel", "takesClash", "()Z"⟩, 31), (⟨"TemperNursesModel", "takeAll", "()V"⟩, 31)]
theorem lw_r2 : ∀ q ∈ lw_privs_2, lw_okq q := List.forall_mem_cons.mpr ⟨lw_p16, List.forall_mem_cons.mpr ⟨lw_p17, List.forall_mem_cons.mpr ⟨lw_p18, List.forall_mem_cons.mpr ⟨lw_p19, List.forall_mem_cons.mpr ⟨lw_p20, List.forall_mem_cons.mpr ⟨lw_p21, List.forall_mem_cons.mpr ⟨lw_p22, List.forall_mem_cons.mpr ⟨lw_p23, List.forall_mem_cons.mpr ⟨lw_p24, List.forall_mem_cons.mpr ⟨lw_p25, List.forall_mem_cons.mpr ⟨lw_p26, List.forall_mem_cons.mpr ⟨lw_p27, List.forall_mem_cons.mpr ⟨lw_p28, List.forall_mem_cons.mpr ⟨lw_p29, List.forall_mem_cons.mpr ⟨lw_p30, List.forall_mem_cons.mpr ⟨lw_p31, fun _ h => absurd h List.not_mem_nil⟩⟩⟩⟩⟩⟩⟩⟩⟩⟩⟩⟩⟩⟩⟩⟩
theorem lw_p32 : lw_okq (⟨"TemperNursesModel", "isTemper", "(I)Z"⟩, 31) := ⟨⟨by decide +kernel, by decide +kernel⟩, List.mem_of_getElem? (i := 760) (by decide +kernel), List.mem_of_getElem? (i := 916) (by decide +kernel), List.mem_of_getElem? (i := 917) (by decide +kernel)⟩
theorem lw_p33 : lw_okq (⟨"TemperNursesModel", "heat", "(I)I"⟩, 31) := ⟨⟨by decide +kernel, by decide +kernel⟩, List.mem_of_getElem? (i := 760) (by decide +kernel), List.mem_of_getElem? (i := 921) (by decide +kernel), List.mem_of_getElem? (i := 922) (by decide +kernel)⟩
theorem lw_p34 : lw_okq (⟨"TemperNursesModel", "ring", "(I)I"⟩, 31) := ⟨⟨by decide +kernel, by decide +kernel⟩, List.mem_of_getElem? (i := 760) (by decide +kernel), List.mem_of_getElem? (i := 925) (by decide +kernel), List.mem_of_getElem? (i := 926) (by decide +kernel)⟩
theorem lw_p35 : lw_okq (⟨"TemperNursesModel", "isNurse", "(I)Z"⟩, 31) := ⟨⟨by decide +kernel, by decide +kernel⟩, List.mem_of_getElem? (i := 760) (by decide +kernel), List.mem_of_getElem? (i := 933) (by decide +kernel), List.mem_of_getElem? (i := 934) (by decide +kernel)⟩
theorem lw_p36 : lw_okq (⟨"TemperNursesModel", "maySend", "(II)Z"⟩, 31) := ⟨⟨by decide +kernel, by decide +kernel⟩, List.mem_of_getElem? (i := 760) (by decide +kernel), List.mem_of_getElem? (i := 938) (by decide +kernel), List.mem_of_getElem? (i := 939) (by decide +kernel)⟩
theorem lw_p37 : lw_okq (⟨"TemperNursesModel", "whom", "(I)I"⟩, 31) := ⟨⟨by decide +kernel, by decide +kernel⟩, List.mem_of_getElem? (i := 760) (by decide +kernel), List.mem_of_getElem? (i := 942) (by decide +kernel), List.mem_of_getElem? (i := 943) (by decide +kernel)⟩
theorem lw_p38 : lw_okq (⟨"TemperNursesModel", "save", "()V"⟩, 31) := ⟨⟨by decide +kernel, by decide +kernel⟩, List.mem_of_getElem? (i := 760) (by decide +kernel), List.mem_of_getElem? (i := 953) (by decide +kernel), List.mem_of_getElem? (i := 954) (by decide +kernel)⟩
theorem lw_p39 : lw_okq (⟨"TemperNursesModel", "right", "()I"⟩, 31) := ⟨⟨by decide +kernel, by decide +kernel⟩, List.mem_of_getElem? (i := 760) (by decide +kernel), List.mem_of_getElem? (i := 969) (by decide +kernel), List.mem_of_getElem? (i := 970) (by decide +kernel)⟩
theorem lw_p40 : lw_okq (⟨"TemperNursesModel", "aged", "(III)I"⟩, 31) := ⟨⟨by decide +kernel, by decide +kernel⟩, List.mem_of_getElem? (i := 760) (by decide +kernel), List.mem_of_getElem? (i := 978) (by decide +kernel), List.mem_of_getElem? (i := 979) (by decide +kernel)⟩
theorem lw_p41 : lw_okq (⟨"TemperNursesModel", "broken", "()I"⟩, 31) := ⟨⟨by decide +kernel, by decide +kernel⟩, List.mem_of_getElem? (i := 760) (by decide +kernel), List.mem_of_getElem? (i := 982) (by decide +kernel), List.mem_of_getElem? (i := 983) (by decide +kernel)⟩
theorem lw_p42 : lw_okq (⟨"TemperNursesModel", "soonest", "()I"⟩, 31) := ⟨⟨by decide +kernel, by decide +kernel⟩, List.mem_of_getElem? (i := 760) (by decide +kernel), List.mem_of_getElem? (i := 994) (by decide +kernel), List.mem_of_getElem? (i := 995) (by decide +kernel)⟩
theorem lw_p43 : lw_okq (⟨"TemperNursesModel", "whenBroken", "(II)I"⟩, 31) := ⟨⟨by decide +kernel, by decide +kernel⟩, List.mem_of_getElem? (i := 760) (by decide +kernel), List.mem_of_getElem? (i := 999) (by decide +kernel), List.mem_of_getElem? (i := 1000) (by decide +kernel)⟩
theorem lw_p44 : lw_okq (⟨"TemperNursesModel", "ways", "()I"⟩, 31) := ⟨⟨by decide +kernel, by decide +kernel⟩, List.mem_of_getElem? (i := 760) (by decide +kernel), List.mem_of_getElem? (i := 1003) (by decide +kernel), List.mem_of_getElem? (i := 1004) (by decide +kernel)⟩
theorem lw_p45 : lw_okq (⟨"TemperNursesModel", "mayBe", "(I)Z"⟩, 31) := ⟨⟨by decide +kernel, by decide +kernel⟩, List.mem_of_getElem? (i := 760) (by decide +kernel), List.mem_of_getElem? (i := 1007) (by decide +kernel), List.mem_of_getElem? (i := 1008) (by decide +kernel)⟩
theorem lw_p46 : lw_okq (⟨"TemperNursesModel", "hotIn", "(II)I"⟩, 31) := ⟨⟨by decide +kernel, by decide +kernel⟩, List.mem_of_getElem? (i := 760) (by decide +kernel), List.mem_of_getElem? (i := 1020) (by decide +kernel), List.mem_of_getElem? (i := 1021) (by decide +kernel)⟩
theorem lw_p47 : lw_okq (⟨"TemperNursesModel", "worthBehind", "(II)I"⟩, 31) := ⟨⟨by decide +kernel, by decide +kernel⟩, List.mem_of_getElem? (i := 760) (by decide +kernel), List.mem_of_getElem? (i := 1033) (by decide +kernel), List.mem_of_getElem? (i := 1034) (by decide +kernel)⟩
def lw_privs_3 : List (MethodName × Nat) := [(⟨"TemperNursesModel", "isTemper", "(I)Z"⟩, 31), (⟨"TemperNursesModel", "heat", "(I)I"⟩, 31), (⟨"TemperNursesModel", "ring", "(I)I"⟩, 31), (⟨"TemperNursesModel", "isNurse", "(I)Z"⟩, 31), (⟨"TemperNursesModel", "maySend", "(II)Z"⟩, 31), (⟨"TemperNursesModel", "whom", "(I)I"⟩, 31), (⟨"TemperNursesModel", "save", "()V"⟩, 31), (⟨"TemperNursesModel", "right", "()I"⟩, 31), (⟨"TemperNursesModel", "aged", "(III)I"⟩, 31), (⟨"TemperNursesModel", "broken", "()I"⟩, 31), (⟨"TemperNursesModel", "soonest", "()I"⟩, 31), (⟨"TemperNursesModel", "whenBroken", "(II)I"⟩, 31), (⟨"TemperNursesModel", "ways", "()I"⟩, 31), (⟨"TemperNursesModel", "mayBe", "(I)Z"⟩, 31), (⟨"TemperNursesModel", "hotIn", "(II)I"⟩, 31), (⟨"TemperNursesModel", "worthBehind", "(II)I"⟩, 31)]
theorem lw_r3 : ∀ q ∈ lw_privs_3, lw_okq q := List.forall_mem_cons.mpr ⟨lw_p32, List.forall_mem_cons.mpr ⟨lw_p33, List.forall_mem_cons.mpr ⟨lw_p34, List.forall_mem_cons.mpr ⟨lw_p35, List.forall_mem_cons.mpr ⟨lw_p36, List.forall_mem_cons.mpr ⟨lw_p37, List.forall_mem_cons.mpr ⟨lw_p38, List.forall_mem_cons.mpr ⟨lw_p39, List.forall_mem_cons.mpr ⟨lw_p40, List.forall_mem_cons.mpr ⟨lw_p41, List.forall_mem_cons.mpr ⟨lw_p42, List.forall_mem_cons.mpr ⟨lw_p43, List.forall_mem_cons.mpr ⟨lw_p44, List.forall_mem_cons.mpr ⟨lw_p45, List.forall_mem_cons.mpr ⟨lw_p46, List.forall_mem_cons.mpr ⟨lw_p47, fun _ h => absurd h List.not_mem_nil⟩⟩⟩⟩⟩⟩⟩⟩⟩⟩⟩⟩⟩⟩⟩⟩
theorem lw_p48 : lw_okq (⟨"TemperNursesModel", "bedsBy", "(II)I"⟩, 31) := ⟨⟨by decide +kernel, by decide +kernel⟩, List.mem_of_getElem? (i := 760) (by decide +kernel), List.mem_of_getElem? (i := 1042) (by decide +kernel), List.mem_of_getElem? (i := 1043) (by decide +kernel)⟩
theorem lw_p49 : lw_okq (⟨"TemperNursesModel", "isBed", "(III)Z"⟩, 31) := ⟨⟨by decide +kernel, by decide +kernel⟩, List.mem_of_getElem? (i := 760) (by decide +kernel), List.mem_of_getElem? (i := 1046) (by decide +kernel), List.mem_of_getElem? (i := 1047) (by decide +kernel)⟩
theorem lw_p50 : lw_okq (⟨"TemperNursesModel", "markAs", "(II)I"⟩, 31) := ⟨⟨by decide +kernel, by decide +kernel⟩, List.mem_of_getElem? (i := 760) (by decide +kernel), List.mem_of_getElem? (i := 1080) (by decide +kernel), List.mem_of_getElem? (i := 1081) (by decide +kernel)⟩
theorem lw_p51 : lw_okq (⟨"TemperNursesModel", "markAs0", "(I)I"⟩, 31) := ⟨⟨by decide +kernel, by decide +kernel⟩, List.mem_of_getElem? (i := 760) (by decide +kernel), List.mem_of_getElem? (i := 1084) (by decide +kernel), List.mem_of_getElem? (i := 1085) (by decide +kernel)⟩
def lw_privs_4 : List (MethodName × Nat) := [(⟨"TemperNursesModel", "bedsBy", "(II)I"⟩, 31), (⟨"TemperNursesModel", "isBed", "(III)Z"⟩, 31), (⟨"TemperNursesModel", "markAs", "(II)I"⟩, 31), (⟨"TemperNursesModel", "markAs0", "(I)I"⟩, 31)]
theorem lw_r4 : ∀ q ∈ lw_privs_4, lw_okq q := List.forall_mem_cons.mpr ⟨lw_p48, List.forall_mem_cons.mpr ⟨lw_p49, List.forall_mem_cons.mpr ⟨lw_p50, List.forall_mem_cons.mpr ⟨lw_p51, fun _ h => absurd h List.not_mem_nil⟩⟩⟩⟩
def lw_privs : List (MethodName × Nat) := lw_privs_1 ++ (lw_privs_2 ++ (lw_privs_3 ++ (lw_privs_4)))
def lw_tbl : List Cond := k2_sels lw_privs ++ tables_1
theorem lw_privs_ok : ∀ q ∈ lw_privs, lw_okq q := by
  show ∀ q ∈ lw_privs_1 ++ (lw_privs_2 ++ (lw_privs_3 ++ (lw_privs_4))), lw_okq q
  exact List.forall_mem_append.mpr ⟨lw_r1, List.forall_mem_append.mpr ⟨lw_r2, List.forall_mem_append.mpr ⟨lw_r3, lw_r4⟩⟩⟩
end
section
/-! ===== BEGIN words of one list among another's, by their places ===== -/
theorem goodIn_r {big : List Cond} (ws : List Cond) (ps : List Nat) (hp : ws = ps.filterMap (fun i => big[i]?)) (h : ws.all goodWord = true) : GoodIn big ws := by
  intro w hw
  have h1 := List.all_eq_true.mp h w hw
  rw [hp] at hw
  obtain ⟨i, -, hi⟩ := List.mem_filterMap.mp hw
  have hm : w ∈ big := by first | exact List.mem_of_getElem? hi | exact List.getElem?_mem hi
  exact ⟨hm, good_of_word h1⟩
theorem goodIn_app {big a b : List Cond} (ha : GoodIn big a) (hb : GoodIn big b) : GoodIn big (a ++ b) := fun w h => (List.mem_append.mp h).elim (ha w) (hb w)
theorem goodIn_ca {big a b : List Cond} {c : Cond} (ha : GoodIn big (c :: a)) (hb : GoodIn big b) : GoodIn big (c :: (a ++ b)) := fun w h => (List.mem_cons.mp h).elim (fun e => ha w (List.mem_cons.mpr (Or.inl e))) (fun h => (List.mem_append.mp h).elim (fun h => ha w (List.mem_cons.mpr (Or.inr h))) (hb w))
theorem goodIn_sub {big ws : List Cond} (hm : ∀ w ∈ ws, w ∈ big) (h : ws.all goodWord = true) : GoodIn big ws := fun w hw => ⟨hm w hw, good_of_word (List.all_eq_true.mp h w hw)⟩
/-! ===== END ===== -/

/-! ===== BEGIN printed: names, fields, word lists, decode rows ===== -/
def RX0 : String := "TemperNurses$BedMaker"
def TX0 : u_T := fun k => match k with
  | 0 => ("TemperNurses$BedMaker", "house", "LTemperNurses$House;", true)
  | 1 => ("TemperNurses$BedMaker", "tried", "[I", true)
  | 2 => ("TemperNurses$BedMaker", "limit", "I", false)
  | 3 => ("TemperNurses$BedMaker", "chosen", "[I", true)
  | _ => ("TemperNurses$BedMaker", "most", "I", false)
def tyX0 : Nat → FieldType := fun k => match k with
  | 0 => .object "TemperNurses$House"
  | 1 => .array .int
  | 2 => .int
  | 3 => .array .int
  | _ => .int
abbrev wsX00 : List Cond := u_ws RX0 TX0 5
theorem nmX0 : ∀ a, a < 5 → ∀ b, b < 5 → a ≠ b → (TX0 a).2.1 ≠ (TX0 b).2.1 := by decide +kernel
theorem tyX0_ok : ∀ k, k < 5 → parseFieldDescriptor (TX0 k).2.2.1 = some (tyX0 k) := by decide +kernel
abbrev cX0_init : ByteArray := prog_2_method_1_code
def yX0_init : MethodName := ⟨RX0, "<init>", "(LTemperNurses$House;)V"⟩
abbrev cX0_makeBeds : ByteArray := prog_2_method_2_code
def yX0_makeBeds : MethodName := ⟨RX0, "makeBeds", "(I)V"⟩
abbrev cX0_tryOthers : ByteArray := prog_2_method_3_code
def yX0_tryOthers : MethodName := ⟨RX0, "tryOthers", "(II)V"⟩
abbrev cX0_mayShare : ByteArray := prog_2_method_4_code
def yX0_mayShare : MethodName := ⟨RX0, "mayShare", "(II)Z"⟩
def RX1 : String := "TemperNurses$Course"
def TX1 : u_T := fun k => match k with
  | 0 => ("TemperNurses$Course", "rows", "[I", true)
  | _ => ("TemperNurses$Course", "past", "I", false)
def tyX1 : Nat → FieldType := fun k => match k with
  | 0 => .array .int
  | _ => .int
abbrev wsX10 : List Cond := u_ws RX1 TX1 2
theorem nmX1 : ∀ a, a < 2 → ∀ b, b < 2 → a ≠ b → (TX1 a).2.1 ≠ (TX1 b).2.1 := by decide +kernel
theorem tyX1_ok : ∀ k, k < 2 → parseFieldDescriptor (TX1 k).2.2.1 = some (tyX1 k) := by decide +kernel
abbrev cX1_init : ByteArray := prog_3_method_1_code
def yX1_init : MethodName := ⟨RX1, "<init>", "()V"⟩
abbrev cX1_begin : ByteArray := prog_3_method_2_code
def yX1_begin : MethodName := ⟨RX1, "begin", "(LTemperNurses$Hill;)V"⟩
abbrev cX1_take : ByteArray := prog_3_method_3_code
def yX1_take : MethodName := ⟨RX1, "take", "(LTemperNurses$Course;)V"⟩
abbrev cX1_remember : ByteArray := prog_3_method_4_code
def yX1_remember : MethodName := ⟨RX1, "remember", "()V"⟩
abbrev cX1_stepBack : ByteArray := prog_3_method_5_code
def yX1_stepBack : MethodName := ⟨RX1, "stepBack", "()Z"⟩
abbrev cX1_year : ByteArray := prog_3_method_6_code
def yX1_year : MethodName := ⟨RX1, "year", "()I"⟩
abbrev cX1_heat : ByteArray := prog_3_method_7_code
def yX1_heat : MethodName := ⟨RX1, "heat", "(I)I"⟩
abbrev cX1_place : ByteArray := prog_3_method_8_code
def yX1_place : MethodName := ⟨RX1, "place", "(I)I"⟩
abbrev cX1_owner : ByteArray := prog_3_method_9_code
def yX1_owner : MethodName := ⟨RX1, "owner", "(I)I"⟩
abbrev cX1_setYear : ByteArray := prog_3_method_10_code
def yX1_setYear : MethodName := ⟨RX1, "setYear", "(I)V"⟩
abbrev cX1_setHeat : ByteArray := prog_3_method_11_code
def yX1_setHeat : MethodName := ⟨RX1, "setHeat", "(II)V"⟩
abbrev cX1_setPlace : ByteArray := prog_3_method_12_code
def yX1_setPlace : MethodName := ⟨RX1, "setPlace", "(II)V"⟩
abbrev cX1_setOwner : ByteArray := prog_3_method_13_code
def yX1_setOwner : MethodName := ⟨RX1, "setOwner", "(II)V"⟩
abbrev cX1_ring : ByteArray := prog_3_method_14_code
def yX1_ring : MethodName := ⟨RX1, "ring", "(I)I"⟩
abbrev cX1_mixesToRight : ByteArray := prog_3_method_15_code
def yX1_mixesToRight : MethodName := ⟨RX1, "mixesToRight", "(I)I"⟩
abbrev cX1_isLowestOfRing : ByteArray := prog_3_method_16_code
def yX1_isLowestOfRing : MethodName := ⟨RX1, "isLowestOfRing", "(I)Z"⟩
abbrev cX1_cell : ByteArray := prog_3_method_17_code
def yX1_cell : MethodName := ⟨RX1, "cell", "(I)I"⟩
abbrev cX1_setCell : ByteArray := prog_3_method_18_code
def yX1_setCell : MethodName := ⟨RX1, "setCell", "(II)V"⟩
def RX2 : String := "TemperNurses$Hill"
def TX2 : u_T := fun k => match k with
  | 0 => ("TemperNurses$Hill", "tempers", "I", false)
  | 1 => ("TemperNurses$Hill", "nurses", "I", false)
  | 2 => ("TemperNurses$Hill", "heats", "[I", true)
  | 3 => ("TemperNurses$Hill", "grows", "[I", true)
  | 4 => ("TemperNurses$Hill", "dues", "[I", true)
  | 5 => ("TemperNurses$Hill", "clashes", "[I", true)
  | 6 => ("TemperNurses$Hill", "tames", "[I", true)
  | 7 => ("TemperNurses$Hill", "rooms", "[I", true)
  | _ => ("TemperNurses$Hill", "holds", "[I", true)
def tyX2 : Nat → FieldType := fun k => match k with
  | 0 => .int
  | 1 => .int
  | 2 => .array .int
  | 3 => .array .int
  | 4 => .array .int
  | 5 => .array .int
  | 6 => .array .int
  | 7 => .array .int
  | _ => .array .int
abbrev wsX20 : List Cond := u_ws RX2 TX2 9
theorem nmX2 : ∀ a, a < 9 → ∀ b, b < 9 → a ≠ b → (TX2 a).2.1 ≠ (TX2 b).2.1 := by decide +kernel
theorem tyX2_ok : ∀ k, k < 9 → parseFieldDescriptor (TX2 k).2.2.1 = some (tyX2 k) := by decide +kernel
abbrev cX2_init : ByteArray := prog_4_method_1_code
def yX2_init : MethodName := ⟨RX2, "<init>", "()V"⟩
abbrev cX2_hasTemper : ByteArray := prog_4_method_2_code
def yX2_hasTemper : MethodName := ⟨RX2, "hasTemper", "(I)Z"⟩
abbrev cX2_hasNurse : ByteArray := prog_4_method_3_code
def yX2_hasNurse : MethodName := ⟨RX2, "hasNurse", "(I)Z"⟩
abbrev cX2_wipe : ByteArray := prog_4_method_4_code
def yX2_wipe : MethodName := ⟨RX2, "wipe", "()V"⟩
abbrev cX2_addTemper : ByteArray := prog_4_method_5_code
def yX2_addTemper : MethodName := ⟨RX2, "addTemper", "(III)V"⟩
abbrev cX2_addNurse : ByteArray := prog_4_method_6_code
def yX2_addNurse : MethodName := ⟨RX2, "addNurse", "(III)V"⟩
abbrev cX2_addClash : ByteArray := prog_4_method_7_code
def yX2_addClash : MethodName := ⟨RX2, "addClash", "(II)V"⟩
abbrev cX2_take : ByteArray := prog_4_method_8_code
def yX2_take : MethodName := ⟨RX2, "take", "(LTemperNurses$Hill;)V"⟩
def RX3 : String := "TemperNurses$House"
def TX3 : u_T := fun k => match k with
  | 0 => ("TemperNurses$House", "told", "LTemperNurses$Hill;", true)
  | _ => ("TemperNurses$House", "course", "LTemperNurses$Course;", true)
def tyX3 : Nat → FieldType := fun k => match k with
  | 0 => .object "TemperNurses$Hill"
  | _ => .object "TemperNurses$Course"
abbrev wsX30 : List Cond := u_ws RX3 TX3 2
theorem nmX3 : ∀ a, a < 2 → ∀ b, b < 2 → a ≠ b → (TX3 a).2.1 ≠ (TX3 b).2.1 := by decide +kernel
theorem tyX3_ok : ∀ k, k < 2 → parseFieldDescriptor (TX3 k).2.2.1 = some (tyX3 k) := by decide +kernel
abbrev cX3_init : ByteArray := prog_5_method_1_code
def yX3_init : MethodName := ⟨RX3, "<init>", "(LTemperNurses$Hill;LTemperNurses$Course;)V"⟩
abbrev cX3_broken : ByteArray := prog_5_method_2_code
def yX3_broken : MethodName := ⟨RX3, "broken", "()I"⟩
abbrev cX3_heatOfAll : ByteArray := prog_5_method_3_code
def yX3_heatOfAll : MethodName := ⟨RX3, "heatOfAll", "()I"⟩
abbrev cX3_thoseWith : ByteArray := prog_5_method_4_code
def yX3_thoseWith : MethodName := ⟨RX3, "thoseWith", "(I)I"⟩
abbrev cX3_thoseThatMayBeSentTo : ByteArray := prog_5_method_5_code
def yX3_thoseThatMayBeSentTo : MethodName := ⟨RX3, "thoseThatMayBeSentTo", "(I)I"⟩
abbrev cX3_mayBeSent : ByteArray := prog_5_method_6_code
def yX3_mayBeSent : MethodName := ⟨RX3, "mayBeSent", "(II)Z"⟩
abbrev cX3_mayJoin : ByteArray := prog_5_method_7_code
def yX3_mayJoin : MethodName := ⟨RX3, "mayJoin", "(III)Z"⟩
abbrev cX3_heatIn : ByteArray := prog_5_method_8_code
def yX3_heatIn : MethodName := ⟨RX3, "heatIn", "(II)I"⟩
abbrev cX3_yearsTillBroken : ByteArray := prog_5_method_9_code
def yX3_yearsTillBroken : MethodName := ⟨RX3, "yearsTillBroken", "(II)I"⟩
abbrev cX3_worthOfFetching : ByteArray := prog_5_method_10_code
def yX3_worthOfFetching : MethodName := ⟨RX3, "worthOfFetching", "(II)I"⟩
abbrev cX3_heatNextYear : ByteArray := prog_5_method_11_code
def yX3_heatNextYear : MethodName := ⟨RX3, "heatNextYear", "(III)I"⟩
def RX4 : String := "TemperNurses$Kinds"
def TX4 : u_T := fun k => match k with
  | 0 => ("TemperNurses$Kinds", "house", "LTemperNurses$House;", true)
  | _ => ("TemperNurses$Kinds", "traced", "J", false)
def tyX4 : Nat → FieldType := fun k => match k with
  | 0 => .object "TemperNurses$House"
  | _ => .long
abbrev wsX40 : List Cond := u_ws RX4 TX4 2
theorem nmX4 : ∀ a, a < 2 → ∀ b, b < 2 → a ≠ b → (TX4 a).2.1 ≠ (TX4 b).2.1 := by decide +kernel
theorem tyX4_ok : ∀ k, k < 2 → parseFieldDescriptor (TX4 k).2.2.1 = some (tyX4 k) := by decide +kernel
abbrev cX4_init : ByteArray := prog_6_method_1_code
def yX4_init : MethodName := ⟨RX4, "<init>", "(LTemperNurses$House;)V"⟩
abbrev cX4_asTemper : ByteArray := prog_6_method_2_code
def yX4_asTemper : MethodName := ⟨RX4, "asTemper", "(I)I"⟩
abbrev cX4_asRage : ByteArray := prog_6_method_3_code
def yX4_asRage : MethodName := ⟨RX4, "asRage", "(I)I"⟩
abbrev cX4_asSulk : ByteArray := prog_6_method_4_code
def yX4_asSulk : MethodName := ⟨RX4, "asSulk", "(I)I"⟩
abbrev cX4_asStorm : ByteArray := prog_6_method_5_code
def yX4_asStorm : MethodName := ⟨RX4, "asStorm", "(I)I"⟩
abbrev cX4_asGrudge : ByteArray := prog_6_method_6_code
def yX4_asGrudge : MethodName := ⟨RX4, "asGrudge", "(I)I"⟩
abbrev cX4_asPet : ByteArray := prog_6_method_7_code
def yX4_asPet : MethodName := ⟨RX4, "asPet", "(I)I"⟩
def RX5 : String := "TemperNurses$Listener"
def TX5 : u_T := fun k => match k with
  | 0 => ("TemperNurses$Listener", "house", "LTemperNurses$House;", true)
  | 1 => ("TemperNurses$Listener", "bangsAt", "[I", true)
  | 2 => ("TemperNurses$Listener", "bangs", "[I", true)
  | _ => ("TemperNurses$Listener", "heard", "I", false)
def tyX5 : Nat → FieldType := fun k => match k with
  | 0 => .object "TemperNurses$House"
  | 1 => .array .int
  | 2 => .array .int
  | _ => .int
abbrev wsX50 : List Cond := u_ws RX5 TX5 4
theorem nmX5 : ∀ a, a < 4 → ∀ b, b < 4 → a ≠ b → (TX5 a).2.1 ≠ (TX5 b).2.1 := by decide +kernel
theorem tyX5_ok : ∀ k, k < 4 → parseFieldDescriptor (TX5 k).2.2.1 = some (tyX5 k) := by decide +kernel
abbrev cX5_init : ByteArray := prog_7_method_1_code
def yX5_init : MethodName := ⟨RX5, "<init>", "(LTemperNurses$House;)V"⟩
abbrev cX5_append : ByteArray := prog_7_method_2_code
def yX5_append : MethodName := ⟨RX5, "append", "(II)Z"⟩
abbrev cX5_empty : ByteArray := prog_7_method_3_code
def yX5_empty : MethodName := ⟨RX5, "empty", "()I"⟩
abbrev cX5_suspects : ByteArray := prog_7_method_4_code
def yX5_suspects : MethodName := ⟨RX5, "suspects", "()I"⟩
abbrev cX5_nextBang : ByteArray := prog_7_method_5_code
def yX5_nextBang : MethodName := ⟨RX5, "nextBang", "()I"⟩
abbrev cX5_countBanging : ByteArray := prog_7_method_6_code
def yX5_countBanging : MethodName := ⟨RX5, "countBanging", "(II)I"⟩
abbrev cX5_isAsHeard : ByteArray := prog_7_method_7_code
def yX5_isAsHeard : MethodName := ⟨RX5, "isAsHeard", "(I)Z"⟩
def RX6 : String := "TemperNurses$Planner"
def TX6 : u_T := fun k => match k with
  | 0 => ("TemperNurses$Planner", "house", "LTemperNurses$House;", true)
  | 1 => ("TemperNurses$Planner", "tried", "[I", true)
  | 2 => ("TemperNurses$Planner", "having", "[I", true)
  | 3 => ("TemperNurses$Planner", "yearsBy", "[I", true)
  | 4 => ("TemperNurses$Planner", "fewestYears", "I", false)
  | 5 => ("TemperNurses$Planner", "chosen", "[I", true)
  | _ => ("TemperNurses$Planner", "most", "I", false)
def tyX6 : Nat → FieldType := fun k => match k with
  | 0 => .object "TemperNurses$House"
  | 1 => .array .int
  | 2 => .array .int
  | 3 => .array .int
  | 4 => .int
  | 5 => .array .int
  | _ => .int
abbrev wsX60 : List Cond := u_ws RX6 TX6 7
theorem nmX6 : ∀ a, a < 7 → ∀ b, b < 7 → a ≠ b → (TX6 a).2.1 ≠ (TX6 b).2.1 := by decide +kernel
theorem tyX6_ok : ∀ k, k < 7 → parseFieldDescriptor (TX6 k).2.2.1 = some (tyX6 k) := by decide +kernel
abbrev cX6_init : ByteArray := prog_8_method_1_code
def yX6_init : MethodName := ⟨RX6, "<init>", "(LTemperNurses$House;)V"⟩
abbrev cX6_findPlan : ByteArray := prog_8_method_2_code
def yX6_findPlan : MethodName := ⟨RX6, "findPlan", "()V"⟩
abbrev cX6_soonest : ByteArray := prog_8_method_3_code
def yX6_soonest : MethodName := ⟨RX6, "soonest", "()I"⟩
abbrev cX6_tryPlaces : ByteArray := prog_8_method_4_code
def yX6_tryPlaces : MethodName := ⟨RX6, "tryPlaces", "(II)V"⟩
abbrev cX6_tryYears : ByteArray := prog_8_method_5_code
def yX6_tryYears : MethodName := ⟨RX6, "tryYears", "(II)V"⟩
def RX7 : String := "TemperNurses$TextReader"
def TX7 : u_T := fun k => match k with
  | 0 => ("TemperNurses$TextReader", "draft", "LTemperNurses$Hill;", true)
  | 1 => ("TemperNurses$TextReader", "length", "I", false)
  | 2 => ("TemperNurses$TextReader", "bytes", "[I", true)
  | 3 => ("TemperNurses$TextReader", "kind", "I", false)
  | 4 => ("TemperNurses$TextReader", "start", "I", false)
  | 5 => ("TemperNurses$TextReader", "next", "I", false)
  | 6 => ("TemperNurses$TextReader", "value", "I", false)
  | 7 => ("TemperNurses$TextReader", "item", "I", false)
  | 8 => ("TemperNurses$TextReader", "toldSoFar", "I", false)
  | _ => ("TemperNurses$TextReader", "numbers", "[I", true)
def tyX7 : Nat → FieldType := fun k => match k with
  | 0 => .object "TemperNurses$Hill"
  | 1 => .int
  | 2 => .array .int
  | 3 => .int
  | 4 => .int
  | 5 => .int
  | 6 => .int
  | 7 => .int
  | 8 => .int
  | _ => .array .int
abbrev wsX70 : List Cond := u_ws RX7 TX7 10
theorem nmX7 : ∀ a, a < 10 → ∀ b, b < 10 → a ≠ b → (TX7 a).2.1 ≠ (TX7 b).2.1 := by decide +kernel
theorem tyX7_ok : ∀ k, k < 10 → parseFieldDescriptor (TX7 k).2.2.1 = some (tyX7 k) := by decide +kernel
abbrev cX7_init : ByteArray := prog_9_method_1_code
def yX7_init : MethodName := ⟨RX7, "<init>", "()V"⟩
abbrev cX7_append : ByteArray := prog_9_method_2_code
def yX7_append : MethodName := ⟨RX7, "append", "(I)Z"⟩
abbrev cX7_empty : ByteArray := prog_9_method_3_code
def yX7_empty : MethodName := ⟨RX7, "empty", "()I"⟩
abbrev cX7_readAll : ByteArray := prog_9_method_4_code
def yX7_readAll : MethodName := ⟨RX7, "readAll", "()I"⟩
abbrev cX7_canStand : ByteArray := prog_9_method_5_code
def yX7_canStand : MethodName := ⟨RX7, "canStand", "()Z"⟩
abbrev cX7_canBeginItem : ByteArray := prog_9_method_6_code
def yX7_canBeginItem : MethodName := ⟨RX7, "canBeginItem", "()Z"⟩
abbrev cX7_canBeTold : ByteArray := prog_9_method_7_code
def yX7_canBeTold : MethodName := ⟨RX7, "canBeTold", "()Z"⟩
abbrev cX7_numbersOfItem : ByteArray := prog_9_method_8_code
def yX7_numbersOfItem : MethodName := ⟨RX7, "numbersOfItem", "()I"⟩
abbrev cX7_takeToken : ByteArray := prog_9_method_9_code
def yX7_takeToken : MethodName := ⟨RX7, "takeToken", "()V"⟩
abbrev cX7_takeItem : ByteArray := prog_9_method_10_code
def yX7_takeItem : MethodName := ⟨RX7, "takeItem", "()V"⟩
abbrev cX7_readToken : ByteArray := prog_9_method_11_code
def yX7_readToken : MethodName := ⟨RX7, "readToken", "()V"⟩
abbrev cX7_readLetters : ByteArray := prog_9_method_12_code
def yX7_readLetters : MethodName := ⟨RX7, "readLetters", "()V"⟩
abbrev cX7_readDigits : ByteArray := prog_9_method_13_code
def yX7_readDigits : MethodName := ⟨RX7, "readDigits", "()V"⟩
abbrev cX7_isLetter : ByteArray := prog_9_method_14_code
def yX7_isLetter : MethodName := ⟨RX7, "isLetter", "(I)Z"⟩
abbrev cX7_isDigit : ByteArray := prog_9_method_15_code
def yX7_isDigit : MethodName := ⟨RX7, "isDigit", "(I)Z"⟩
abbrev cX7_byteAt : ByteArray := prog_9_method_16_code
def yX7_byteAt : MethodName := ⟨RX7, "byteAt", "(I)I"⟩
def RX8 : String := "TemperNurses"
def TX8 : u_T := fun k => match k with
  | 0 => ("TemperNurses", "told", "LTemperNurses$Hill;", true)
  | 1 => ("TemperNurses", "reader", "LTemperNurses$TextReader;", true)
  | 2 => ("TemperNurses", "course", "LTemperNurses$Course;", true)
  | 3 => ("TemperNurses", "house", "LTemperNurses$House;", true)
  | 4 => ("TemperNurses", "planner", "LTemperNurses$Planner;", true)
  | 5 => ("TemperNurses", "bedMaker", "LTemperNurses$BedMaker;", true)
  | 6 => ("TemperNurses", "listener", "LTemperNurses$Listener;", true)
  | 7 => ("TemperNurses", "kinds", "LTemperNurses$Kinds;", true)
  | 8 => ("TemperNurses", "image0", "LTemperNurses$Course;", true)
  | 9 => ("TemperNurses", "image1", "LTemperNurses$Course;", true)
  | 10 => ("TemperNurses", "kept", "[Z", true)
  | _ => ("TemperNurses", "looseWays", "[I", true)
def tyX8 : Nat → FieldType := fun k => match k with
  | 0 => .object "TemperNurses$Hill"
  | 1 => .object "TemperNurses$TextReader"
  | 2 => .object "TemperNurses$Course"
  | 3 => .object "TemperNurses$House"
  | 4 => .object "TemperNurses$Planner"
  | 5 => .object "TemperNurses$BedMaker"
  | 6 => .object "TemperNurses$Listener"
  | 7 => .object "TemperNurses$Kinds"
  | 8 => .object "TemperNurses$Course"
  | 9 => .object "TemperNurses$Course"
  | 10 => .array .boolean
  | _ => .array .int
abbrev wsX80 : List Cond := u_ws RX8 TX8 12
theorem nmX8 : ∀ a, a < 12 → ∀ b, b < 12 → a ≠ b → (TX8 a).2.1 ≠ (TX8 b).2.1 := by decide +kernel
theorem tyX8_ok : ∀ k, k < 12 → parseFieldDescriptor (TX8 k).2.2.1 = some (tyX8 k) := by decide +kernel
abbrev cX8_init : ByteArray := prog_1_method_1_code
def yX8_init : MethodName := ⟨RX8, "<init>", "()V"⟩
abbrev cX8_type : ByteArray := prog_1_method_2_code
def yX8_type : MethodName := ⟨RX8, "type", "(I)I"⟩
abbrev cX8_clear : ByteArray := prog_1_method_3_code
def yX8_clear : MethodName := ⟨RX8, "clear", "()I"⟩
abbrev cX8_hill : ByteArray := prog_1_method_4_code
def yX8_hill : MethodName := ⟨RX8, "hill", "()I"⟩
abbrev cX8_temper : ByteArray := prog_1_method_5_code
def yX8_temper : MethodName := ⟨RX8, "temper", "(II)I"⟩
abbrev cX8_nurse : ByteArray := prog_1_method_6_code
def yX8_nurse : MethodName := ⟨RX8, "nurse", "(II)I"⟩
abbrev cX8_sends : ByteArray := prog_1_method_7_code
def yX8_sends : MethodName := ⟨RX8, "sends", "(II)I"⟩
abbrev cX8_fetches : ByteArray := prog_1_method_8_code
def yX8_fetches : MethodName := ⟨RX8, "fetches", "(I)I"⟩
abbrev cX8_visits : ByteArray := prog_1_method_9_code
def yX8_visits : MethodName := ⟨RX8, "visits", "(I)I"⟩
abbrev cX8_mixes : ByteArray := prog_1_method_10_code
def yX8_mixes : MethodName := ⟨RX8, "mixes", "(II)I"⟩
abbrev cX8_years : ByteArray := prog_1_method_11_code
def yX8_years : MethodName := ⟨RX8, "years", "(I)I"⟩
abbrev cX8_undo : ByteArray := prog_1_method_12_code
def yX8_undo : MethodName := ⟨RX8, "undo", "()I"⟩
abbrev cX8_now : ByteArray := prog_1_method_13_code
def yX8_now : MethodName := ⟨RX8, "now", "(I)I"⟩
abbrev cX8_when : ByteArray := prog_1_method_14_code
def yX8_when : MethodName := ⟨RX8, "when", "(II)I"⟩
abbrev cX8_hot : ByteArray := prog_1_method_15_code
def yX8_hot : MethodName := ⟨RX8, "hot", "(II)I"⟩
abbrev cX8_plan : ByteArray := prog_1_method_16_code
def yX8_plan : MethodName := ⟨RX8, "plan", "(I)I"⟩
abbrev cX8_best : ByteArray := prog_1_method_17_code
def yX8_best : MethodName := ⟨RX8, "best", "(II)I"⟩
abbrev cX8_beds : ByteArray := prog_1_method_18_code
def yX8_beds : MethodName := ⟨RX8, "beds", "(II)I"⟩
abbrev cX8_odds : ByteArray := prog_1_method_19_code
def yX8_odds : MethodName := ⟨RX8, "odds", "(III)I"⟩
abbrev cX8_hears : ByteArray := prog_1_method_20_code
def yX8_hears : MethodName := ⟨RX8, "hears", "(II)I"⟩
abbrev cX8_forget : ByteArray := prog_1_method_21_code
def yX8_forget : MethodName := ⟨RX8, "forget", "()I"⟩
abbrev cX8_whose : ByteArray := prog_1_method_22_code
def yX8_whose : MethodName := ⟨RX8, "whose", "()I"⟩
abbrev cX8_ask : ByteArray := prog_1_method_23_code
def yX8_ask : MethodName := ⟨RX8, "ask", "()I"⟩
abbrev cX8_mark : ByteArray := prog_1_method_24_code
def yX8_mark : MethodName := ⟨RX8, "mark", "(II)I"⟩
abbrev cX8_keep : ByteArray := prog_1_method_25_code
def yX8_keep : MethodName := ⟨RX8, "keep", "(I)I"⟩
abbrev cX8_back : ByteArray := prog_1_method_26_code
def yX8_back : MethodName := ⟨RX8, "back", "(I)I"⟩
abbrev cX8_count : ByteArray := prog_1_method_27_code
def yX8_count : MethodName := ⟨RX8, "count", "(I)I"⟩
abbrev cX8_trace : ByteArray := prog_1_method_28_code
def yX8_trace : MethodName := ⟨RX8, "trace", "()J"⟩
abbrev cX8_isWithin : ByteArray := prog_1_method_29_code
def yX8_isWithin : MethodName := ⟨RX8, "isWithin", "(III)Z"⟩
abbrev cX8_bit : ByteArray := prog_1_method_30_code
def yX8_bit : MethodName := ⟨RX8, "bit", "(I)I"⟩
abbrev cX8_imageOf : ByteArray := prog_1_method_31_code
def yX8_imageOf : MethodName := ⟨RX8, "imageOf", "(I)LTemperNurses$Course;"⟩
abbrev cX8_countLooseWays : ByteArray := prog_1_method_32_code
def yX8_countLooseWays : MethodName := ⟨RX8, "countLooseWays", "(II)I"⟩
abbrev cX8_commonDivisor : ByteArray := prog_1_method_33_code
def yX8_commonDivisor : MethodName := ⟨RX8, "commonDivisor", "(II)I"⟩
def RX9 : String := "TemperNursesModel"
def TX9 : u_T := fun k => match k with
  | 0 => ("TemperNursesModel", "many", "I", false)
  | 1 => ("TemperNursesModel", "nurses", "I", false)
  | 2 => ("TemperNursesModel", "grows", "[I", true)
  | 3 => ("TemperNursesModel", "due", "[I", true)
  | 4 => ("TemperNursesModel", "clash", "[I", true)
  | 5 => ("TemperNursesModel", "tames", "[I", true)
  | 6 => ("TemperNursesModel", "room", "[I", true)
  | 7 => ("TemperNursesModel", "holds", "[I", true)
  | 8 => ("TemperNursesModel", "all", "[I", true)
  | 9 => ("TemperNursesModel", "kept", "[I", true)
  | 10 => ("TemperNursesModel", "isKept", "[Z", true)
  | 11 => ("TemperNursesModel", "heardAt", "[I", true)
  | 12 => ("TemperNursesModel", "heardBang", "[I", true)
  | 13 => ("TemperNursesModel", "heard", "I", false)
  | 14 => ("TemperNursesModel", "trace", "J", false)
  | 15 => ("TemperNursesModel", "text", "[I", true)
  | 16 => ("TemperNursesModel", "textLong", "I", false)
  | 17 => ("TemperNursesModel", "token", "I", false)
  | 18 => ("TemperNursesModel", "tokenAt", "I", false)
  | 19 => ("TemperNursesModel", "tokenEnd", "I", false)
  | 20 => ("TemperNursesModel", "value", "I", false)
  | 21 => ("TemperNursesModel", "newMany", "I", false)
  | 22 => ("TemperNursesModel", "newNurses", "I", false)
  | 23 => ("TemperNursesModel", "newTold", "[I", true)
  | 24 => ("TemperNursesModel", "values", "[I", true)
  | 25 => ("TemperNursesModel", "goes", "[I", true)
  | 26 => ("TemperNursesModel", "bestGoes", "[I", true)
  | 27 => ("TemperNursesModel", "group", "[I", true)
  | 28 => ("TemperNursesModel", "breaks", "[I", true)
  | 29 => ("TemperNursesModel", "with", "[I", true)
  | _ => ("TemperNursesModel", "bestWith", "[I", true)
def tyX9 : Nat → FieldType := fun k => match k with
  | 0 => .int
  | 1 => .int
  | 2 => .array .int
  | 3 => .array .int
  | 4 => .array .int
  | 5 => .array .int
  | 6 => .array .int
  | 7 => .array .int
  | 8 => .array .int
  | 9 => .array .int
  | 10 => .array .boolean
  | 11 => .array .int
  | 12 => .array .int
  | 13 => .int
  | 14 => .long
  | 15 => .array .int
  | 16 => .int
  | 17 => .int
  | 18 => .int
  | 19 => .int
  | 20 => .int
  | 21 => .int
  | 22 => .int
  | 23 => .array .int
  | 24 => .array .int
  | 25 => .array .int
  | 26 => .array .int
  | 27 => .array .int
  | 28 => .array .int
  | 29 => .array .int
  | _ => .array .int
abbrev wsX90 : List Cond := u_ws RX9 TX9 31
theorem nmX9 : ∀ a, a < 31 → ∀ b, b < 31 → a ≠ b → (TX9 a).2.1 ≠ (TX9 b).2.1 := by decide +kernel
theorem tyX9_ok : ∀ k, k < 31 → parseFieldDescriptor (TX9 k).2.2.1 = some (tyX9 k) := by decide +kernel
abbrev cX9_init : ByteArray := prog_11_method_1_code
def yX9_init : MethodName := ⟨RX9, "<init>", "()V"⟩
abbrev cX9_in : ByteArray := prog_11_method_3_code
def yX9_in : MethodName := ⟨RX9, "in", "(JJJ)Z"⟩
abbrev cX9_has : ByteArray := prog_11_method_4_code
def yX9_has : MethodName := ⟨RX9, "has", "(II)Z"⟩
abbrev cX9_bits : ByteArray := prog_11_method_5_code
def yX9_bits : MethodName := ⟨RX9, "bits", "(I)I"⟩
abbrev cX9_isTemper : ByteArray := prog_11_method_6_code
def yX9_isTemper : MethodName := ⟨RX9, "isTemper", "(I)Z"⟩
abbrev cX9_isNurse : ByteArray := prog_11_method_7_code
def yX9_isNurse : MethodName := ⟨RX9, "isNurse", "(I)Z"⟩
abbrev cX9_type : ByteArray := prog_11_method_8_code
def yX9_type : MethodName := ⟨RX9, "type", "(I)I"⟩
abbrev cX9_clear : ByteArray := prog_11_method_9_code
def yX9_clear : MethodName := ⟨RX9, "clear", "()I"⟩
abbrev cX9_isBetween : ByteArray := prog_11_method_10_code
def yX9_isBetween : MethodName := ⟨RX9, "isBetween", "(III)Z"⟩
abbrev cX9_lookAt : ByteArray := prog_11_method_11_code
def yX9_lookAt : MethodName := ⟨RX9, "lookAt", "(I)V"⟩
abbrev cX9_isLetter : ByteArray := prog_11_method_12_code
def yX9_isLetter : MethodName := ⟨RX9, "isLetter", "(I)Z"⟩
abbrev cX9_takes : ByteArray := prog_11_method_13_code
def yX9_takes : MethodName := ⟨RX9, "takes", "(III)Z"⟩
abbrev cX9_takesTemper : ByteArray := prog_11_method_14_code
def yX9_takesTemper : MethodName := ⟨RX9, "takesTemper", "()Z"⟩
abbrev cX9_takesNurse : ByteArray := prog_11_method_15_code
def yX9_takesNurse : MethodName := ⟨RX9, "takesNurse", "()Z"⟩
abbrev cX9_takesClash : ByteArray := prog_11_method_16_code
def yX9_takesClash : MethodName := ⟨RX9, "takesClash", "()Z"⟩
abbrev cX9_takesItem : ByteArray := prog_11_method_17_code
def yX9_takesItem : MethodName := ⟨RX9, "takesItem", "()Z"⟩
abbrev cX9_takeAll : ByteArray := prog_11_method_18_code
def yX9_takeAll : MethodName := ⟨RX9, "takeAll", "()V"⟩
abbrev cX9_hill : ByteArray := prog_11_method_19_code
def yX9_hill : MethodName := ⟨RX9, "hill", "()I"⟩
abbrev cX9_heat : ByteArray := prog_11_method_20_code
def yX9_heat : MethodName := ⟨RX9, "heat", "(I)I"⟩
abbrev cX9_whom : ByteArray := prog_11_method_21_code
def yX9_whom : MethodName := ⟨RX9, "whom", "(I)I"⟩
abbrev cX9_maySend : ByteArray := prog_11_method_22_code
def yX9_maySend : MethodName := ⟨RX9, "maySend", "(II)Z"⟩
abbrev cX9_ring : ByteArray := prog_11_method_23_code
def yX9_ring : MethodName := ⟨RX9, "ring", "(I)I"⟩
abbrev cX9_temper : ByteArray := prog_11_method_24_code
def yX9_temper : MethodName := ⟨RX9, "temper", "(II)I"⟩
abbrev cX9_nurse : ByteArray := prog_11_method_25_code
def yX9_nurse : MethodName := ⟨RX9, "nurse", "(II)I"⟩
abbrev cX9_save : ByteArray := prog_11_method_26_code
def yX9_save : MethodName := ⟨RX9, "save", "()V"⟩
abbrev cX9_sends : ByteArray := prog_11_method_27_code
def yX9_sends : MethodName := ⟨RX9, "sends", "(II)I"⟩
abbrev cX9_fetches : ByteArray := prog_11_method_28_code
def yX9_fetches : MethodName := ⟨RX9, "fetches", "(I)I"⟩
abbrev cX9_visits : ByteArray := prog_11_method_29_code
def yX9_visits : MethodName := ⟨RX9, "visits", "(I)I"⟩
abbrev cX9_right : ByteArray := prog_11_method_30_code
def yX9_right : MethodName := ⟨RX9, "right", "()I"⟩
abbrev cX9_mixes : ByteArray := prog_11_method_31_code
def yX9_mixes : MethodName := ⟨RX9, "mixes", "(II)I"⟩
abbrev cX9_aged : ByteArray := prog_11_method_32_code
def yX9_aged : MethodName := ⟨RX9, "aged", "(III)I"⟩
abbrev cX9_broken : ByteArray := prog_11_method_33_code
def yX9_broken : MethodName := ⟨RX9, "broken", "()I"⟩
abbrev cX9_years : ByteArray := prog_11_method_34_code
def yX9_years : MethodName := ⟨RX9, "years", "(I)I"⟩
abbrev cX9_undo : ByteArray := prog_11_method_35_code
def yX9_undo : MethodName := ⟨RX9, "undo", "()I"⟩
abbrev cX9_now : ByteArray := prog_11_method_36_code
def yX9_now : MethodName := ⟨RX9, "now", "(I)I"⟩
abbrev cX9_whenBroken : ByteArray := prog_11_method_37_code
def yX9_whenBroken : MethodName := ⟨RX9, "whenBroken", "(II)I"⟩
abbrev cX9_when : ByteArray := prog_11_method_38_code
def yX9_when : MethodName := ⟨RX9, "when", "(II)I"⟩
abbrev cX9_hotIn : ByteArray := prog_11_method_39_code
def yX9_hotIn : MethodName := ⟨RX9, "hotIn", "(II)I"⟩
abbrev cX9_hot : ByteArray := prog_11_method_40_code
def yX9_hot : MethodName := ⟨RX9, "hot", "(II)I"⟩
abbrev cX9_ways : ByteArray := prog_11_method_41_code
def yX9_ways : MethodName := ⟨RX9, "ways", "()I"⟩
abbrev cX9_mayBe : ByteArray := prog_11_method_42_code
def yX9_mayBe : MethodName := ⟨RX9, "mayBe", "(I)Z"⟩
abbrev cX9_plan : ByteArray := prog_11_method_43_code
def yX9_plan : MethodName := ⟨RX9, "plan", "(I)I"⟩
abbrev cX9_soonest : ByteArray := prog_11_method_44_code
def yX9_soonest : MethodName := ⟨RX9, "soonest", "()I"⟩
abbrev cX9_worthBehind : ByteArray := prog_11_method_45_code
def yX9_worthBehind : MethodName := ⟨RX9, "worthBehind", "(II)I"⟩
abbrev cX9_best : ByteArray := prog_11_method_46_code
def yX9_best : MethodName := ⟨RX9, "best", "(II)I"⟩
abbrev cX9_isBed : ByteArray := prog_11_method_47_code
def yX9_isBed : MethodName := ⟨RX9, "isBed", "(III)Z"⟩
abbrev cX9_bedsBy : ByteArray := prog_11_method_48_code
def yX9_bedsBy : MethodName := ⟨RX9, "bedsBy", "(II)I"⟩
abbrev cX9_beds : ByteArray := prog_11_method_49_code
def yX9_beds : MethodName := ⟨RX9, "beds", "(II)I"⟩
abbrev cX9_odds : ByteArray := prog_11_method_50_code
def yX9_odds : MethodName := ⟨RX9, "odds", "(III)I"⟩
abbrev cX9_hears : ByteArray := prog_11_method_51_code
def yX9_hears : MethodName := ⟨RX9, "hears", "(II)I"⟩
abbrev cX9_forget : ByteArray := prog_11_method_52_code
def yX9_forget : MethodName := ⟨RX9, "forget", "()I"⟩
abbrev cX9_whose : ByteArray := prog_11_method_53_code
def yX9_whose : MethodName := ⟨RX9, "whose", "()I"⟩
abbrev cX9_ask : ByteArray := prog_11_method_54_code
def yX9_ask : MethodName := ⟨RX9, "ask", "()I"⟩
abbrev cX9_markAs : ByteArray := prog_11_method_55_code
def yX9_markAs : MethodName := ⟨RX9, "markAs", "(II)I"⟩
abbrev cX9_markAs0 : ByteArray := prog_11_method_56_code
def yX9_markAs0 : MethodName := ⟨RX9, "markAs0", "(I)I"⟩
abbrev cX9_mark : ByteArray := prog_11_method_57_code
def yX9_mark : MethodName := ⟨RX9, "mark", "(II)I"⟩
abbrev cX9_keep : ByteArray := prog_11_method_58_code
def yX9_keep : MethodName := ⟨RX9, "keep", "(I)I"⟩
abbrev cX9_back : ByteArray := prog_11_method_59_code
def yX9_back : MethodName := ⟨RX9, "back", "(I)I"⟩
abbrev cX9_count : ByteArray := prog_11_method_60_code
def yX9_count : MethodName := ⟨RX9, "count", "(I)I"⟩
abbrev cX9_trace : ByteArray := prog_11_method_61_code
def yX9_trace : MethodName := ⟨RX9, "trace", "()J"⟩
def RJ6 : String := "java/lang/Integer"
def TJ6 : u_T := fun k => match k with
  | _ => ("", "", "", false)
def tyJ6 : Nat → FieldType := fun k => match k with
  | _ => .int
abbrev wsJ60 : List Cond := u_ws RJ6 TJ6 0
theorem nmJ6 : ∀ a, a < 0 → ∀ b, b < 0 → a ≠ b → (TJ6 a).2.1 ≠ (TJ6 b).2.1 := by decide +kernel
theorem tyJ6_ok : ∀ k, k < 0 → parseFieldDescriptor (TJ6 k).2.2.1 = some (tyJ6 k) := by decide +kernel
abbrev cJ6_bitCount_0f7a4 : ByteArray := prog_12_method_49_code
def yJ6_bitCount_0f7a4 : MethodName := ⟨RJ6, "bitCount", "(I)I"⟩
def RJ9 : String := "java/lang/Math"
def TJ9 : u_T := fun k => match k with
  | _ => ("", "", "", false)
def tyJ9 : Nat → FieldType := fun k => match k with
  | _ => .int
abbrev wsJ90 : List Cond := u_ws RJ9 TJ9 0
theorem nmJ9 : ∀ a, a < 0 → ∀ b, b < 0 → a ≠ b → (TJ9 a).2.1 ≠ (TJ9 b).2.1 := by decide +kernel
theorem tyJ9_ok : ∀ k, k < 0 → parseFieldDescriptor (TJ9 k).2.2.1 = some (tyJ9 k) := by decide +kernel
abbrev cJ9_max_7cf53 : ByteArray := prog_13_method_65_code
def yJ9_max_7cf53 : MethodName := ⟨RJ9, "max", "(II)I"⟩
abbrev cJ9_min_7cf53 : ByteArray := prog_13_method_69_code
def yJ9_min_7cf53 : MethodName := ⟨RJ9, "min", "(II)I"⟩
def RJ10 : String := "java/lang/System"
def TJ10 : u_T := fun k => match k with
  | _ => ("", "", "", false)
def tyJ10 : Nat → FieldType := fun k => match k with
  | _ => .int
abbrev wsJ100 : List Cond := u_ws RJ10 TJ10 0
theorem nmJ10 : ∀ a, a < 0 → ∀ b, b < 0 → a ≠ b → (TJ10 a).2.1 ≠ (TJ10 b).2.1 := by decide +kernel
theorem tyJ10_ok : ∀ k, k < 0 → parseFieldDescriptor (TJ10 k).2.2.1 = some (tyJ10 k) := by decide +kernel
def RJ7 : String := "java/util/Arrays"
def TJ7 : u_T := fun k => match k with
  | _ => ("", "", "", false)
def tyJ7 : Nat → FieldType := fun k => match k with
  | _ => .int
abbrev wsJ70 : List Cond := u_ws RJ7 TJ7 0
theorem nmJ7 : ∀ a, a < 0 → ∀ b, b < 0 → a ≠ b → (TJ7 a).2.1 ≠ (TJ7 b).2.1 := by decide +kernel
theorem tyJ7_ok : ∀ k, k < 0 → parseFieldDescriptor (TJ7 k).2.2.1 = some (tyJ7 k) := by decide +kernel
abbrev cJ7_fill_53178 : ByteArray := prog_15_method_103_code
def yJ7_fill_53178 : MethodName := ⟨RJ7, "fill", "([II)V"⟩
abbrev cJ7_fill_49daa : ByteArray := prog_15_method_111_code
def yJ7_fill_49daa : MethodName := ⟨RJ7, "fill", "([ZZ)V"⟩
def RL : String := "TemperNursesLaw"
abbrev cL_law : ByteArray := code
def yL_law : MethodName := ⟨RL, "law", "([I)Z"⟩
abbrev vwCl : List vw_C := [(RX0, TX0, 5), (RX1, TX1, 2), (RX2, TX2, 9), (RX3, TX3, 2), (RX4, TX4, 2), (RX5, TX5, 4), (RX6, TX6, 7), (RX7, TX7, 10), (RX8, TX8, 12), (RX9, TX9, 31)]
end
section
theorem dX0_init_0 : decode cX0_init 0 = .ok (.aload_n 0, 1) := by decide +kernel
theorem dX0_init_1 : decode cX0_init 1 = .ok (.invokespecial 3, 3) := by decide +kernel
theorem dX0_init_4 : decode cX0_init 4 = .ok (.aload_n 0, 1) := by decide +kernel
theorem dX0_init_5 : decode cX0_init 5 = .ok (.bipush 6, 2) := by decide +kernel
theorem dX0_init_7 : decode cX0_init 7 = .ok (.newarray .int, 2) := by decide +kernel
theorem dX0_init_9 : decode cX0_init 9 = .ok (.putfield 9, 3) := by decide +kernel
theorem dX0_init_12 : decode cX0_init 12 = .ok (.aload_n 0, 1) := by decide +kernel
theorem dX0_init_13 : decode cX0_init 13 = .ok (.bipush 6, 2) := by decide +kernel
theorem dX0_init_15 : decode cX0_init 15 = .ok (.newarray .int, 2) := by decide +kernel
theorem dX0_init_17 : decode cX0_init 17 = .ok (.putfield 15, 3) := by decide +kernel
theorem dX0_init_20 : decode cX0_init 20 = .ok (.aload_n 0, 1) := by decide +kernel
theorem dX0_init_21 : decode cX0_init 21 = .ok (.aload_n 1, 1) := by decide +kernel
theorem dX0_init_22 : decode cX0_init 22 = .ok (.putfield 18, 3) := by decide +kernel
theorem dX0_init_25 : decode cX0_init 25 = .ok (.return_, 1) := by decide +kernel
theorem dX0_makeBeds_0 : decode cX0_makeBeds 0 = .ok (.aload_n 0, 1) := by decide +kernel
theorem dX0_makeBeds_1 : decode cX0_makeBeds 1 = .ok (.iload_n 1, 1) := by decide +kernel
theorem dX0_makeBeds_2 : decode cX0_makeBeds 2 = .ok (.putfield 22, 3) := by decide +kernel
theorem dX0_makeBeds_5 : decode cX0_makeBeds 5 = .ok (.aload_n 0, 1) := by decide +kernel
theorem dX0_makeBeds_6 : decode cX0_makeBeds 6 = .ok (.iconst (-1), 1) := by decide +kernel
theorem dX0_makeBeds_7 : decode cX0_makeBeds 7 = .ok (.putfield 26, 3) := by decide +kernel
theorem dX0_makeBeds_10 : decode cX0_makeBeds 10 = .ok (.aload_n 0, 1) := by decide +kernel
theorem dX0_makeBeds_11 : decode cX0_makeBeds 11 = .ok (.getfield 9, 3) := by decide +kernel
theorem dX0_makeBeds_14 : decode cX0_makeBeds 14 = .ok (.bipush (-9), 2) := by decide +kernel
theorem dX0_makeBeds_16 : decode cX0_makeBeds 16 = .ok (.invokestatic 29, 3) := by decide +kernel
theorem dX0_makeBeds_19 : decode cX0_makeBeds 19 = .ok (.aload_n 0, 1) := by decide +kernel
theorem dX0_makeBeds_20 : decode cX0_makeBeds 20 = .ok (.iconst 0, 1) := by decide +kernel
theorem dX0_makeBeds_21 : decode cX0_makeBeds 21 = .ok (.iconst 0, 1) := by decide +kernel
theorem dX0_makeBeds_22 : decode cX0_makeBeds 22 = .ok (.invokevirtual 35, 3) := by decide +kernel
theorem dX0_makeBeds_25 : decode cX0_makeBeds 25 = .ok (.return_, 1) := by decide +kernel
theorem dX0_tryOthers_0 : decode cX0_tryOthers 0 = .ok (.iload_n 1, 1) := by decide +kernel
theorem dX0_tryOthers_1 : decode cX0_tryOthers 1 = .ok (.aload_n 0, 1) := by decide +kernel
theorem dX0_tryOthers_2 : decode cX0_tryOthers 2 = .ok (.getfield 18, 3) := by decide +kernel
theorem dX0_tryOthers_5 : decode cX0_tryOthers 5 = .ok (.getfield 39, 3) := by decide +kernel
theorem dX0_tryOthers_8 : decode cX0_tryOthers 8 = .ok (.getfield 45, 3) := by decide +kernel
theorem dX0_tryOthers_11 : decode cX0_tryOthers 11 = .ok (.if_icmp .ge 9, 3) := by decide +kernel
theorem dX0_tryOthers_14 : decode cX0_tryOthers 14 = .ok (.iload_n 1, 1) := by decide +kernel
theorem dX0_tryOthers_15 : decode cX0_tryOthers 15 = .ok (.bipush 6, 2) := by decide +kernel
theorem dX0_tryOthers_17 : decode cX0_tryOthers 17 = .ok (.if_icmp .lt 32, 3) := by decide +kernel
theorem dX0_tryOthers_20 : decode cX0_tryOthers 20 = .ok (.iload_n 2, 1) := by decide +kernel
theorem dX0_tryOthers_21 : decode cX0_tryOthers 21 = .ok (.aload_n 0, 1) := by decide +kernel
theorem dX0_tryOthers_22 : decode cX0_tryOthers 22 = .ok (.getfield 26, 3) := by decide +kernel
theorem dX0_tryOthers_25 : decode cX0_tryOthers 25 = .ok (.if_icmp .le 23, 3) := by decide +kernel
theorem dX0_tryOthers_28 : decode cX0_tryOthers 28 = .ok (.aload_n 0, 1) := by decide +kernel
theorem dX0_tryOthers_29 : decode cX0_tryOthers 29 = .ok (.iload_n 2, 1) := by decide +kernel
theorem dX0_tryOthers_30 : decode cX0_tryOthers 30 = .ok (.putfield 26, 3) := by decide +kernel
theorem dX0_tryOthers_33 : decode cX0_tryOthers 33 = .ok (.aload_n 0, 1) := by decide +kernel
theorem dX0_tryOthers_34 : decode cX0_tryOthers 34 = .ok (.getfield 9, 3) := by decide +kernel
theorem dX0_tryOthers_37 : decode cX0_tryOthers 37 = .ok (.iconst 0, 1) := by decide +kernel
theorem dX0_tryOthers_38 : decode cX0_tryOthers 38 = .ok (.aload_n 0, 1) := by decide +kernel
theorem dX0_tryOthers_39 : decode cX0_tryOthers 39 = .ok (.getfield 15, 3) := by decide +kernel
theorem dX0_tryOthers_42 : decode cX0_tryOthers 42 = .ok (.iconst 0, 1) := by decide +kernel
theorem dX0_tryOthers_43 : decode cX0_tryOthers 43 = .ok (.bipush 6, 2) := by decide +kernel
theorem dX0_tryOthers_45 : decode cX0_tryOthers 45 = .ok (.invokestatic 50, 3) := by decide +kernel
theorem dX0_tryOthers_48 : decode cX0_tryOthers 48 = .ok (.return_, 1) := by decide +kernel
theorem dX0_tryOthers_49 : decode cX0_tryOthers 49 = .ok (.aload_n 0, 1) := by decide +kernel
theorem dX0_tryOthers_50 : decode cX0_tryOthers 50 = .ok (.getfield 9, 3) := by decide +kernel
theorem dX0_tryOthers_53 : decode cX0_tryOthers 53 = .ok (.iload_n 1, 1) := by decide +kernel
theorem dX0_tryOthers_54 : decode cX0_tryOthers 54 = .ok (.iaload, 1) := by decide +kernel
theorem dX0_tryOthers_55 : decode cX0_tryOthers 55 = .ok (.bipush (-9), 2) := by decide +kernel
theorem dX0_tryOthers_57 : decode cX0_tryOthers 57 = .ok (.if_icmp .eq 12, 3) := by decide +kernel
theorem dX0_tryOthers_60 : decode cX0_tryOthers 60 = .ok (.aload_n 0, 1) := by decide +kernel
theorem dX0_tryOthers_61 : decode cX0_tryOthers 61 = .ok (.iload_n 1, 1) := by decide +kernel
theorem dX0_tryOthers_62 : decode cX0_tryOthers 62 = .ok (.iconst 1, 1) := by decide +kernel
theorem dX0_tryOthers_63 : decode cX0_tryOthers 63 = .ok (.iadd, 1) := by decide +kernel
theorem dX0_tryOthers_64 : decode cX0_tryOthers 64 = .ok (.iload_n 2, 1) := by decide +kernel
theorem dX0_tryOthers_65 : decode cX0_tryOthers 65 = .ok (.invokevirtual 35, 3) := by decide +kernel
theorem dX0_tryOthers_68 : decode cX0_tryOthers 68 = .ok (.return_, 1) := by decide +kernel
theorem dX0_tryOthers_69 : decode cX0_tryOthers 69 = .ok (.iload_n 1, 1) := by decide +kernel
theorem dX0_tryOthers_70 : decode cX0_tryOthers 70 = .ok (.iconst 1, 1) := by decide +kernel
theorem dX0_tryOthers_71 : decode cX0_tryOthers 71 = .ok (.iadd, 1) := by decide +kernel
theorem dX0_tryOthers_72 : decode cX0_tryOthers 72 = .ok (.istore_n 3, 1) := by decide +kernel
theorem dX0_tryOthers_73 : decode cX0_tryOthers 73 = .ok (.iload_n 3, 1) := by decide +kernel
theorem dX0_tryOthers_74 : decode cX0_tryOthers 74 = .ok (.aload_n 0, 1) := by decide +kernel
theorem dX0_tryOthers_75 : decode cX0_tryOthers 75 = .ok (.getfield 18, 3) := by decide +kernel
theorem dX0_tryOthers_78 : decode cX0_tryOthers 78 = .ok (.getfield 39, 3) := by decide +kernel
theorem dX0_tryOthers_81 : decode cX0_tryOthers 81 = .ok (.getfield 45, 3) := by decide +kernel
theorem dX0_tryOthers_84 : decode cX0_tryOthers 84 = .ok (.if_icmp .ge 72, 3) := by decide +kernel
theorem dX0_tryOthers_87 : decode cX0_tryOthers 87 = .ok (.aload_n 0, 1) := by decide +kernel
theorem dX0_tryOthers_88 : decode cX0_tryOthers 88 = .ok (.getfield 9, 3) := by decide +kernel
theorem dX0_tryOthers_91 : decode cX0_tryOthers 91 = .ok (.iload_n 3, 1) := by decide +kernel
theorem dX0_tryOthers_92 : decode cX0_tryOthers 92 = .ok (.iaload, 1) := by decide +kernel
theorem dX0_tryOthers_93 : decode cX0_tryOthers 93 = .ok (.bipush (-9), 2) := by decide +kernel
theorem dX0_tryOthers_95 : decode cX0_tryOthers 95 = .ok (.if_icmp .ne 55, 3) := by decide +kernel
theorem dX0_tryOthers_98 : decode cX0_tryOthers 98 = .ok (.aload_n 0, 1) := by decide +kernel
theorem dX0_tryOthers_99 : decode cX0_tryOthers 99 = .ok (.iload_n 1, 1) := by decide +kernel
theorem dX0_tryOthers_100 : decode cX0_tryOthers 100 = .ok (.iload_n 3, 1) := by decide +kernel
theorem dX0_tryOthers_101 : decode cX0_tryOthers 101 = .ok (.invokevirtual 56, 3) := by decide +kernel
theorem dX0_tryOthers_104 : decode cX0_tryOthers 104 = .ok (.ifCond .ne 6, 3) := by decide +kernel
theorem dX0_tryOthers_107 : decode cX0_tryOthers 107 = .ok (.goto 43, 3) := by decide +kernel
theorem dX0_tryOthers_110 : decode cX0_tryOthers 110 = .ok (.aload_n 0, 1) := by decide +kernel
theorem dX0_tryOthers_111 : decode cX0_tryOthers 111 = .ok (.getfield 9, 3) := by decide +kernel
theorem dX0_tryOthers_114 : decode cX0_tryOthers 114 = .ok (.iload_n 1, 1) := by decide +kernel
theorem dX0_tryOthers_115 : decode cX0_tryOthers 115 = .ok (.iload_n 3, 1) := by decide +kernel
theorem dX0_tryOthers_116 : decode cX0_tryOthers 116 = .ok (.iastore, 1) := by decide +kernel
theorem dX0_tryOthers_117 : decode cX0_tryOthers 117 = .ok (.aload_n 0, 1) := by decide +kernel
theorem dX0_tryOthers_118 : decode cX0_tryOthers 118 = .ok (.getfield 9, 3) := by decide +kernel
theorem dX0_tryOthers_121 : decode cX0_tryOthers 121 = .ok (.iload_n 3, 1) := by decide +kernel
theorem dX0_tryOthers_122 : decode cX0_tryOthers 122 = .ok (.iload_n 1, 1) := by decide +kernel
theorem dX0_tryOthers_123 : decode cX0_tryOthers 123 = .ok (.iastore, 1) := by decide +kernel
theorem dX0_tryOthers_124 : decode cX0_tryOthers 124 = .ok (.aload_n 0, 1) := by decide +kernel
theorem dX0_tryOthers_125 : decode cX0_tryOthers 125 = .ok (.iload_n 1, 1) := by decide +kernel
theorem dX0_tryOthers_126 : decode cX0_tryOthers 126 = .ok (.iconst 1, 1) := by decide +kernel
theorem dX0_tryOthers_127 : decode cX0_tryOthers 127 = .ok (.iadd, 1) := by decide +kernel
theorem dX0_tryOthers_128 : decode cX0_tryOthers 128 = .ok (.iload_n 2, 1) := by decide +kernel
theorem dX0_tryOthers_129 : decode cX0_tryOthers 129 = .ok (.iconst 1, 1) := by decide +kernel
theorem dX0_tryOthers_130 : decode cX0_tryOthers 130 = .ok (.iadd, 1) := by decide +kernel
theorem dX0_tryOthers_131 : decode cX0_tryOthers 131 = .ok (.invokevirtual 35, 3) := by decide +kernel
theorem dX0_tryOthers_134 : decode cX0_tryOthers 134 = .ok (.aload_n 0, 1) := by decide +kernel
theorem dX0_tryOthers_135 : decode cX0_tryOthers 135 = .ok (.getfield 9, 3) := by decide +kernel
theorem dX0_tryOthers_138 : decode cX0_tryOthers 138 = .ok (.iload_n 1, 1) := by decide +kernel
theorem dX0_tryOthers_139 : decode cX0_tryOthers 139 = .ok (.bipush (-9), 2) := by decide +kernel
theorem dX0_tryOthers_141 : decode cX0_tryOthers 141 = .ok (.iastore, 1) := by decide +kernel
theorem dX0_tryOthers_142 : decode cX0_tryOthers 142 = .ok (.aload_n 0, 1) := by decide +kernel
theorem dX0_tryOthers_143 : decode cX0_tryOthers 143 = .ok (.getfield 9, 3) := by decide +kernel
theorem dX0_tryOthers_146 : decode cX0_tryOthers 146 = .ok (.iload_n 3, 1) := by decide +kernel
theorem dX0_tryOthers_147 : decode cX0_tryOthers 147 = .ok (.bipush (-9), 2) := by decide +kernel
theorem dX0_tryOthers_149 : decode cX0_tryOthers 149 = .ok (.iastore, 1) := by decide +kernel
theorem dX0_tryOthers_150 : decode cX0_tryOthers 150 = .ok (.iinc 3 1, 3) := by decide +kernel
theorem dX0_tryOthers_153 : decode cX0_tryOthers 153 = .ok (.goto (-80), 3) := by decide +kernel
theorem dX0_tryOthers_156 : decode cX0_tryOthers 156 = .ok (.aload_n 0, 1) := by decide +kernel
theorem dX0_tryOthers_157 : decode cX0_tryOthers 157 = .ok (.iload_n 1, 1) := by decide +kernel
theorem dX0_tryOthers_158 : decode cX0_tryOthers 158 = .ok (.iconst 1, 1) := by decide +kernel
theorem dX0_tryOthers_159 : decode cX0_tryOthers 159 = .ok (.iadd, 1) := by decide +kernel
theorem dX0_tryOthers_160 : decode cX0_tryOthers 160 = .ok (.iload_n 2, 1) := by decide +kernel
theorem dX0_tryOthers_161 : decode cX0_tryOthers 161 = .ok (.invokevirtual 35, 3) := by decide +kernel
theorem dX0_tryOthers_164 : decode cX0_tryOthers 164 = .ok (.return_, 1) := by decide +kernel
theorem dX0_mayShare_0 : decode cX0_mayShare 0 = .ok (.aload_n 0, 1) := by decide +kernel
theorem dX0_mayShare_1 : decode cX0_mayShare 1 = .ok (.getfield 18, 3) := by decide +kernel
theorem dX0_mayShare_4 : decode cX0_mayShare 4 = .ok (.getfield 39, 3) := by decide +kernel
theorem dX0_mayShare_7 : decode cX0_mayShare 7 = .ok (.getfield 60, 3) := by decide +kernel
theorem dX0_mayShare_10 : decode cX0_mayShare 10 = .ok (.iload_n 1, 1) := by decide +kernel
theorem dX0_mayShare_11 : decode cX0_mayShare 11 = .ok (.iaload, 1) := by decide +kernel
theorem dX0_mayShare_12 : decode cX0_mayShare 12 = .ok (.iload_n 2, 1) := by decide +kernel
theorem dX0_mayShare_13 : decode cX0_mayShare 13 = .ok (.invokestatic 63, 3) := by decide +kernel
theorem dX0_mayShare_16 : decode cX0_mayShare 16 = .ok (.iand, 1) := by decide +kernel
theorem dX0_mayShare_17 : decode cX0_mayShare 17 = .ok (.ifCond .ne 37, 3) := by decide +kernel
theorem dX0_mayShare_20 : decode cX0_mayShare 20 = .ok (.aload_n 0, 1) := by decide +kernel
theorem dX0_mayShare_21 : decode cX0_mayShare 21 = .ok (.getfield 18, 3) := by decide +kernel
theorem dX0_mayShare_24 : decode cX0_mayShare 24 = .ok (.getfield 67, 3) := by decide +kernel
theorem dX0_mayShare_27 : decode cX0_mayShare 27 = .ok (.iload_n 1, 1) := by decide +kernel
theorem dX0_mayShare_28 : decode cX0_mayShare 28 = .ok (.invokevirtual 71, 3) := by decide +kernel
theorem dX0_mayShare_31 : decode cX0_mayShare 31 = .ok (.aload_n 0, 1) := by decide +kernel
theorem dX0_mayShare_32 : decode cX0_mayShare 32 = .ok (.getfield 18, 3) := by decide +kernel
theorem dX0_mayShare_35 : decode cX0_mayShare 35 = .ok (.getfield 67, 3) := by decide +kernel
theorem dX0_mayShare_38 : decode cX0_mayShare 38 = .ok (.iload_n 2, 1) := by decide +kernel
theorem dX0_mayShare_39 : decode cX0_mayShare 39 = .ok (.invokevirtual 71, 3) := by decide +kernel
theorem dX0_mayShare_42 : decode cX0_mayShare 42 = .ok (.iadd, 1) := by decide +kernel
theorem dX0_mayShare_43 : decode cX0_mayShare 43 = .ok (.aload_n 0, 1) := by decide +kernel
theorem dX0_mayShare_44 : decode cX0_mayShare 44 = .ok (.getfield 22, 3) := by decide +kernel
theorem dX0_mayShare_47 : decode cX0_mayShare 47 = .ok (.if_icmp .gt 7, 3) := by decide +kernel
theorem dX0_mayShare_50 : decode cX0_mayShare 50 = .ok (.iconst 1, 1) := by decide +kernel
theorem dX0_mayShare_51 : decode cX0_mayShare 51 = .ok (.goto 4, 3) := by decide +kernel
theorem dX0_mayShare_54 : decode cX0_mayShare 54 = .ok (.iconst 0, 1) := by decide +kernel
theorem dX0_mayShare_55 : decode cX0_mayShare 55 = .ok (.ireturn, 1) := by decide +kernel
theorem dX1_init_0 : decode cX1_init 0 = .ok (.aload_n 0, 1) := by decide +kernel
theorem dX1_init_1 : decode cX1_init 1 = .ok (.invokespecial 5, 3) := by decide +kernel
theorem dX1_init_4 : decode cX1_init 4 = .ok (.aload_n 0, 1) := by decide +kernel
theorem dX1_init_5 : decode cX1_init 5 = .ok (.sipush 209, 3) := by decide +kernel
theorem dX1_init_8 : decode cX1_init 8 = .ok (.newarray .int, 2) := by decide +kernel
theorem dX1_init_10 : decode cX1_init 10 = .ok (.putfield 11, 3) := by decide +kernel
theorem dX1_init_13 : decode cX1_init 13 = .ok (.return_, 1) := by decide +kernel
theorem dX1_begin_0 : decode cX1_begin 0 = .ok (.aload_n 0, 1) := by decide +kernel
theorem dX1_begin_1 : decode cX1_begin 1 = .ok (.iconst 0, 1) := by decide +kernel
theorem dX1_begin_2 : decode cX1_begin 2 = .ok (.putfield 15, 3) := by decide +kernel
theorem dX1_begin_5 : decode cX1_begin 5 = .ok (.aload_n 0, 1) := by decide +kernel
theorem dX1_begin_6 : decode cX1_begin 6 = .ok (.iconst 0, 1) := by decide +kernel
theorem dX1_begin_7 : decode cX1_begin 7 = .ok (.invokevirtual 19, 3) := by decide +kernel
theorem dX1_begin_10 : decode cX1_begin 10 = .ok (.iconst 0, 1) := by decide +kernel
theorem dX1_begin_11 : decode cX1_begin 11 = .ok (.istore_n 2, 1) := by decide +kernel
theorem dX1_begin_12 : decode cX1_begin 12 = .ok (.iload_n 2, 1) := by decide +kernel
theorem dX1_begin_13 : decode cX1_begin 13 = .ok (.bipush 6, 2) := by decide +kernel
theorem dX1_begin_15 : decode cX1_begin 15 = .ok (.if_icmp .ge 33, 3) := by decide +kernel
theorem dX1_begin_18 : decode cX1_begin 18 = .ok (.aload_n 0, 1) := by decide +kernel
theorem dX1_begin_19 : decode cX1_begin 19 = .ok (.iload_n 2, 1) := by decide +kernel
theorem dX1_begin_20 : decode cX1_begin 20 = .ok (.aload_n 1, 1) := by decide +kernel
theorem dX1_begin_21 : decode cX1_begin 21 = .ok (.getfield 23, 3) := by decide +kernel
theorem dX1_begin_24 : decode cX1_begin 24 = .ok (.iload_n 2, 1) := by decide +kernel
theorem dX1_begin_25 : decode cX1_begin 25 = .ok (.iaload, 1) := by decide +kernel
theorem dX1_begin_26 : decode cX1_begin 26 = .ok (.invokevirtual 28, 3) := by decide +kernel
theorem dX1_begin_29 : decode cX1_begin 29 = .ok (.aload_n 0, 1) := by decide +kernel
theorem dX1_begin_30 : decode cX1_begin 30 = .ok (.iload_n 2, 1) := by decide +kernel
theorem dX1_begin_31 : decode cX1_begin 31 = .ok (.bipush (-9), 2) := by decide +kernel
theorem dX1_begin_33 : decode cX1_begin 33 = .ok (.invokevirtual 32, 3) := by decide +kernel
theorem dX1_begin_36 : decode cX1_begin 36 = .ok (.aload_n 0, 1) := by decide +kernel
theorem dX1_begin_37 : decode cX1_begin 37 = .ok (.iload_n 2, 1) := by decide +kernel
theorem dX1_begin_38 : decode cX1_begin 38 = .ok (.iload_n 2, 1) := by decide +kernel
theorem dX1_begin_39 : decode cX1_begin 39 = .ok (.invokevirtual 35, 3) := by decide +kernel
theorem dX1_begin_42 : decode cX1_begin 42 = .ok (.iinc 2 1, 3) := by decide +kernel
theorem dX1_begin_45 : decode cX1_begin 45 = .ok (.goto (-33), 3) := by decide +kernel
theorem dX1_begin_48 : decode cX1_begin 48 = .ok (.return_, 1) := by decide +kernel
theorem dX1_take_0 : decode cX1_take 0 = .ok (.aload_n 0, 1) := by decide +kernel
theorem dX1_take_1 : decode cX1_take 1 = .ok (.aload_n 1, 1) := by decide +kernel
theorem dX1_take_2 : decode cX1_take 2 = .ok (.getfield 15, 3) := by decide +kernel
theorem dX1_take_5 : decode cX1_take 5 = .ok (.putfield 15, 3) := by decide +kernel
theorem dX1_take_8 : decode cX1_take 8 = .ok (.aload_n 1, 1) := by decide +kernel
theorem dX1_take_9 : decode cX1_take 9 = .ok (.getfield 11, 3) := by decide +kernel
theorem dX1_take_12 : decode cX1_take 12 = .ok (.iconst 0, 1) := by decide +kernel
theorem dX1_take_13 : decode cX1_take 13 = .ok (.aload_n 0, 1) := by decide +kernel
theorem dX1_take_14 : decode cX1_take 14 = .ok (.getfield 11, 3) := by decide +kernel
theorem dX1_take_17 : decode cX1_take 17 = .ok (.iconst 0, 1) := by decide +kernel
theorem dX1_take_18 : decode cX1_take 18 = .ok (.aload_n 0, 1) := by decide +kernel
theorem dX1_take_19 : decode cX1_take 19 = .ok (.getfield 11, 3) := by decide +kernel
theorem dX1_take_22 : decode cX1_take 22 = .ok (.arraylength, 1) := by decide +kernel
theorem dX1_take_23 : decode cX1_take 23 = .ok (.invokestatic 38, 3) := by decide +kernel
theorem dX1_take_26 : decode cX1_take 26 = .ok (.return_, 1) := by decide +kernel
theorem dX1_remember_0 : decode cX1_remember 0 = .ok (.aload_n 0, 1) := by decide +kernel
theorem dX1_remember_1 : decode cX1_remember 1 = .ok (.getfield 15, 3) := by decide +kernel
theorem dX1_remember_4 : decode cX1_remember 4 = .ok (.bipush 10, 2) := by decide +kernel
theorem dX1_remember_6 : decode cX1_remember 6 = .ok (.if_icmp .lt 26, 3) := by decide +kernel
theorem dX1_remember_9 : decode cX1_remember 9 = .ok (.aload_n 0, 1) := by decide +kernel
theorem dX1_remember_10 : decode cX1_remember 10 = .ok (.getfield 11, 3) := by decide +kernel
theorem dX1_remember_13 : decode cX1_remember 13 = .ok (.bipush 19, 2) := by decide +kernel
theorem dX1_remember_15 : decode cX1_remember 15 = .ok (.aload_n 0, 1) := by decide +kernel
theorem dX1_remember_16 : decode cX1_remember 16 = .ok (.getfield 11, 3) := by decide +kernel
theorem dX1_remember_19 : decode cX1_remember 19 = .ok (.iconst 0, 1) := by decide +kernel
theorem dX1_remember_20 : decode cX1_remember 20 = .ok (.sipush 190, 3) := by decide +kernel
theorem dX1_remember_23 : decode cX1_remember 23 = .ok (.invokestatic 38, 3) := by decide +kernel
theorem dX1_remember_26 : decode cX1_remember 26 = .ok (.aload_n 0, 1) := by decide +kernel
theorem dX1_remember_27 : decode cX1_remember 27 = .ok (.bipush 9, 2) := by decide +kernel
theorem dX1_remember_29 : decode cX1_remember 29 = .ok (.putfield 15, 3) := by decide +kernel
theorem dX1_remember_32 : decode cX1_remember 32 = .ok (.aload_n 0, 1) := by decide +kernel
theorem dX1_remember_33 : decode cX1_remember 33 = .ok (.getfield 11, 3) := by decide +kernel
theorem dX1_remember_36 : decode cX1_remember 36 = .ok (.aload_n 0, 1) := by decide +kernel
theorem dX1_remember_37 : decode cX1_remember 37 = .ok (.getfield 15, 3) := by decide +kernel
theorem dX1_remember_40 : decode cX1_remember 40 = .ok (.bipush 19, 2) := by decide +kernel
theorem dX1_remember_42 : decode cX1_remember 42 = .ok (.imul, 1) := by decide +kernel
theorem dX1_remember_43 : decode cX1_remember 43 = .ok (.aload_n 0, 1) := by decide +kernel
theorem dX1_remember_44 : decode cX1_remember 44 = .ok (.getfield 11, 3) := by decide +kernel
theorem dX1_remember_47 : decode cX1_remember 47 = .ok (.aload_n 0, 1) := by decide +kernel
theorem dX1_remember_48 : decode cX1_remember 48 = .ok (.getfield 15, 3) := by decide +kernel
theorem dX1_remember_51 : decode cX1_remember 51 = .ok (.iconst 1, 1) := by decide +kernel
theorem dX1_remember_52 : decode cX1_remember 52 = .ok (.iadd, 1) := by decide +kernel
theorem dX1_remember_53 : decode cX1_remember 53 = .ok (.bipush 19, 2) := by decide +kernel
theorem dX1_remember_55 : decode cX1_remember 55 = .ok (.imul, 1) := by decide +kernel
theorem dX1_remember_56 : decode cX1_remember 56 = .ok (.bipush 19, 2) := by decide +kernel
theorem dX1_remember_58 : decode cX1_remember 58 = .ok (.invokestatic 38, 3) := by decide +kernel
theorem dX1_remember_61 : decode cX1_remember 61 = .ok (.aload_n 0, 1) := by decide +kernel
theorem dX1_remember_62 : decode cX1_remember 62 = .ok (.dup, 1) := by decide +kernel
theorem dX1_remember_63 : decode cX1_remember 63 = .ok (.getfield 15, 3) := by decide +kernel
theorem dX1_remember_66 : decode cX1_remember 66 = .ok (.iconst 1, 1) := by decide +kernel
theorem dX1_remember_67 : decode cX1_remember 67 = .ok (.iadd, 1) := by decide +kernel
theorem dX1_remember_68 : decode cX1_remember 68 = .ok (.putfield 15, 3) := by decide +kernel
theorem dX1_remember_71 : decode cX1_remember 71 = .ok (.return_, 1) := by decide +kernel
theorem dX1_stepBack_0 : decode cX1_stepBack 0 = .ok (.aload_n 0, 1) := by decide +kernel
theorem dX1_stepBack_1 : decode cX1_stepBack 1 = .ok (.getfield 15, 3) := by decide +kernel
theorem dX1_stepBack_4 : decode cX1_stepBack 4 = .ok (.ifCond .gt 5, 3) := by decide +kernel
theorem dX1_stepBack_7 : decode cX1_stepBack 7 = .ok (.iconst 0, 1) := by decide +kernel
theorem dX1_stepBack_8 : decode cX1_stepBack 8 = .ok (.ireturn, 1) := by decide +kernel
theorem dX1_stepBack_9 : decode cX1_stepBack 9 = .ok (.aload_n 0, 1) := by decide +kernel
theorem dX1_stepBack_10 : decode cX1_stepBack 10 = .ok (.dup, 1) := by decide +kernel
theorem dX1_stepBack_11 : decode cX1_stepBack 11 = .ok (.getfield 15, 3) := by decide +kernel
theorem dX1_stepBack_14 : decode cX1_stepBack 14 = .ok (.iconst 1, 1) := by decide +kernel
theorem dX1_stepBack_15 : decode cX1_stepBack 15 = .ok (.isub, 1) := by decide +kernel
theorem dX1_stepBack_16 : decode cX1_stepBack 16 = .ok (.putfield 15, 3) := by decide +kernel
theorem dX1_stepBack_19 : decode cX1_stepBack 19 = .ok (.iconst 1, 1) := by decide +kernel
theorem dX1_stepBack_20 : decode cX1_stepBack 20 = .ok (.ireturn, 1) := by decide +kernel
theorem dX1_year_0 : decode cX1_year 0 = .ok (.aload_n 0, 1) := by decide +kernel
theorem dX1_year_1 : decode cX1_year 1 = .ok (.iconst 0, 1) := by decide +kernel
theorem dX1_year_2 : decode cX1_year 2 = .ok (.invokevirtual 44, 3) := by decide +kernel
theorem dX1_year_5 : decode cX1_year 5 = .ok (.ireturn, 1) := by decide +kernel
theorem dX1_heat_0 : decode cX1_heat 0 = .ok (.aload_n 0, 1) := by decide +kernel
theorem dX1_heat_1 : decode cX1_heat 1 = .ok (.iconst 1, 1) := by decide +kernel
theorem dX1_heat_2 : decode cX1_heat 2 = .ok (.iload_n 1, 1) := by decide +kernel
theorem dX1_heat_3 : decode cX1_heat 3 = .ok (.iadd, 1) := by decide +kernel
theorem dX1_heat_4 : decode cX1_heat 4 = .ok (.invokevirtual 44, 3) := by decide +kernel
theorem dX1_heat_7 : decode cX1_heat 7 = .ok (.ireturn, 1) := by decide +kernel
theorem dX1_place_0 : decode cX1_place 0 = .ok (.aload_n 0, 1) := by decide +kernel
theorem dX1_place_1 : decode cX1_place 1 = .ok (.bipush 7, 2) := by decide +kernel
theorem dX1_place_3 : decode cX1_place 3 = .ok (.iload_n 1, 1) := by decide +kernel
theorem dX1_place_4 : decode cX1_place 4 = .ok (.iadd, 1) := by decide +kernel
theorem dX1_place_5 : decode cX1_place 5 = .ok (.invokevirtual 44, 3) := by decide +kernel
theorem dX1_place_8 : decode cX1_place 8 = .ok (.ireturn, 1) := by decide +kernel
theorem dX1_owner_0 : decode cX1_owner 0 = .ok (.aload_n 0, 1) := by decide +kernel
theorem dX1_owner_1 : decode cX1_owner 1 = .ok (.bipush 13, 2) := by decide +kernel
theorem dX1_owner_3 : decode cX1_owner 3 = .ok (.iload_n 1, 1) := by decide +kernel
theorem dX1_owner_4 : decode cX1_owner 4 = .ok (.iadd, 1) := by decide +kernel
theorem dX1_owner_5 : decode cX1_owner 5 = .ok (.invokevirtual 44, 3) := by decide +kernel
theorem dX1_owner_8 : decode cX1_owner 8 = .ok (.ireturn, 1) := by decide +kernel
theorem dX1_setYear_0 : decode cX1_setYear 0 = .ok (.aload_n 0, 1) := by decide +kernel
theorem dX1_setYear_1 : decode cX1_setYear 1 = .ok (.iconst 0, 1) := by decide +kernel
theorem dX1_setYear_2 : decode cX1_setYear 2 = .ok (.iload_n 1, 1) := by decide +kernel
theorem dX1_setYear_3 : decode cX1_setYear 3 = .ok (.invokevirtual 48, 3) := by decide +kernel
theorem dX1_setYear_6 : decode cX1_setYear 6 = .ok (.return_, 1) := by decide +kernel
theorem dX1_setHeat_0 : decode cX1_setHeat 0 = .ok (.aload_n 0, 1) := by decide +kernel
theorem dX1_setHeat_1 : decode cX1_setHeat 1 = .ok (.iconst 1, 1) := by decide +kernel
theorem dX1_setHeat_2 : decode cX1_setHeat 2 = .ok (.iload_n 1, 1) := by decide +kernel
theorem dX1_setHeat_3 : decode cX1_setHeat 3 = .ok (.iadd, 1) := by decide +kernel
theorem dX1_setHeat_4 : decode cX1_setHeat 4 = .ok (.iload_n 2, 1) := by decide +kernel
theorem dX1_setHeat_5 : decode cX1_setHeat 5 = .ok (.invokevirtual 48, 3) := by decide +kernel
theorem dX1_setHeat_8 : decode cX1_setHeat 8 = .ok (.return_, 1) := by decide +kernel
theorem dX1_setPlace_0 : decode cX1_setPlace 0 = .ok (.aload_n 0, 1) := by decide +kernel
theorem dX1_setPlace_1 : decode cX1_setPlace 1 = .ok (.bipush 7, 2) := by decide +kernel
theorem dX1_setPlace_3 : decode cX1_setPlace 3 = .ok (.iload_n 1, 1) := by decide +kernel
theorem dX1_setPlace_4 : decode cX1_setPlace 4 = .ok (.iadd, 1) := by decide +kernel
theorem dX1_setPlace_5 : decode cX1_setPlace 5 = .ok (.iload_n 2, 1) := by decide +kernel
theorem dX1_setPlace_6 : decode cX1_setPlace 6 = .ok (.invokevirtual 48, 3) := by decide +kernel
theorem dX1_setPlace_9 : decode cX1_setPlace 9 = .ok (.return_, 1) := by decide +kernel
theorem dX1_setOwner_0 : decode cX1_setOwner 0 = .ok (.aload_n 0, 1) := by decide +kernel
theorem dX1_setOwner_1 : decode cX1_setOwner 1 = .ok (.bipush 13, 2) := by decide +kernel
theorem dX1_setOwner_3 : decode cX1_setOwner 3 = .ok (.iload_n 1, 1) := by decide +kernel
theorem dX1_setOwner_4 : decode cX1_setOwner 4 = .ok (.iadd, 1) := by decide +kernel
theorem dX1_setOwner_5 : decode cX1_setOwner 5 = .ok (.iload_n 2, 1) := by decide +kernel
theorem dX1_setOwner_6 : decode cX1_setOwner 6 = .ok (.invokevirtual 48, 3) := by decide +kernel
theorem dX1_setOwner_9 : decode cX1_setOwner 9 = .ok (.return_, 1) := by decide +kernel
theorem dX1_ring_0 : decode cX1_ring 0 = .ok (.aload_n 0, 1) := by decide +kernel
theorem dX1_ring_1 : decode cX1_ring 1 = .ok (.iload_n 1, 1) := by decide +kernel
theorem dX1_ring_2 : decode cX1_ring 2 = .ok (.invokevirtual 51, 3) := by decide +kernel
theorem dX1_ring_5 : decode cX1_ring 5 = .ok (.istore_n 2, 1) := by decide +kernel
theorem dX1_ring_6 : decode cX1_ring 6 = .ok (.iconst 1, 1) := by decide +kernel
theorem dX1_ring_7 : decode cX1_ring 7 = .ok (.istore_n 3, 1) := by decide +kernel
theorem dX1_ring_8 : decode cX1_ring 8 = .ok (.iload_n 2, 1) := by decide +kernel
theorem dX1_ring_9 : decode cX1_ring 9 = .ok (.iload_n 1, 1) := by decide +kernel
theorem dX1_ring_10 : decode cX1_ring 10 = .ok (.if_icmp .eq 21, 3) := by decide +kernel
theorem dX1_ring_13 : decode cX1_ring 13 = .ok (.iload_n 3, 1) := by decide +kernel
theorem dX1_ring_14 : decode cX1_ring 14 = .ok (.bipush 6, 2) := by decide +kernel
theorem dX1_ring_16 : decode cX1_ring 16 = .ok (.if_icmp .ge 15, 3) := by decide +kernel
theorem dX1_ring_19 : decode cX1_ring 19 = .ok (.aload_n 0, 1) := by decide +kernel
theorem dX1_ring_20 : decode cX1_ring 20 = .ok (.iload_n 2, 1) := by decide +kernel
theorem dX1_ring_21 : decode cX1_ring 21 = .ok (.invokevirtual 51, 3) := by decide +kernel
theorem dX1_ring_24 : decode cX1_ring 24 = .ok (.istore_n 2, 1) := by decide +kernel
theorem dX1_ring_25 : decode cX1_ring 25 = .ok (.iinc 3 1, 3) := by decide +kernel
theorem dX1_ring_28 : decode cX1_ring 28 = .ok (.goto (-20), 3) := by decide +kernel
theorem dX1_ring_31 : decode cX1_ring 31 = .ok (.iload_n 3, 1) := by decide +kernel
theorem dX1_ring_32 : decode cX1_ring 32 = .ok (.ireturn, 1) := by decide +kernel
theorem dX1_mixesToRight_0 : decode cX1_mixesToRight 0 = .ok (.iconst 0, 1) := by decide +kernel
theorem dX1_mixesToRight_1 : decode cX1_mixesToRight 1 = .ok (.istore_n 2, 1) := by decide +kernel
theorem dX1_mixesToRight_2 : decode cX1_mixesToRight 2 = .ok (.iconst 0, 1) := by decide +kernel
theorem dX1_mixesToRight_3 : decode cX1_mixesToRight 3 = .ok (.istore_n 3, 1) := by decide +kernel
theorem dX1_mixesToRight_4 : decode cX1_mixesToRight 4 = .ok (.iload_n 3, 1) := by decide +kernel
theorem dX1_mixesToRight_5 : decode cX1_mixesToRight 5 = .ok (.iload_n 1, 1) := by decide +kernel
theorem dX1_mixesToRight_6 : decode cX1_mixesToRight 6 = .ok (.if_icmp .ge 20, 3) := by decide +kernel
theorem dX1_mixesToRight_9 : decode cX1_mixesToRight 9 = .ok (.aload_n 0, 1) := by decide +kernel
theorem dX1_mixesToRight_10 : decode cX1_mixesToRight 10 = .ok (.iload_n 3, 1) := by decide +kernel
theorem dX1_mixesToRight_11 : decode cX1_mixesToRight 11 = .ok (.invokevirtual 54, 3) := by decide +kernel
theorem dX1_mixesToRight_14 : decode cX1_mixesToRight 14 = .ok (.ifCond .ne 6, 3) := by decide +kernel
theorem dX1_mixesToRight_17 : decode cX1_mixesToRight 17 = .ok (.iinc 2 1, 3) := by decide +kernel
theorem dX1_mixesToRight_20 : decode cX1_mixesToRight 20 = .ok (.iinc 3 1, 3) := by decide +kernel
theorem dX1_mixesToRight_23 : decode cX1_mixesToRight 23 = .ok (.goto (-19), 3) := by decide +kernel
theorem dX1_mixesToRight_26 : decode cX1_mixesToRight 26 = .ok (.iload_n 2, 1) := by decide +kernel
theorem dX1_mixesToRight_27 : decode cX1_mixesToRight 27 = .ok (.ireturn, 1) := by decide +kernel
theorem dX1_isLowestOfRing_0 : decode cX1_isLowestOfRing 0 = .ok (.aload_n 0, 1) := by decide +kernel
theorem dX1_isLowestOfRing_1 : decode cX1_isLowestOfRing 1 = .ok (.iload_n 1, 1) := by decide +kernel
theorem dX1_isLowestOfRing_2 : decode cX1_isLowestOfRing 2 = .ok (.invokevirtual 51, 3) := by decide +kernel
theorem dX1_isLowestOfRing_5 : decode cX1_isLowestOfRing 5 = .ok (.istore_n 2, 1) := by decide +kernel
theorem dX1_isLowestOfRing_6 : decode cX1_isLowestOfRing 6 = .ok (.iconst 0, 1) := by decide +kernel
theorem dX1_isLowestOfRing_7 : decode cX1_isLowestOfRing 7 = .ok (.istore_n 3, 1) := by decide +kernel
theorem dX1_isLowestOfRing_8 : decode cX1_isLowestOfRing 8 = .ok (.iload_n 3, 1) := by decide +kernel
theorem dX1_isLowestOfRing_9 : decode cX1_isLowestOfRing 9 = .ok (.bipush 6, 2) := by decide +kernel
theorem dX1_isLowestOfRing_11 : decode cX1_isLowestOfRing 11 = .ok (.if_icmp .ge 22, 3) := by decide +kernel
theorem dX1_isLowestOfRing_14 : decode cX1_isLowestOfRing 14 = .ok (.iload_n 2, 1) := by decide +kernel
theorem dX1_isLowestOfRing_15 : decode cX1_isLowestOfRing 15 = .ok (.iload_n 1, 1) := by decide +kernel
theorem dX1_isLowestOfRing_16 : decode cX1_isLowestOfRing 16 = .ok (.if_icmp .ge 5, 3) := by decide +kernel
theorem dX1_isLowestOfRing_19 : decode cX1_isLowestOfRing 19 = .ok (.iconst 0, 1) := by decide +kernel
theorem dX1_isLowestOfRing_20 : decode cX1_isLowestOfRing 20 = .ok (.ireturn, 1) := by decide +kernel
theorem dX1_isLowestOfRing_21 : decode cX1_isLowestOfRing 21 = .ok (.aload_n 0, 1) := by decide +kernel
theorem dX1_isLowestOfRing_22 : decode cX1_isLowestOfRing 22 = .ok (.iload_n 2, 1) := by decide +kernel
theorem dX1_isLowestOfRing_23 : decode cX1_isLowestOfRing 23 = .ok (.invokevirtual 51, 3) := by decide +kernel
theorem dX1_isLowestOfRing_26 : decode cX1_isLowestOfRing 26 = .ok (.istore_n 2, 1) := by decide +kernel
theorem dX1_isLowestOfRing_27 : decode cX1_isLowestOfRing 27 = .ok (.iinc 3 1, 3) := by decide +kernel
theorem dX1_isLowestOfRing_30 : decode cX1_isLowestOfRing 30 = .ok (.goto (-22), 3) := by decide +kernel
theorem dX1_isLowestOfRing_33 : decode cX1_isLowestOfRing 33 = .ok (.iconst 1, 1) := by decide +kernel
theorem dX1_isLowestOfRing_34 : decode cX1_isLowestOfRing 34 = .ok (.ireturn, 1) := by decide +kernel
theorem dX1_cell_0 : decode cX1_cell 0 = .ok (.aload_n 0, 1) := by decide +kernel
theorem dX1_cell_1 : decode cX1_cell 1 = .ok (.getfield 15, 3) := by decide +kernel
theorem dX1_cell_4 : decode cX1_cell 4 = .ok (.bipush 19, 2) := by decide +kernel
theorem dX1_cell_6 : decode cX1_cell 6 = .ok (.imul, 1) := by decide +kernel
theorem dX1_cell_7 : decode cX1_cell 7 = .ok (.iload_n 1, 1) := by decide +kernel
theorem dX1_cell_8 : decode cX1_cell 8 = .ok (.iadd, 1) := by decide +kernel
theorem dX1_cell_9 : decode cX1_cell 9 = .ok (.istore_n 2, 1) := by decide +kernel
theorem dX1_cell_10 : decode cX1_cell 10 = .ok (.iload_n 2, 1) := by decide +kernel
theorem dX1_cell_11 : decode cX1_cell 11 = .ok (.ifCond .lt 21, 3) := by decide +kernel
theorem dX1_cell_14 : decode cX1_cell 14 = .ok (.iload_n 2, 1) := by decide +kernel
theorem dX1_cell_15 : decode cX1_cell 15 = .ok (.aload_n 0, 1) := by decide +kernel
theorem dX1_cell_16 : decode cX1_cell 16 = .ok (.getfield 11, 3) := by decide +kernel
theorem dX1_cell_19 : decode cX1_cell 19 = .ok (.arraylength, 1) := by decide +kernel
theorem dX1_cell_20 : decode cX1_cell 20 = .ok (.if_icmp .ge 12, 3) := by decide +kernel
theorem dX1_cell_23 : decode cX1_cell 23 = .ok (.aload_n 0, 1) := by decide +kernel
theorem dX1_cell_24 : decode cX1_cell 24 = .ok (.getfield 11, 3) := by decide +kernel
theorem dX1_cell_27 : decode cX1_cell 27 = .ok (.iload_n 2, 1) := by decide +kernel
theorem dX1_cell_28 : decode cX1_cell 28 = .ok (.iaload, 1) := by decide +kernel
theorem dX1_cell_29 : decode cX1_cell 29 = .ok (.goto 4, 3) := by decide +kernel
theorem dX1_cell_32 : decode cX1_cell 32 = .ok (.iconst 0, 1) := by decide +kernel
theorem dX1_cell_33 : decode cX1_cell 33 = .ok (.ireturn, 1) := by decide +kernel
theorem dX1_setCell_0 : decode cX1_setCell 0 = .ok (.aload_n 0, 1) := by decide +kernel
theorem dX1_setCell_1 : decode cX1_setCell 1 = .ok (.getfield 15, 3) := by decide +kernel
theorem dX1_setCell_4 : decode cX1_setCell 4 = .ok (.bipush 19, 2) := by decide +kernel
theorem dX1_setCell_6 : decode cX1_setCell 6 = .ok (.imul, 1) := by decide +kernel
theorem dX1_setCell_7 : decode cX1_setCell 7 = .ok (.iload_n 1, 1) := by decide +kernel
theorem dX1_setCell_8 : decode cX1_setCell 8 = .ok (.iadd, 1) := by decide +kernel
theorem dX1_setCell_9 : decode cX1_setCell 9 = .ok (.istore_n 3, 1) := by decide +kernel
theorem dX1_setCell_10 : decode cX1_setCell 10 = .ok (.iload_n 3, 1) := by decide +kernel
theorem dX1_setCell_11 : decode cX1_setCell 11 = .ok (.ifCond .lt 19, 3) := by decide +kernel
theorem dX1_setCell_14 : decode cX1_setCell 14 = .ok (.iload_n 3, 1) := by decide +kernel
theorem dX1_setCell_15 : decode cX1_setCell 15 = .ok (.aload_n 0, 1) := by decide +kernel
theorem dX1_setCell_16 : decode cX1_setCell 16 = .ok (.getfield 11, 3) := by decide +kernel
theorem dX1_setCell_19 : decode cX1_setCell 19 = .ok (.arraylength, 1) := by decide +kernel
theorem dX1_setCell_20 : decode cX1_setCell 20 = .ok (.if_icmp .ge 10, 3) := by decide +kernel
theorem dX1_setCell_23 : decode cX1_setCell 23 = .ok (.aload_n 0, 1) := by decide +kernel
theorem dX1_setCell_24 : decode cX1_setCell 24 = .ok (.getfield 11, 3) := by decide +kernel
theorem dX1_setCell_27 : decode cX1_setCell 27 = .ok (.iload_n 3, 1) := by decide +kernel
theorem dX1_setCell_28 : decode cX1_setCell 28 = .ok (.iload_n 2, 1) := by decide +kernel
theorem dX1_setCell_29 : decode cX1_setCell 29 = .ok (.iastore, 1) := by decide +kernel
theorem dX1_setCell_30 : decode cX1_setCell 30 = .ok (.return_, 1) := by decide +kernel
theorem dX2_init_0 : decode cX2_init 0 = .ok (.aload_n 0, 1) := by decide +kernel
theorem dX2_init_1 : decode cX2_init 1 = .ok (.invokespecial 3, 3) := by decide +kernel
theorem dX2_init_4 : decode cX2_init 4 = .ok (.aload_n 0, 1) := by decide +kernel
theorem dX2_init_5 : decode cX2_init 5 = .ok (.bipush 6, 2) := by decide +kernel
theorem dX2_init_7 : decode cX2_init 7 = .ok (.newarray .int, 2) := by decide +kernel
theorem dX2_init_9 : decode cX2_init 9 = .ok (.putfield 9, 3) := by decide +kernel
theorem dX2_init_12 : decode cX2_init 12 = .ok (.aload_n 0, 1) := by decide +kernel
theorem dX2_init_13 : decode cX2_init 13 = .ok (.bipush 6, 2) := by decide +kernel
theorem dX2_init_15 : decode cX2_init 15 = .ok (.newarray .int, 2) := by decide +kernel
theorem dX2_init_17 : decode cX2_init 17 = .ok (.putfield 15, 3) := by decide +kernel
theorem dX2_init_20 : decode cX2_init 20 = .ok (.aload_n 0, 1) := by decide +kernel
theorem dX2_init_21 : decode cX2_init 21 = .ok (.bipush 6, 2) := by decide +kernel
theorem dX2_init_23 : decode cX2_init 23 = .ok (.newarray .int, 2) := by decide +kernel
theorem dX2_init_25 : decode cX2_init 25 = .ok (.putfield 18, 3) := by decide +kernel
theorem dX2_init_28 : decode cX2_init 28 = .ok (.aload_n 0, 1) := by decide +kernel
theorem dX2_init_29 : decode cX2_init 29 = .ok (.bipush 6, 2) := by decide +kernel
theorem dX2_init_31 : decode cX2_init 31 = .ok (.newarray .int, 2) := by decide +kernel
theorem dX2_init_33 : decode cX2_init 33 = .ok (.putfield 21, 3) := by decide +kernel
theorem dX2_init_36 : decode cX2_init 36 = .ok (.aload_n 0, 1) := by decide +kernel
theorem dX2_init_37 : decode cX2_init 37 = .ok (.iconst 4, 1) := by decide +kernel
theorem dX2_init_38 : decode cX2_init 38 = .ok (.newarray .int, 2) := by decide +kernel
theorem dX2_init_40 : decode cX2_init 40 = .ok (.putfield 24, 3) := by decide +kernel
theorem dX2_init_43 : decode cX2_init 43 = .ok (.aload_n 0, 1) := by decide +kernel
theorem dX2_init_44 : decode cX2_init 44 = .ok (.iconst 4, 1) := by decide +kernel
theorem dX2_init_45 : decode cX2_init 45 = .ok (.newarray .int, 2) := by decide +kernel
theorem dX2_init_47 : decode cX2_init 47 = .ok (.putfield 27, 3) := by decide +kernel
theorem dX2_init_50 : decode cX2_init 50 = .ok (.aload_n 0, 1) := by decide +kernel
theorem dX2_init_51 : decode cX2_init 51 = .ok (.iconst 4, 1) := by decide +kernel
theorem dX2_init_52 : decode cX2_init 52 = .ok (.newarray .int, 2) := by decide +kernel
theorem dX2_init_54 : decode cX2_init 54 = .ok (.putfield 30, 3) := by decide +kernel
theorem dX2_init_57 : decode cX2_init 57 = .ok (.return_, 1) := by decide +kernel
theorem dX2_hasTemper_0 : decode cX2_hasTemper 0 = .ok (.iload_n 1, 1) := by decide +kernel
theorem dX2_hasTemper_1 : decode cX2_hasTemper 1 = .ok (.ifCond .lt 15, 3) := by decide +kernel
theorem dX2_hasTemper_4 : decode cX2_hasTemper 4 = .ok (.iload_n 1, 1) := by decide +kernel
theorem dX2_hasTemper_5 : decode cX2_hasTemper 5 = .ok (.aload_n 0, 1) := by decide +kernel
theorem dX2_hasTemper_6 : decode cX2_hasTemper 6 = .ok (.getfield 33, 3) := by decide +kernel
theorem dX2_hasTemper_9 : decode cX2_hasTemper 9 = .ok (.if_icmp .ge 7, 3) := by decide +kernel
theorem dX2_hasTemper_12 : decode cX2_hasTemper 12 = .ok (.iconst 1, 1) := by decide +kernel
theorem dX2_hasTemper_13 : decode cX2_hasTemper 13 = .ok (.goto 4, 3) := by decide +kernel
theorem dX2_hasTemper_16 : decode cX2_hasTemper 16 = .ok (.iconst 0, 1) := by decide +kernel
theorem dX2_hasTemper_17 : decode cX2_hasTemper 17 = .ok (.ireturn, 1) := by decide +kernel
theorem dX2_hasNurse_0 : decode cX2_hasNurse 0 = .ok (.iload_n 1, 1) := by decide +kernel
theorem dX2_hasNurse_1 : decode cX2_hasNurse 1 = .ok (.ifCond .lt 15, 3) := by decide +kernel
theorem dX2_hasNurse_4 : decode cX2_hasNurse 4 = .ok (.iload_n 1, 1) := by decide +kernel
theorem dX2_hasNurse_5 : decode cX2_hasNurse 5 = .ok (.aload_n 0, 1) := by decide +kernel
theorem dX2_hasNurse_6 : decode cX2_hasNurse 6 = .ok (.getfield 37, 3) := by decide +kernel
theorem dX2_hasNurse_9 : decode cX2_hasNurse 9 = .ok (.if_icmp .ge 7, 3) := by decide +kernel
theorem dX2_hasNurse_12 : decode cX2_hasNurse 12 = .ok (.iconst 1, 1) := by decide +kernel
theorem dX2_hasNurse_13 : decode cX2_hasNurse 13 = .ok (.goto 4, 3) := by decide +kernel
theorem dX2_hasNurse_16 : decode cX2_hasNurse 16 = .ok (.iconst 0, 1) := by decide +kernel
theorem dX2_hasNurse_17 : decode cX2_hasNurse 17 = .ok (.ireturn, 1) := by decide +kernel
theorem dX2_wipe_0 : decode cX2_wipe 0 = .ok (.aload_n 0, 1) := by decide +kernel
theorem dX2_wipe_1 : decode cX2_wipe 1 = .ok (.iconst 0, 1) := by decide +kernel
theorem dX2_wipe_2 : decode cX2_wipe 2 = .ok (.putfield 33, 3) := by decide +kernel
theorem dX2_wipe_5 : decode cX2_wipe 5 = .ok (.aload_n 0, 1) := by decide +kernel
theorem dX2_wipe_6 : decode cX2_wipe 6 = .ok (.iconst 0, 1) := by decide +kernel
theorem dX2_wipe_7 : decode cX2_wipe 7 = .ok (.putfield 37, 3) := by decide +kernel
theorem dX2_wipe_10 : decode cX2_wipe 10 = .ok (.aload_n 0, 1) := by decide +kernel
theorem dX2_wipe_11 : decode cX2_wipe 11 = .ok (.getfield 21, 3) := by decide +kernel
theorem dX2_wipe_14 : decode cX2_wipe 14 = .ok (.iconst 0, 1) := by decide +kernel
theorem dX2_wipe_15 : decode cX2_wipe 15 = .ok (.invokestatic 40, 3) := by decide +kernel
theorem dX2_wipe_18 : decode cX2_wipe 18 = .ok (.return_, 1) := by decide +kernel
theorem dX2_addTemper_0 : decode cX2_addTemper 0 = .ok (.aload_n 0, 1) := by decide +kernel
theorem dX2_addTemper_1 : decode cX2_addTemper 1 = .ok (.getfield 33, 3) := by decide +kernel
theorem dX2_addTemper_4 : decode cX2_addTemper 4 = .ok (.bipush 6, 2) := by decide +kernel
theorem dX2_addTemper_6 : decode cX2_addTemper 6 = .ok (.if_icmp .lt 4, 3) := by decide +kernel
theorem dX2_addTemper_9 : decode cX2_addTemper 9 = .ok (.return_, 1) := by decide +kernel
theorem dX2_addTemper_10 : decode cX2_addTemper 10 = .ok (.aload_n 0, 1) := by decide +kernel
theorem dX2_addTemper_11 : decode cX2_addTemper 11 = .ok (.getfield 9, 3) := by decide +kernel
theorem dX2_addTemper_14 : decode cX2_addTemper 14 = .ok (.aload_n 0, 1) := by decide +kernel
theorem dX2_addTemper_15 : decode cX2_addTemper 15 = .ok (.getfield 33, 3) := by decide +kernel
theorem dX2_addTemper_18 : decode cX2_addTemper 18 = .ok (.iload_n 1, 1) := by decide +kernel
theorem dX2_addTemper_19 : decode cX2_addTemper 19 = .ok (.iastore, 1) := by decide +kernel
theorem dX2_addTemper_20 : decode cX2_addTemper 20 = .ok (.aload_n 0, 1) := by decide +kernel
theorem dX2_addTemper_21 : decode cX2_addTemper 21 = .ok (.getfield 15, 3) := by decide +kernel
theorem dX2_addTemper_24 : decode cX2_addTemper 24 = .ok (.aload_n 0, 1) := by decide +kernel
theorem dX2_addTemper_25 : decode cX2_addTemper 25 = .ok (.getfield 33, 3) := by decide +kernel
theorem dX2_addTemper_28 : decode cX2_addTemper 28 = .ok (.iload_n 2, 1) := by decide +kernel
theorem dX2_addTemper_29 : decode cX2_addTemper 29 = .ok (.iastore, 1) := by decide +kernel
theorem dX2_addTemper_30 : decode cX2_addTemper 30 = .ok (.aload_n 0, 1) := by decide +kernel
theorem dX2_addTemper_31 : decode cX2_addTemper 31 = .ok (.getfield 18, 3) := by decide +kernel
theorem dX2_addTemper_34 : decode cX2_addTemper 34 = .ok (.aload_n 0, 1) := by decide +kernel
theorem dX2_addTemper_35 : decode cX2_addTemper 35 = .ok (.getfield 33, 3) := by decide +kernel
theorem dX2_addTemper_38 : decode cX2_addTemper 38 = .ok (.iload_n 3, 1) := by decide +kernel
theorem dX2_addTemper_39 : decode cX2_addTemper 39 = .ok (.iastore, 1) := by decide +kernel
theorem dX2_addTemper_40 : decode cX2_addTemper 40 = .ok (.aload_n 0, 1) := by decide +kernel
theorem dX2_addTemper_41 : decode cX2_addTemper 41 = .ok (.dup, 1) := by decide +kernel
theorem dX2_addTemper_42 : decode cX2_addTemper 42 = .ok (.getfield 33, 3) := by decide +kernel
theorem dX2_addTemper_45 : decode cX2_addTemper 45 = .ok (.iconst 1, 1) := by decide +kernel
theorem dX2_addTemper_46 : decode cX2_addTemper 46 = .ok (.iadd, 1) := by decide +kernel
theorem dX2_addTemper_47 : decode cX2_addTemper 47 = .ok (.putfield 33, 3) := by decide +kernel
theorem dX2_addTemper_50 : decode cX2_addTemper 50 = .ok (.return_, 1) := by decide +kernel
theorem dX2_addNurse_0 : decode cX2_addNurse 0 = .ok (.aload_n 0, 1) := by decide +kernel
theorem dX2_addNurse_1 : decode cX2_addNurse 1 = .ok (.getfield 37, 3) := by decide +kernel
theorem dX2_addNurse_4 : decode cX2_addNurse 4 = .ok (.iconst 4, 1) := by decide +kernel
theorem dX2_addNurse_5 : decode cX2_addNurse 5 = .ok (.if_icmp .lt 4, 3) := by decide +kernel
theorem dX2_addNurse_8 : decode cX2_addNurse 8 = .ok (.return_, 1) := by decide +kernel
theorem dX2_addNurse_9 : decode cX2_addNurse 9 = .ok (.aload_n 0, 1) := by decide +kernel
theorem dX2_addNurse_10 : decode cX2_addNurse 10 = .ok (.getfield 24, 3) := by decide +kernel
theorem dX2_addNurse_13 : decode cX2_addNurse 13 = .ok (.aload_n 0, 1) := by decide +kernel
theorem dX2_addNurse_14 : decode cX2_addNurse 14 = .ok (.getfield 37, 3) := by decide +kernel
theorem dX2_addNurse_17 : decode cX2_addNurse 17 = .ok (.iload_n 1, 1) := by decide +kernel
theorem dX2_addNurse_18 : decode cX2_addNurse 18 = .ok (.iastore, 1) := by decide +kernel
theorem dX2_addNurse_19 : decode cX2_addNurse 19 = .ok (.aload_n 0, 1) := by decide +kernel
theorem dX2_addNurse_20 : decode cX2_addNurse 20 = .ok (.getfield 27, 3) := by decide +kernel
theorem dX2_addNurse_23 : decode cX2_addNurse 23 = .ok (.aload_n 0, 1) := by decide +kernel
theorem dX2_addNurse_24 : decode cX2_addNurse 24 = .ok (.getfield 37, 3) := by decide +kernel
theorem dX2_addNurse_27 : decode cX2_addNurse 27 = .ok (.iload_n 2, 1) := by decide +kernel
theorem dX2_addNurse_28 : decode cX2_addNurse 28 = .ok (.iastore, 1) := by decide +kernel
theorem dX2_addNurse_29 : decode cX2_addNurse 29 = .ok (.aload_n 0, 1) := by decide +kernel
theorem dX2_addNurse_30 : decode cX2_addNurse 30 = .ok (.getfield 30, 3) := by decide +kernel
theorem dX2_addNurse_33 : decode cX2_addNurse 33 = .ok (.aload_n 0, 1) := by decide +kernel
theorem dX2_addNurse_34 : decode cX2_addNurse 34 = .ok (.getfield 37, 3) := by decide +kernel
theorem dX2_addNurse_37 : decode cX2_addNurse 37 = .ok (.iload_n 3, 1) := by decide +kernel
theorem dX2_addNurse_38 : decode cX2_addNurse 38 = .ok (.iastore, 1) := by decide +kernel
theorem dX2_addNurse_39 : decode cX2_addNurse 39 = .ok (.aload_n 0, 1) := by decide +kernel
theorem dX2_addNurse_40 : decode cX2_addNurse 40 = .ok (.dup, 1) := by decide +kernel
theorem dX2_addNurse_41 : decode cX2_addNurse 41 = .ok (.getfield 37, 3) := by decide +kernel
theorem dX2_addNurse_44 : decode cX2_addNurse 44 = .ok (.iconst 1, 1) := by decide +kernel
theorem dX2_addNurse_45 : decode cX2_addNurse 45 = .ok (.iadd, 1) := by decide +kernel
theorem dX2_addNurse_46 : decode cX2_addNurse 46 = .ok (.putfield 37, 3) := by decide +kernel
theorem dX2_addNurse_49 : decode cX2_addNurse 49 = .ok (.return_, 1) := by decide +kernel
theorem dX2_addClash_0 : decode cX2_addClash 0 = .ok (.aload_n 0, 1) := by decide +kernel
theorem dX2_addClash_1 : decode cX2_addClash 1 = .ok (.iload_n 1, 1) := by decide +kernel
theorem dX2_addClash_2 : decode cX2_addClash 2 = .ok (.invokevirtual 46, 3) := by decide +kernel
theorem dX2_addClash_5 : decode cX2_addClash 5 = .ok (.ifCond .eq 11, 3) := by decide +kernel
theorem dX2_addClash_8 : decode cX2_addClash 8 = .ok (.aload_n 0, 1) := by decide +kernel
theorem dX2_addClash_9 : decode cX2_addClash 9 = .ok (.iload_n 2, 1) := by decide +kernel
theorem dX2_addClash_10 : decode cX2_addClash 10 = .ok (.invokevirtual 46, 3) := by decide +kernel
theorem dX2_addClash_13 : decode cX2_addClash 13 = .ok (.ifCond .ne 4, 3) := by decide +kernel
theorem dX2_addClash_16 : decode cX2_addClash 16 = .ok (.return_, 1) := by decide +kernel
theorem dX2_addClash_17 : decode cX2_addClash 17 = .ok (.aload_n 0, 1) := by decide +kernel
theorem dX2_addClash_18 : decode cX2_addClash 18 = .ok (.getfield 21, 3) := by decide +kernel
theorem dX2_addClash_21 : decode cX2_addClash 21 = .ok (.iload_n 1, 1) := by decide +kernel
theorem dX2_addClash_22 : decode cX2_addClash 22 = .ok (.dup2, 1) := by decide +kernel
theorem dX2_addClash_23 : decode cX2_addClash 23 = .ok (.iaload, 1) := by decide +kernel
theorem dX2_addClash_24 : decode cX2_addClash 24 = .ok (.iload_n 2, 1) := by decide +kernel
theorem dX2_addClash_25 : decode cX2_addClash 25 = .ok (.invokestatic 50, 3) := by decide +kernel
theorem dX2_addClash_28 : decode cX2_addClash 28 = .ok (.ior, 1) := by decide +kernel
theorem dX2_addClash_29 : decode cX2_addClash 29 = .ok (.iastore, 1) := by decide +kernel
theorem dX2_addClash_30 : decode cX2_addClash 30 = .ok (.aload_n 0, 1) := by decide +kernel
theorem dX2_addClash_31 : decode cX2_addClash 31 = .ok (.getfield 21, 3) := by decide +kernel
theorem dX2_addClash_34 : decode cX2_addClash 34 = .ok (.iload_n 2, 1) := by decide +kernel
theorem dX2_addClash_35 : decode cX2_addClash 35 = .ok (.dup2, 1) := by decide +kernel
theorem dX2_addClash_36 : decode cX2_addClash 36 = .ok (.iaload, 1) := by decide +kernel
theorem dX2_addClash_37 : decode cX2_addClash 37 = .ok (.iload_n 1, 1) := by decide +kernel
theorem dX2_addClash_38 : decode cX2_addClash 38 = .ok (.invokestatic 50, 3) := by decide +kernel
theorem dX2_addClash_41 : decode cX2_addClash 41 = .ok (.ior, 1) := by decide +kernel
theorem dX2_addClash_42 : decode cX2_addClash 42 = .ok (.iastore, 1) := by decide +kernel
theorem dX2_addClash_43 : decode cX2_addClash 43 = .ok (.return_, 1) := by decide +kernel
theorem dX2_take_0 : decode cX2_take 0 = .ok (.aload_n 0, 1) := by decide +kernel
theorem dX2_take_1 : decode cX2_take 1 = .ok (.aload_n 1, 1) := by decide +kernel
theorem dX2_take_2 : decode cX2_take 2 = .ok (.getfield 33, 3) := by decide +kernel
theorem dX2_take_5 : decode cX2_take 5 = .ok (.putfield 33, 3) := by decide +kernel
theorem dX2_take_8 : decode cX2_take 8 = .ok (.aload_n 0, 1) := by decide +kernel
theorem dX2_take_9 : decode cX2_take 9 = .ok (.aload_n 1, 1) := by decide +kernel
theorem dX2_take_10 : decode cX2_take 10 = .ok (.getfield 37, 3) := by decide +kernel
theorem dX2_take_13 : decode cX2_take 13 = .ok (.putfield 37, 3) := by decide +kernel
theorem dX2_take_16 : decode cX2_take 16 = .ok (.aload_n 1, 1) := by decide +kernel
theorem dX2_take_17 : decode cX2_take 17 = .ok (.getfield 9, 3) := by decide +kernel
theorem dX2_take_20 : decode cX2_take 20 = .ok (.iconst 0, 1) := by decide +kernel
theorem dX2_take_21 : decode cX2_take 21 = .ok (.aload_n 0, 1) := by decide +kernel
theorem dX2_take_22 : decode cX2_take 22 = .ok (.getfield 9, 3) := by decide +kernel
theorem dX2_take_25 : decode cX2_take 25 = .ok (.iconst 0, 1) := by decide +kernel
theorem dX2_take_26 : decode cX2_take 26 = .ok (.bipush 6, 2) := by decide +kernel
theorem dX2_take_28 : decode cX2_take 28 = .ok (.invokestatic 54, 3) := by decide +kernel
theorem dX2_take_31 : decode cX2_take 31 = .ok (.aload_n 1, 1) := by decide +kernel
theorem dX2_take_32 : decode cX2_take 32 = .ok (.getfield 15, 3) := by decide +kernel
theorem dX2_take_35 : decode cX2_take 35 = .ok (.iconst 0, 1) := by decide +kernel
theorem dX2_take_36 : decode cX2_take 36 = .ok (.aload_n 0, 1) := by decide +kernel
theorem dX2_take_37 : decode cX2_take 37 = .ok (.getfield 15, 3) := by decide +kernel
theorem dX2_take_40 : decode cX2_take 40 = .ok (.iconst 0, 1) := by decide +kernel
theorem dX2_take_41 : decode cX2_take 41 = .ok (.bipush 6, 2) := by decide +kernel
theorem dX2_take_43 : decode cX2_take 43 = .ok (.invokestatic 54, 3) := by decide +kernel
theorem dX2_take_46 : decode cX2_take 46 = .ok (.aload_n 1, 1) := by decide +kernel
theorem dX2_take_47 : decode cX2_take 47 = .ok (.getfield 18, 3) := by decide +kernel
theorem dX2_take_50 : decode cX2_take 50 = .ok (.iconst 0, 1) := by decide +kernel
theorem dX2_take_51 : decode cX2_take 51 = .ok (.aload_n 0, 1) := by decide +kernel
theorem dX2_take_52 : decode cX2_take 52 = .ok (.getfield 18, 3) := by decide +kernel
theorem dX2_take_55 : decode cX2_take 55 = .ok (.iconst 0, 1) := by decide +kernel
theorem dX2_take_56 : decode cX2_take 56 = .ok (.bipush 6, 2) := by decide +kernel
theorem dX2_take_58 : decode cX2_take 58 = .ok (.invokestatic 54, 3) := by decide +kernel
theorem dX2_take_61 : decode cX2_take 61 = .ok (.aload_n 1, 1) := by decide +kernel
theorem dX2_take_62 : decode cX2_take 62 = .ok (.getfield 21, 3) := by decide +kernel
theorem dX2_take_65 : decode cX2_take 65 = .ok (.iconst 0, 1) := by decide +kernel
theorem dX2_take_66 : decode cX2_take 66 = .ok (.aload_n 0, 1) := by decide +kernel
theorem dX2_take_67 : decode cX2_take 67 = .ok (.getfield 21, 3) := by decide +kernel
theorem dX2_take_70 : decode cX2_take 70 = .ok (.iconst 0, 1) := by decide +kernel
theorem dX2_take_71 : decode cX2_take 71 = .ok (.bipush 6, 2) := by decide +kernel
theorem dX2_take_73 : decode cX2_take 73 = .ok (.invokestatic 54, 3) := by decide +kernel
theorem dX2_take_76 : decode cX2_take 76 = .ok (.aload_n 1, 1) := by decide +kernel
theorem dX2_take_77 : decode cX2_take 77 = .ok (.getfield 24, 3) := by decide +kernel
theorem dX2_take_80 : decode cX2_take 80 = .ok (.iconst 0, 1) := by decide +kernel
theorem dX2_take_81 : decode cX2_take 81 = .ok (.aload_n 0, 1) := by decide +kernel
theorem dX2_take_82 : decode cX2_take 82 = .ok (.getfield 24, 3) := by decide +kernel
theorem dX2_take_85 : decode cX2_take 85 = .ok (.iconst 0, 1) := by decide +kernel
theorem dX2_take_86 : decode cX2_take 86 = .ok (.iconst 4, 1) := by decide +kernel
theorem dX2_take_87 : decode cX2_take 87 = .ok (.invokestatic 54, 3) := by decide +kernel
theorem dX2_take_90 : decode cX2_take 90 = .ok (.aload_n 1, 1) := by decide +kernel
theorem dX2_take_91 : decode cX2_take 91 = .ok (.getfield 27, 3) := by decide +kernel
theorem dX2_take_94 : decode cX2_take 94 = .ok (.iconst 0, 1) := by decide +kernel
theorem dX2_take_95 : decode cX2_take 95 = .ok (.aload_n 0, 1) := by decide +kernel
theorem dX2_take_96 : decode cX2_take 96 = .ok (.getfield 27, 3) := by decide +kernel
theorem dX2_take_99 : decode cX2_take 99 = .ok (.iconst 0, 1) := by decide +kernel
theorem dX2_take_100 : decode cX2_take 100 = .ok (.iconst 4, 1) := by decide +kernel
theorem dX2_take_101 : decode cX2_take 101 = .ok (.invokestatic 54, 3) := by decide +kernel
theorem dX2_take_104 : decode cX2_take 104 = .ok (.aload_n 1, 1) := by decide +kernel
theorem dX2_take_105 : decode cX2_take 105 = .ok (.getfield 30, 3) := by decide +kernel
theorem dX2_take_108 : decode cX2_take 108 = .ok (.iconst 0, 1) := by decide +kernel
theorem dX2_take_109 : decode cX2_take 109 = .ok (.aload_n 0, 1) := by decide +kernel
theorem dX2_take_110 : decode cX2_take 110 = .ok (.getfield 30, 3) := by decide +kernel
theorem dX2_take_113 : decode cX2_take 113 = .ok (.iconst 0, 1) := by decide +kernel
theorem dX2_take_114 : decode cX2_take 114 = .ok (.iconst 4, 1) := by decide +kernel
theorem dX2_take_115 : decode cX2_take 115 = .ok (.invokestatic 54, 3) := by decide +kernel
theorem dX2_take_118 : decode cX2_take 118 = .ok (.return_, 1) := by decide +kernel
theorem dX3_init_0 : decode cX3_init 0 = .ok (.aload_n 0, 1) := by decide +kernel
theorem dX3_init_1 : decode cX3_init 1 = .ok (.invokespecial 3, 3) := by decide +kernel
theorem dX3_init_4 : decode cX3_init 4 = .ok (.aload_n 0, 1) := by decide +kernel
theorem dX3_init_5 : decode cX3_init 5 = .ok (.aload_n 1, 1) := by decide +kernel
theorem dX3_init_6 : decode cX3_init 6 = .ok (.putfield 9, 3) := by decide +kernel
theorem dX3_init_9 : decode cX3_init 9 = .ok (.aload_n 0, 1) := by decide +kernel
theorem dX3_init_10 : decode cX3_init 10 = .ok (.aload_n 2, 1) := by decide +kernel
theorem dX3_init_11 : decode cX3_init 11 = .ok (.putfield 15, 3) := by decide +kernel
theorem dX3_init_14 : decode cX3_init 14 = .ok (.return_, 1) := by decide +kernel
theorem dX3_broken_0 : decode cX3_broken 0 = .ok (.iconst 0, 1) := by decide +kernel
theorem dX3_broken_1 : decode cX3_broken 1 = .ok (.istore_n 1, 1) := by decide +kernel
theorem dX3_broken_2 : decode cX3_broken 2 = .ok (.iconst 0, 1) := by decide +kernel
theorem dX3_broken_3 : decode cX3_broken 3 = .ok (.istore_n 2, 1) := by decide +kernel
theorem dX3_broken_4 : decode cX3_broken 4 = .ok (.iload_n 2, 1) := by decide +kernel
theorem dX3_broken_5 : decode cX3_broken 5 = .ok (.aload_n 0, 1) := by decide +kernel
theorem dX3_broken_6 : decode cX3_broken 6 = .ok (.getfield 9, 3) := by decide +kernel
theorem dX3_broken_9 : decode cX3_broken 9 = .ok (.getfield 19, 3) := by decide +kernel
theorem dX3_broken_12 : decode cX3_broken 12 = .ok (.if_icmp .ge 27, 3) := by decide +kernel
theorem dX3_broken_15 : decode cX3_broken 15 = .ok (.aload_n 0, 1) := by decide +kernel
theorem dX3_broken_16 : decode cX3_broken 16 = .ok (.getfield 15, 3) := by decide +kernel
theorem dX3_broken_19 : decode cX3_broken 19 = .ok (.iload_n 2, 1) := by decide +kernel
theorem dX3_broken_20 : decode cX3_broken 20 = .ok (.invokevirtual 25, 3) := by decide +kernel
theorem dX3_broken_23 : decode cX3_broken 23 = .ok (.ifCond .ne 10, 3) := by decide +kernel
theorem dX3_broken_26 : decode cX3_broken 26 = .ok (.iload_n 1, 1) := by decide +kernel
theorem dX3_broken_27 : decode cX3_broken 27 = .ok (.iload_n 2, 1) := by decide +kernel
theorem dX3_broken_28 : decode cX3_broken 28 = .ok (.invokestatic 31, 3) := by decide +kernel
theorem dX3_broken_31 : decode cX3_broken 31 = .ok (.ior, 1) := by decide +kernel
theorem dX3_broken_32 : decode cX3_broken 32 = .ok (.istore_n 1, 1) := by decide +kernel
theorem dX3_broken_33 : decode cX3_broken 33 = .ok (.iinc 2 1, 3) := by decide +kernel
theorem dX3_broken_36 : decode cX3_broken 36 = .ok (.goto (-32), 3) := by decide +kernel
theorem dX3_broken_39 : decode cX3_broken 39 = .ok (.iload_n 1, 1) := by decide +kernel
theorem dX3_broken_40 : decode cX3_broken 40 = .ok (.ireturn, 1) := by decide +kernel
theorem dX3_heatOfAll_0 : decode cX3_heatOfAll 0 = .ok (.iconst 0, 1) := by decide +kernel
theorem dX3_heatOfAll_1 : decode cX3_heatOfAll 1 = .ok (.istore_n 1, 1) := by decide +kernel
theorem dX3_heatOfAll_2 : decode cX3_heatOfAll 2 = .ok (.iconst 0, 1) := by decide +kernel
theorem dX3_heatOfAll_3 : decode cX3_heatOfAll 3 = .ok (.istore_n 2, 1) := by decide +kernel
theorem dX3_heatOfAll_4 : decode cX3_heatOfAll 4 = .ok (.iload_n 2, 1) := by decide +kernel
theorem dX3_heatOfAll_5 : decode cX3_heatOfAll 5 = .ok (.aload_n 0, 1) := by decide +kernel
theorem dX3_heatOfAll_6 : decode cX3_heatOfAll 6 = .ok (.getfield 9, 3) := by decide +kernel
theorem dX3_heatOfAll_9 : decode cX3_heatOfAll 9 = .ok (.getfield 19, 3) := by decide +kernel
theorem dX3_heatOfAll_12 : decode cX3_heatOfAll 12 = .ok (.if_icmp .ge 20, 3) := by decide +kernel
theorem dX3_heatOfAll_15 : decode cX3_heatOfAll 15 = .ok (.iload_n 1, 1) := by decide +kernel
theorem dX3_heatOfAll_16 : decode cX3_heatOfAll 16 = .ok (.aload_n 0, 1) := by decide +kernel
theorem dX3_heatOfAll_17 : decode cX3_heatOfAll 17 = .ok (.getfield 15, 3) := by decide +kernel
theorem dX3_heatOfAll_20 : decode cX3_heatOfAll 20 = .ok (.iload_n 2, 1) := by decide +kernel
theorem dX3_heatOfAll_21 : decode cX3_heatOfAll 21 = .ok (.invokevirtual 25, 3) := by decide +kernel
theorem dX3_heatOfAll_24 : decode cX3_heatOfAll 24 = .ok (.iadd, 1) := by decide +kernel
theorem dX3_heatOfAll_25 : decode cX3_heatOfAll 25 = .ok (.istore_n 1, 1) := by decide +kernel
theorem dX3_heatOfAll_26 : decode cX3_heatOfAll 26 = .ok (.iinc 2 1, 3) := by decide +kernel
theorem dX3_heatOfAll_29 : decode cX3_heatOfAll 29 = .ok (.goto (-25), 3) := by decide +kernel
theorem dX3_heatOfAll_32 : decode cX3_heatOfAll 32 = .ok (.iload_n 1, 1) := by decide +kernel
theorem dX3_heatOfAll_33 : decode cX3_heatOfAll 33 = .ok (.ireturn, 1) := by decide +kernel
theorem dX3_thoseWith_0 : decode cX3_thoseWith 0 = .ok (.iconst 0, 1) := by decide +kernel
theorem dX3_thoseWith_1 : decode cX3_thoseWith 1 = .ok (.istore_n 2, 1) := by decide +kernel
theorem dX3_thoseWith_2 : decode cX3_thoseWith 2 = .ok (.iconst 0, 1) := by decide +kernel
theorem dX3_thoseWith_3 : decode cX3_thoseWith 3 = .ok (.istore_n 3, 1) := by decide +kernel
theorem dX3_thoseWith_4 : decode cX3_thoseWith 4 = .ok (.iload_n 3, 1) := by decide +kernel
theorem dX3_thoseWith_5 : decode cX3_thoseWith 5 = .ok (.aload_n 0, 1) := by decide +kernel
theorem dX3_thoseWith_6 : decode cX3_thoseWith 6 = .ok (.getfield 9, 3) := by decide +kernel
theorem dX3_thoseWith_9 : decode cX3_thoseWith 9 = .ok (.getfield 19, 3) := by decide +kernel
theorem dX3_thoseWith_12 : decode cX3_thoseWith 12 = .ok (.if_icmp .ge 28, 3) := by decide +kernel
theorem dX3_thoseWith_15 : decode cX3_thoseWith 15 = .ok (.aload_n 0, 1) := by decide +kernel
theorem dX3_thoseWith_16 : decode cX3_thoseWith 16 = .ok (.getfield 15, 3) := by decide +kernel
theorem dX3_thoseWith_19 : decode cX3_thoseWith 19 = .ok (.iload_n 3, 1) := by decide +kernel
theorem dX3_thoseWith_20 : decode cX3_thoseWith 20 = .ok (.invokevirtual 34, 3) := by decide +kernel
theorem dX3_thoseWith_23 : decode cX3_thoseWith 23 = .ok (.iload_n 1, 1) := by decide +kernel
theorem dX3_thoseWith_24 : decode cX3_thoseWith 24 = .ok (.if_icmp .ne 10, 3) := by decide +kernel
theorem dX3_thoseWith_27 : decode cX3_thoseWith 27 = .ok (.iload_n 2, 1) := by decide +kernel
theorem dX3_thoseWith_28 : decode cX3_thoseWith 28 = .ok (.iload_n 3, 1) := by decide +kernel
theorem dX3_thoseWith_29 : decode cX3_thoseWith 29 = .ok (.invokestatic 31, 3) := by decide +kernel
theorem dX3_thoseWith_32 : decode cX3_thoseWith 32 = .ok (.ior, 1) := by decide +kernel
theorem dX3_thoseWith_33 : decode cX3_thoseWith 33 = .ok (.istore_n 2, 1) := by decide +kernel
theorem dX3_thoseWith_34 : decode cX3_thoseWith 34 = .ok (.iinc 3 1, 3) := by decide +kernel
theorem dX3_thoseWith_37 : decode cX3_thoseWith 37 = .ok (.goto (-33), 3) := by decide +kernel
theorem dX3_thoseWith_40 : decode cX3_thoseWith 40 = .ok (.iload_n 2, 1) := by decide +kernel
theorem dX3_thoseWith_41 : decode cX3_thoseWith 41 = .ok (.ireturn, 1) := by decide +kernel
theorem dX3_thoseThatMayBeSentTo_0 : decode cX3_thoseThatMayBeSentTo 0 = .ok (.iconst 0, 1) := by decide +kernel
theorem dX3_thoseThatMayBeSentTo_1 : decode cX3_thoseThatMayBeSentTo 1 = .ok (.istore_n 2, 1) := by decide +kernel
theorem dX3_thoseThatMayBeSentTo_2 : decode cX3_thoseThatMayBeSentTo 2 = .ok (.iconst 0, 1) := by decide +kernel
theorem dX3_thoseThatMayBeSentTo_3 : decode cX3_thoseThatMayBeSentTo 3 = .ok (.istore_n 3, 1) := by decide +kernel
theorem dX3_thoseThatMayBeSentTo_4 : decode cX3_thoseThatMayBeSentTo 4 = .ok (.iload_n 3, 1) := by decide +kernel
theorem dX3_thoseThatMayBeSentTo_5 : decode cX3_thoseThatMayBeSentTo 5 = .ok (.aload_n 0, 1) := by decide +kernel
theorem dX3_thoseThatMayBeSentTo_6 : decode cX3_thoseThatMayBeSentTo 6 = .ok (.getfield 9, 3) := by decide +kernel
theorem dX3_thoseThatMayBeSentTo_9 : decode cX3_thoseThatMayBeSentTo 9 = .ok (.getfield 19, 3) := by decide +kernel
theorem dX3_thoseThatMayBeSentTo_12 : decode cX3_thoseThatMayBeSentTo 12 = .ok (.if_icmp .ge 25, 3) := by decide +kernel
theorem dX3_thoseThatMayBeSentTo_15 : decode cX3_thoseThatMayBeSentTo 15 = .ok (.aload_n 0, 1) := by decide +kernel
theorem dX3_thoseThatMayBeSentTo_16 : decode cX3_thoseThatMayBeSentTo 16 = .ok (.iload_n 3, 1) := by decide +kernel
theorem dX3_thoseThatMayBeSentTo_17 : decode cX3_thoseThatMayBeSentTo 17 = .ok (.iload_n 1, 1) := by decide +kernel
theorem dX3_thoseThatMayBeSentTo_18 : decode cX3_thoseThatMayBeSentTo 18 = .ok (.invokevirtual 37, 3) := by decide +kernel
theorem dX3_thoseThatMayBeSentTo_21 : decode cX3_thoseThatMayBeSentTo 21 = .ok (.ifCond .eq 10, 3) := by decide +kernel
theorem dX3_thoseThatMayBeSentTo_24 : decode cX3_thoseThatMayBeSentTo 24 = .ok (.iload_n 2, 1) := by decide +kernel
theorem dX3_thoseThatMayBeSentTo_25 : decode cX3_thoseThatMayBeSentTo 25 = .ok (.iload_n 3, 1) := by decide +kernel
theorem dX3_thoseThatMayBeSentTo_26 : decode cX3_thoseThatMayBeSentTo 26 = .ok (.invokestatic 31, 3) := by decide +kernel
theorem dX3_thoseThatMayBeSentTo_29 : decode cX3_thoseThatMayBeSentTo 29 = .ok (.ior, 1) := by decide +kernel
theorem dX3_thoseThatMayBeSentTo_30 : decode cX3_thoseThatMayBeSentTo 30 = .ok (.istore_n 2, 1) := by decide +kernel
theorem dX3_thoseThatMayBeSentTo_31 : decode cX3_thoseThatMayBeSentTo 31 = .ok (.iinc 3 1, 3) := by decide +kernel
theorem dX3_thoseThatMayBeSentTo_34 : decode cX3_thoseThatMayBeSentTo 34 = .ok (.goto (-30), 3) := by decide +kernel
theorem dX3_thoseThatMayBeSentTo_37 : decode cX3_thoseThatMayBeSentTo 37 = .ok (.iload_n 2, 1) := by decide +kernel
theorem dX3_thoseThatMayBeSentTo_38 : decode cX3_thoseThatMayBeSentTo 38 = .ok (.ireturn, 1) := by decide +kernel
theorem dX3_mayBeSent_0 : decode cX3_mayBeSent 0 = .ok (.aload_n 0, 1) := by decide +kernel
theorem dX3_mayBeSent_1 : decode cX3_mayBeSent 1 = .ok (.getfield 15, 3) := by decide +kernel
theorem dX3_mayBeSent_4 : decode cX3_mayBeSent 4 = .ok (.iload_n 1, 1) := by decide +kernel
theorem dX3_mayBeSent_5 : decode cX3_mayBeSent 5 = .ok (.invokevirtual 34, 3) := by decide +kernel
theorem dX3_mayBeSent_8 : decode cX3_mayBeSent 8 = .ok (.iload_n 2, 1) := by decide +kernel
theorem dX3_mayBeSent_9 : decode cX3_mayBeSent 9 = .ok (.if_icmp .eq 21, 3) := by decide +kernel
theorem dX3_mayBeSent_12 : decode cX3_mayBeSent 12 = .ok (.aload_n 0, 1) := by decide +kernel
theorem dX3_mayBeSent_13 : decode cX3_mayBeSent 13 = .ok (.iload_n 1, 1) := by decide +kernel
theorem dX3_mayBeSent_14 : decode cX3_mayBeSent 14 = .ok (.iload_n 2, 1) := by decide +kernel
theorem dX3_mayBeSent_15 : decode cX3_mayBeSent 15 = .ok (.aload_n 0, 1) := by decide +kernel
theorem dX3_mayBeSent_16 : decode cX3_mayBeSent 16 = .ok (.iload_n 2, 1) := by decide +kernel
theorem dX3_mayBeSent_17 : decode cX3_mayBeSent 17 = .ok (.invokevirtual 41, 3) := by decide +kernel
theorem dX3_mayBeSent_20 : decode cX3_mayBeSent 20 = .ok (.invokevirtual 44, 3) := by decide +kernel
theorem dX3_mayBeSent_23 : decode cX3_mayBeSent 23 = .ok (.ifCond .eq 7, 3) := by decide +kernel
theorem dX3_mayBeSent_26 : decode cX3_mayBeSent 26 = .ok (.iconst 1, 1) := by decide +kernel
theorem dX3_mayBeSent_27 : decode cX3_mayBeSent 27 = .ok (.goto 4, 3) := by decide +kernel
theorem dX3_mayBeSent_30 : decode cX3_mayBeSent 30 = .ok (.iconst 0, 1) := by decide +kernel
theorem dX3_mayBeSent_31 : decode cX3_mayBeSent 31 = .ok (.ireturn, 1) := by decide +kernel
theorem dX3_mayJoin_0 : decode cX3_mayJoin 0 = .ok (.aload_n 0, 1) := by decide +kernel
theorem dX3_mayJoin_1 : decode cX3_mayJoin 1 = .ok (.getfield 9, 3) := by decide +kernel
theorem dX3_mayJoin_4 : decode cX3_mayJoin 4 = .ok (.iload_n 1, 1) := by decide +kernel
theorem dX3_mayJoin_5 : decode cX3_mayJoin 5 = .ok (.invokevirtual 48, 3) := by decide +kernel
theorem dX3_mayJoin_8 : decode cX3_mayJoin 8 = .ok (.ifCond .eq 14, 3) := by decide +kernel
theorem dX3_mayJoin_11 : decode cX3_mayJoin 11 = .ok (.aload_n 0, 1) := by decide +kernel
theorem dX3_mayJoin_12 : decode cX3_mayJoin 12 = .ok (.getfield 9, 3) := by decide +kernel
theorem dX3_mayJoin_15 : decode cX3_mayJoin 15 = .ok (.iload_n 2, 1) := by decide +kernel
theorem dX3_mayJoin_16 : decode cX3_mayJoin 16 = .ok (.invokevirtual 52, 3) := by decide +kernel
theorem dX3_mayJoin_19 : decode cX3_mayJoin 19 = .ok (.ifCond .ne 5, 3) := by decide +kernel
theorem dX3_mayJoin_22 : decode cX3_mayJoin 22 = .ok (.iconst 0, 1) := by decide +kernel
theorem dX3_mayJoin_23 : decode cX3_mayJoin 23 = .ok (.ireturn, 1) := by decide +kernel
theorem dX3_mayJoin_24 : decode cX3_mayJoin 24 = .ok (.aload_n 0, 1) := by decide +kernel
theorem dX3_mayJoin_25 : decode cX3_mayJoin 25 = .ok (.getfield 15, 3) := by decide +kernel
theorem dX3_mayJoin_28 : decode cX3_mayJoin 28 = .ok (.iload_n 1, 1) := by decide +kernel
theorem dX3_mayJoin_29 : decode cX3_mayJoin 29 = .ok (.invokevirtual 25, 3) := by decide +kernel
theorem dX3_mayJoin_32 : decode cX3_mayJoin 32 = .ok (.aload_n 0, 1) := by decide +kernel
theorem dX3_mayJoin_33 : decode cX3_mayJoin 33 = .ok (.getfield 9, 3) := by decide +kernel
theorem dX3_mayJoin_36 : decode cX3_mayJoin 36 = .ok (.getfield 55, 3) := by decide +kernel
theorem dX3_mayJoin_39 : decode cX3_mayJoin 39 = .ok (.iload_n 2, 1) := by decide +kernel
theorem dX3_mayJoin_40 : decode cX3_mayJoin 40 = .ok (.iaload, 1) := by decide +kernel
theorem dX3_mayJoin_41 : decode cX3_mayJoin 41 = .ok (.if_icmp .gt 37, 3) := by decide +kernel
theorem dX3_mayJoin_44 : decode cX3_mayJoin 44 = .ok (.iload_n 3, 1) := by decide +kernel
theorem dX3_mayJoin_45 : decode cX3_mayJoin 45 = .ok (.invokestatic 59, 3) := by decide +kernel
theorem dX3_mayJoin_48 : decode cX3_mayJoin 48 = .ok (.aload_n 0, 1) := by decide +kernel
theorem dX3_mayJoin_49 : decode cX3_mayJoin 49 = .ok (.getfield 9, 3) := by decide +kernel
theorem dX3_mayJoin_52 : decode cX3_mayJoin 52 = .ok (.getfield 64, 3) := by decide +kernel
theorem dX3_mayJoin_55 : decode cX3_mayJoin 55 = .ok (.iload_n 2, 1) := by decide +kernel
theorem dX3_mayJoin_56 : decode cX3_mayJoin 56 = .ok (.iaload, 1) := by decide +kernel
theorem dX3_mayJoin_57 : decode cX3_mayJoin 57 = .ok (.if_icmp .ge 21, 3) := by decide +kernel
theorem dX3_mayJoin_60 : decode cX3_mayJoin 60 = .ok (.iload_n 3, 1) := by decide +kernel
theorem dX3_mayJoin_61 : decode cX3_mayJoin 61 = .ok (.aload_n 0, 1) := by decide +kernel
theorem dX3_mayJoin_62 : decode cX3_mayJoin 62 = .ok (.getfield 9, 3) := by decide +kernel
theorem dX3_mayJoin_65 : decode cX3_mayJoin 65 = .ok (.getfield 67, 3) := by decide +kernel
theorem dX3_mayJoin_68 : decode cX3_mayJoin 68 = .ok (.iload_n 1, 1) := by decide +kernel
theorem dX3_mayJoin_69 : decode cX3_mayJoin 69 = .ok (.iaload, 1) := by decide +kernel
theorem dX3_mayJoin_70 : decode cX3_mayJoin 70 = .ok (.iand, 1) := by decide +kernel
theorem dX3_mayJoin_71 : decode cX3_mayJoin 71 = .ok (.ifCond .ne 7, 3) := by decide +kernel
theorem dX3_mayJoin_74 : decode cX3_mayJoin 74 = .ok (.iconst 1, 1) := by decide +kernel
theorem dX3_mayJoin_75 : decode cX3_mayJoin 75 = .ok (.goto 4, 3) := by decide +kernel
theorem dX3_mayJoin_78 : decode cX3_mayJoin 78 = .ok (.iconst 0, 1) := by decide +kernel
theorem dX3_mayJoin_79 : decode cX3_mayJoin 79 = .ok (.ireturn, 1) := by decide +kernel
theorem dX3_heatIn_0 : decode cX3_heatIn 0 = .ok (.aload_n 0, 1) := by decide +kernel
theorem dX3_heatIn_1 : decode cX3_heatIn 1 = .ok (.getfield 9, 3) := by decide +kernel
theorem dX3_heatIn_4 : decode cX3_heatIn 4 = .ok (.iload_n 1, 1) := by decide +kernel
theorem dX3_heatIn_5 : decode cX3_heatIn 5 = .ok (.invokevirtual 48, 3) := by decide +kernel
theorem dX3_heatIn_8 : decode cX3_heatIn 8 = .ok (.ifCond .ne 5, 3) := by decide +kernel
theorem dX3_heatIn_11 : decode cX3_heatIn 11 = .ok (.iconst 0, 1) := by decide +kernel
theorem dX3_heatIn_12 : decode cX3_heatIn 12 = .ok (.ireturn, 1) := by decide +kernel
theorem dX3_heatIn_13 : decode cX3_heatIn 13 = .ok (.aload_n 0, 1) := by decide +kernel
theorem dX3_heatIn_14 : decode cX3_heatIn 14 = .ok (.getfield 15, 3) := by decide +kernel
theorem dX3_heatIn_17 : decode cX3_heatIn 17 = .ok (.iload_n 1, 1) := by decide +kernel
theorem dX3_heatIn_18 : decode cX3_heatIn 18 = .ok (.invokevirtual 34, 3) := by decide +kernel
theorem dX3_heatIn_21 : decode cX3_heatIn 21 = .ok (.istore_n 3, 1) := by decide +kernel
theorem dX3_heatIn_22 : decode cX3_heatIn 22 = .ok (.aload_n 0, 1) := by decide +kernel
theorem dX3_heatIn_23 : decode cX3_heatIn 23 = .ok (.getfield 9, 3) := by decide +kernel
theorem dX3_heatIn_26 : decode cX3_heatIn 26 = .ok (.iload_n 3, 1) := by decide +kernel
theorem dX3_heatIn_27 : decode cX3_heatIn 27 = .ok (.invokevirtual 52, 3) := by decide +kernel
theorem dX3_heatIn_30 : decode cX3_heatIn 30 = .ok (.ifCond .eq 15, 3) := by decide +kernel
theorem dX3_heatIn_33 : decode cX3_heatIn 33 = .ok (.aload_n 0, 1) := by decide +kernel
theorem dX3_heatIn_34 : decode cX3_heatIn 34 = .ok (.getfield 9, 3) := by decide +kernel
theorem dX3_heatIn_37 : decode cX3_heatIn 37 = .ok (.getfield 70, 3) := by decide +kernel
theorem dX3_heatIn_40 : decode cX3_heatIn 40 = .ok (.iload_n 3, 1) := by decide +kernel
theorem dX3_heatIn_41 : decode cX3_heatIn 41 = .ok (.iaload, 1) := by decide +kernel
theorem dX3_heatIn_42 : decode cX3_heatIn 42 = .ok (.goto 4, 3) := by decide +kernel
theorem dX3_heatIn_45 : decode cX3_heatIn 45 = .ok (.iconst 0, 1) := by decide +kernel
theorem dX3_heatIn_46 : decode cX3_heatIn 46 = .ok (.istore 4, 2) := by decide +kernel
theorem dX3_heatIn_48 : decode cX3_heatIn 48 = .ok (.aload_n 0, 1) := by decide +kernel
theorem dX3_heatIn_49 : decode cX3_heatIn 49 = .ok (.getfield 15, 3) := by decide +kernel
theorem dX3_heatIn_52 : decode cX3_heatIn 52 = .ok (.iload_n 1, 1) := by decide +kernel
theorem dX3_heatIn_53 : decode cX3_heatIn 53 = .ok (.invokevirtual 25, 3) := by decide +kernel
theorem dX3_heatIn_56 : decode cX3_heatIn 56 = .ok (.istore 5, 2) := by decide +kernel
theorem dX3_heatIn_58 : decode cX3_heatIn 58 = .ok (.iconst 0, 1) := by decide +kernel
theorem dX3_heatIn_59 : decode cX3_heatIn 59 = .ok (.istore 6, 2) := by decide +kernel
theorem dX3_heatIn_61 : decode cX3_heatIn 61 = .ok (.iload 6, 2) := by decide +kernel
theorem dX3_heatIn_63 : decode cX3_heatIn 63 = .ok (.iload_n 2, 1) := by decide +kernel
theorem dX3_heatIn_64 : decode cX3_heatIn 64 = .ok (.if_icmp .ge 34, 3) := by decide +kernel
theorem dX3_heatIn_67 : decode cX3_heatIn 67 = .ok (.iload 6, 2) := by decide +kernel
theorem dX3_heatIn_69 : decode cX3_heatIn 69 = .ok (.bipush 99, 2) := by decide +kernel
theorem dX3_heatIn_71 : decode cX3_heatIn 71 = .ok (.if_icmp .ge 27, 3) := by decide +kernel
theorem dX3_heatIn_74 : decode cX3_heatIn 74 = .ok (.iload 5, 2) := by decide +kernel
theorem dX3_heatIn_76 : decode cX3_heatIn 76 = .ok (.aload_n 0, 1) := by decide +kernel
theorem dX3_heatIn_77 : decode cX3_heatIn 77 = .ok (.getfield 9, 3) := by decide +kernel
theorem dX3_heatIn_80 : decode cX3_heatIn 80 = .ok (.getfield 73, 3) := by decide +kernel
theorem dX3_heatIn_83 : decode cX3_heatIn 83 = .ok (.iload_n 1, 1) := by decide +kernel
theorem dX3_heatIn_84 : decode cX3_heatIn 84 = .ok (.iaload, 1) := by decide +kernel
theorem dX3_heatIn_85 : decode cX3_heatIn 85 = .ok (.iload 4, 2) := by decide +kernel
theorem dX3_heatIn_87 : decode cX3_heatIn 87 = .ok (.invokestatic 76, 3) := by decide +kernel
theorem dX3_heatIn_90 : decode cX3_heatIn 90 = .ok (.istore 5, 2) := by decide +kernel
theorem dX3_heatIn_92 : decode cX3_heatIn 92 = .ok (.iinc 6 1, 3) := by decide +kernel
theorem dX3_heatIn_95 : decode cX3_heatIn 95 = .ok (.goto (-34), 3) := by decide +kernel
theorem dX3_heatIn_98 : decode cX3_heatIn 98 = .ok (.iload 5, 2) := by decide +kernel
theorem dX3_heatIn_100 : decode cX3_heatIn 100 = .ok (.ireturn, 1) := by decide +kernel
theorem dX3_yearsTillBroken_0 : decode cX3_yearsTillBroken 0 = .ok (.aload_n 0, 1) := by decide +kernel
theorem dX3_yearsTillBroken_1 : decode cX3_yearsTillBroken 1 = .ok (.getfield 9, 3) := by decide +kernel
theorem dX3_yearsTillBroken_4 : decode cX3_yearsTillBroken 4 = .ok (.iload_n 1, 1) := by decide +kernel
theorem dX3_yearsTillBroken_5 : decode cX3_yearsTillBroken 5 = .ok (.invokevirtual 48, 3) := by decide +kernel
theorem dX3_yearsTillBroken_8 : decode cX3_yearsTillBroken 8 = .ok (.ifCond .eq 14, 3) := by decide +kernel
theorem dX3_yearsTillBroken_11 : decode cX3_yearsTillBroken 11 = .ok (.aload_n 0, 1) := by decide +kernel
theorem dX3_yearsTillBroken_12 : decode cX3_yearsTillBroken 12 = .ok (.getfield 9, 3) := by decide +kernel
theorem dX3_yearsTillBroken_15 : decode cX3_yearsTillBroken 15 = .ok (.iload_n 2, 1) := by decide +kernel
theorem dX3_yearsTillBroken_16 : decode cX3_yearsTillBroken 16 = .ok (.invokevirtual 52, 3) := by decide +kernel
theorem dX3_yearsTillBroken_19 : decode cX3_yearsTillBroken 19 = .ok (.ifCond .ne 6, 3) := by decide +kernel
theorem dX3_yearsTillBroken_22 : decode cX3_yearsTillBroken 22 = .ok (.bipush (-9), 2) := by decide +kernel
theorem dX3_yearsTillBroken_24 : decode cX3_yearsTillBroken 24 = .ok (.ireturn, 1) := by decide +kernel
theorem dX3_yearsTillBroken_25 : decode cX3_yearsTillBroken 25 = .ok (.aload_n 0, 1) := by decide +kernel
theorem dX3_yearsTillBroken_26 : decode cX3_yearsTillBroken 26 = .ok (.getfield 15, 3) := by decide +kernel
theorem dX3_yearsTillBroken_29 : decode cX3_yearsTillBroken 29 = .ok (.iload_n 1, 1) := by decide +kernel
theorem dX3_yearsTillBroken_30 : decode cX3_yearsTillBroken 30 = .ok (.invokevirtual 25, 3) := by decide +kernel
theorem dX3_yearsTillBroken_33 : decode cX3_yearsTillBroken 33 = .ok (.istore_n 3, 1) := by decide +kernel
theorem dX3_yearsTillBroken_34 : decode cX3_yearsTillBroken 34 = .ok (.iconst 0, 1) := by decide +kernel
theorem dX3_yearsTillBroken_35 : decode cX3_yearsTillBroken 35 = .ok (.istore 4, 2) := by decide +kernel
theorem dX3_yearsTillBroken_37 : decode cX3_yearsTillBroken 37 = .ok (.iload 4, 2) := by decide +kernel
theorem dX3_yearsTillBroken_39 : decode cX3_yearsTillBroken 39 = .ok (.bipush 99, 2) := by decide +kernel
theorem dX3_yearsTillBroken_41 : decode cX3_yearsTillBroken 41 = .ok (.if_icmp .gt 39, 3) := by decide +kernel
theorem dX3_yearsTillBroken_44 : decode cX3_yearsTillBroken 44 = .ok (.iload_n 3, 1) := by decide +kernel
theorem dX3_yearsTillBroken_45 : decode cX3_yearsTillBroken 45 = .ok (.ifCond .ne 6, 3) := by decide +kernel
theorem dX3_yearsTillBroken_48 : decode cX3_yearsTillBroken 48 = .ok (.iload 4, 2) := by decide +kernel
theorem dX3_yearsTillBroken_50 : decode cX3_yearsTillBroken 50 = .ok (.ireturn, 1) := by decide +kernel
theorem dX3_yearsTillBroken_51 : decode cX3_yearsTillBroken 51 = .ok (.iload_n 3, 1) := by decide +kernel
theorem dX3_yearsTillBroken_52 : decode cX3_yearsTillBroken 52 = .ok (.aload_n 0, 1) := by decide +kernel
theorem dX3_yearsTillBroken_53 : decode cX3_yearsTillBroken 53 = .ok (.getfield 9, 3) := by decide +kernel
theorem dX3_yearsTillBroken_56 : decode cX3_yearsTillBroken 56 = .ok (.getfield 73, 3) := by decide +kernel
theorem dX3_yearsTillBroken_59 : decode cX3_yearsTillBroken 59 = .ok (.iload_n 1, 1) := by decide +kernel
theorem dX3_yearsTillBroken_60 : decode cX3_yearsTillBroken 60 = .ok (.iaload, 1) := by decide +kernel
theorem dX3_yearsTillBroken_61 : decode cX3_yearsTillBroken 61 = .ok (.aload_n 0, 1) := by decide +kernel
theorem dX3_yearsTillBroken_62 : decode cX3_yearsTillBroken 62 = .ok (.getfield 9, 3) := by decide +kernel
theorem dX3_yearsTillBroken_65 : decode cX3_yearsTillBroken 65 = .ok (.getfield 70, 3) := by decide +kernel
theorem dX3_yearsTillBroken_68 : decode cX3_yearsTillBroken 68 = .ok (.iload_n 2, 1) := by decide +kernel
theorem dX3_yearsTillBroken_69 : decode cX3_yearsTillBroken 69 = .ok (.iaload, 1) := by decide +kernel
theorem dX3_yearsTillBroken_70 : decode cX3_yearsTillBroken 70 = .ok (.invokestatic 76, 3) := by decide +kernel
theorem dX3_yearsTillBroken_73 : decode cX3_yearsTillBroken 73 = .ok (.istore_n 3, 1) := by decide +kernel
theorem dX3_yearsTillBroken_74 : decode cX3_yearsTillBroken 74 = .ok (.iinc 4 1, 3) := by decide +kernel
theorem dX3_yearsTillBroken_77 : decode cX3_yearsTillBroken 77 = .ok (.goto (-40), 3) := by decide +kernel
theorem dX3_yearsTillBroken_80 : decode cX3_yearsTillBroken 80 = .ok (.bipush (-9), 2) := by decide +kernel
theorem dX3_yearsTillBroken_82 : decode cX3_yearsTillBroken 82 = .ok (.ireturn, 1) := by decide +kernel
theorem dX3_worthOfFetching_0 : decode cX3_worthOfFetching 0 = .ok (.aload_n 0, 1) := by decide +kernel
theorem dX3_worthOfFetching_1 : decode cX3_worthOfFetching 1 = .ok (.getfield 9, 3) := by decide +kernel
theorem dX3_worthOfFetching_4 : decode cX3_worthOfFetching 4 = .ok (.iload_n 1, 1) := by decide +kernel
theorem dX3_worthOfFetching_5 : decode cX3_worthOfFetching 5 = .ok (.invokevirtual 48, 3) := by decide +kernel
theorem dX3_worthOfFetching_8 : decode cX3_worthOfFetching 8 = .ok (.ifCond .ne 5, 3) := by decide +kernel
theorem dX3_worthOfFetching_11 : decode cX3_worthOfFetching 11 = .ok (.iconst 0, 1) := by decide +kernel
theorem dX3_worthOfFetching_12 : decode cX3_worthOfFetching 12 = .ok (.ireturn, 1) := by decide +kernel
theorem dX3_worthOfFetching_13 : decode cX3_worthOfFetching 13 = .ok (.iconst 0, 1) := by decide +kernel
theorem dX3_worthOfFetching_14 : decode cX3_worthOfFetching 14 = .ok (.bipush 50, 2) := by decide +kernel
theorem dX3_worthOfFetching_16 : decode cX3_worthOfFetching 16 = .ok (.aload_n 0, 1) := by decide +kernel
theorem dX3_worthOfFetching_17 : decode cX3_worthOfFetching 17 = .ok (.iload_n 1, 1) := by decide +kernel
theorem dX3_worthOfFetching_18 : decode cX3_worthOfFetching 18 = .ok (.iload_n 2, 1) := by decide +kernel
theorem dX3_worthOfFetching_19 : decode cX3_worthOfFetching 19 = .ok (.invokevirtual 80, 3) := by decide +kernel
theorem dX3_worthOfFetching_22 : decode cX3_worthOfFetching 22 = .ok (.isub, 1) := by decide +kernel
theorem dX3_worthOfFetching_23 : decode cX3_worthOfFetching 23 = .ok (.invokestatic 84, 3) := by decide +kernel
theorem dX3_worthOfFetching_26 : decode cX3_worthOfFetching 26 = .ok (.iconst 2, 1) := by decide +kernel
theorem dX3_worthOfFetching_27 : decode cX3_worthOfFetching 27 = .ok (.iload_n 2, 1) := by decide +kernel
theorem dX3_worthOfFetching_28 : decode cX3_worthOfFetching 28 = .ok (.imul, 1) := by decide +kernel
theorem dX3_worthOfFetching_29 : decode cX3_worthOfFetching 29 = .ok (.isub, 1) := by decide +kernel
theorem dX3_worthOfFetching_30 : decode cX3_worthOfFetching 30 = .ok (.istore_n 3, 1) := by decide +kernel
theorem dX3_worthOfFetching_31 : decode cX3_worthOfFetching 31 = .ok (.aload_n 0, 1) := by decide +kernel
theorem dX3_worthOfFetching_32 : decode cX3_worthOfFetching 32 = .ok (.getfield 15, 3) := by decide +kernel
theorem dX3_worthOfFetching_35 : decode cX3_worthOfFetching 35 = .ok (.invokevirtual 89, 3) := by decide +kernel
theorem dX3_worthOfFetching_38 : decode cX3_worthOfFetching 38 = .ok (.iload_n 2, 1) := by decide +kernel
theorem dX3_worthOfFetching_39 : decode cX3_worthOfFetching 39 = .ok (.iadd, 1) := by decide +kernel
theorem dX3_worthOfFetching_40 : decode cX3_worthOfFetching 40 = .ok (.aload_n 0, 1) := by decide +kernel
theorem dX3_worthOfFetching_41 : decode cX3_worthOfFetching 41 = .ok (.getfield 9, 3) := by decide +kernel
theorem dX3_worthOfFetching_44 : decode cX3_worthOfFetching 44 = .ok (.getfield 93, 3) := by decide +kernel
theorem dX3_worthOfFetching_47 : decode cX3_worthOfFetching 47 = .ok (.iload_n 1, 1) := by decide +kernel
theorem dX3_worthOfFetching_48 : decode cX3_worthOfFetching 48 = .ok (.iaload, 1) := by decide +kernel
theorem dX3_worthOfFetching_49 : decode cX3_worthOfFetching 49 = .ok (.if_icmp .le 10, 3) := by decide +kernel
theorem dX3_worthOfFetching_52 : decode cX3_worthOfFetching 52 = .ok (.iload_n 3, 1) := by decide +kernel
theorem dX3_worthOfFetching_53 : decode cX3_worthOfFetching 53 = .ok (.bipush 30, 2) := by decide +kernel
theorem dX3_worthOfFetching_55 : decode cX3_worthOfFetching 55 = .ok (.isub, 1) := by decide +kernel
theorem dX3_worthOfFetching_56 : decode cX3_worthOfFetching 56 = .ok (.goto 4, 3) := by decide +kernel
theorem dX3_worthOfFetching_59 : decode cX3_worthOfFetching 59 = .ok (.iload_n 3, 1) := by decide +kernel
theorem dX3_worthOfFetching_60 : decode cX3_worthOfFetching 60 = .ok (.ireturn, 1) := by decide +kernel
theorem dX3_heatNextYear_0 : decode cX3_heatNextYear 0 = .ok (.iload_n 0, 1) := by decide +kernel
theorem dX3_heatNextYear_1 : decode cX3_heatNextYear 1 = .ok (.ifCond .ne 5, 3) := by decide +kernel
theorem dX3_heatNextYear_4 : decode cX3_heatNextYear 4 = .ok (.iconst 0, 1) := by decide +kernel
theorem dX3_heatNextYear_5 : decode cX3_heatNextYear 5 = .ok (.ireturn, 1) := by decide +kernel
theorem dX3_heatNextYear_6 : decode cX3_heatNextYear 6 = .ok (.iconst 0, 1) := by decide +kernel
theorem dX3_heatNextYear_7 : decode cX3_heatNextYear 7 = .ok (.bipush 99, 2) := by decide +kernel
theorem dX3_heatNextYear_9 : decode cX3_heatNextYear 9 = .ok (.iload_n 0, 1) := by decide +kernel
theorem dX3_heatNextYear_10 : decode cX3_heatNextYear 10 = .ok (.iload_n 1, 1) := by decide +kernel
theorem dX3_heatNextYear_11 : decode cX3_heatNextYear 11 = .ok (.iadd, 1) := by decide +kernel
theorem dX3_heatNextYear_12 : decode cX3_heatNextYear 12 = .ok (.invokestatic 96, 3) := by decide +kernel
theorem dX3_heatNextYear_15 : decode cX3_heatNextYear 15 = .ok (.iload_n 2, 1) := by decide +kernel
theorem dX3_heatNextYear_16 : decode cX3_heatNextYear 16 = .ok (.isub, 1) := by decide +kernel
theorem dX3_heatNextYear_17 : decode cX3_heatNextYear 17 = .ok (.invokestatic 84, 3) := by decide +kernel
theorem dX3_heatNextYear_20 : decode cX3_heatNextYear 20 = .ok (.ireturn, 1) := by decide +kernel
theorem dX4_init_0 : decode cX4_init 0 = .ok (.aload_n 0, 1) := by decide +kernel
theorem dX4_init_1 : decode cX4_init 1 = .ok (.invokespecial 1, 3) := by decide +kernel
theorem dX4_init_4 : decode cX4_init 4 = .ok (.aload_n 0, 1) := by decide +kernel
theorem dX4_init_5 : decode cX4_init 5 = .ok (.aload_n 1, 1) := by decide +kernel
theorem dX4_init_6 : decode cX4_init 6 = .ok (.putfield 7, 3) := by decide +kernel
theorem dX4_init_9 : decode cX4_init 9 = .ok (.return_, 1) := by decide +kernel
theorem dX4_asTemper_0 : decode cX4_asTemper 0 = .ok (.aload_n 0, 1) := by decide +kernel
theorem dX4_asTemper_1 : decode cX4_asTemper 1 = .ok (.dup, 1) := by decide +kernel
theorem dX4_asTemper_2 : decode cX4_asTemper 2 = .ok (.getfield 13, 3) := by decide +kernel
theorem dX4_asTemper_5 : decode cX4_asTemper 5 = .ok (.lconst 1, 1) := by decide +kernel
theorem dX4_asTemper_6 : decode cX4_asTemper 6 = .ok (.ladd, 1) := by decide +kernel
theorem dX4_asTemper_7 : decode cX4_asTemper 7 = .ok (.putfield 13, 3) := by decide +kernel
theorem dX4_asTemper_10 : decode cX4_asTemper 10 = .ok (.aload_n 0, 1) := by decide +kernel
theorem dX4_asTemper_11 : decode cX4_asTemper 11 = .ok (.getfield 7, 3) := by decide +kernel
theorem dX4_asTemper_14 : decode cX4_asTemper 14 = .ok (.getfield 17, 3) := by decide +kernel
theorem dX4_asTemper_17 : decode cX4_asTemper 17 = .ok (.iload_n 1, 1) := by decide +kernel
theorem dX4_asTemper_18 : decode cX4_asTemper 18 = .ok (.invokevirtual 23, 3) := by decide +kernel
theorem dX4_asTemper_21 : decode cX4_asTemper 21 = .ok (.ireturn, 1) := by decide +kernel
theorem dX4_asRage_0 : decode cX4_asRage 0 = .ok (.aload_n 0, 1) := by decide +kernel
theorem dX4_asRage_1 : decode cX4_asRage 1 = .ok (.dup, 1) := by decide +kernel
theorem dX4_asRage_2 : decode cX4_asRage 2 = .ok (.getfield 13, 3) := by decide +kernel
theorem dX4_asRage_5 : decode cX4_asRage 5 = .ok (.ldc2_w 29, 3) := by decide +kernel
theorem dX4_asRage_8 : decode cX4_asRage 8 = .ok (.ladd, 1) := by decide +kernel
theorem dX4_asRage_9 : decode cX4_asRage 9 = .ok (.putfield 13, 3) := by decide +kernel
theorem dX4_asRage_12 : decode cX4_asRage 12 = .ok (.aload_n 0, 1) := by decide +kernel
theorem dX4_asRage_13 : decode cX4_asRage 13 = .ok (.iload_n 1, 1) := by decide +kernel
theorem dX4_asRage_14 : decode cX4_asRage 14 = .ok (.invokevirtual 31, 3) := by decide +kernel
theorem dX4_asRage_17 : decode cX4_asRage 17 = .ok (.aload_n 0, 1) := by decide +kernel
theorem dX4_asRage_18 : decode cX4_asRage 18 = .ok (.getfield 7, 3) := by decide +kernel
theorem dX4_asRage_21 : decode cX4_asRage 21 = .ok (.getfield 34, 3) := by decide +kernel
theorem dX4_asRage_24 : decode cX4_asRage 24 = .ok (.iload_n 1, 1) := by decide +kernel
theorem dX4_asRage_25 : decode cX4_asRage 25 = .ok (.invokevirtual 38, 3) := by decide +kernel
theorem dX4_asRage_28 : decode cX4_asRage 28 = .ok (.ifCond .eq 18, 3) := by decide +kernel
theorem dX4_asRage_31 : decode cX4_asRage 31 = .ok (.aload_n 0, 1) := by decide +kernel
theorem dX4_asRage_32 : decode cX4_asRage 32 = .ok (.getfield 7, 3) := by decide +kernel
theorem dX4_asRage_35 : decode cX4_asRage 35 = .ok (.getfield 34, 3) := by decide +kernel
theorem dX4_asRage_38 : decode cX4_asRage 38 = .ok (.getfield 44, 3) := by decide +kernel
theorem dX4_asRage_41 : decode cX4_asRage 41 = .ok (.iload_n 1, 1) := by decide +kernel
theorem dX4_asRage_42 : decode cX4_asRage 42 = .ok (.iaload, 1) := by decide +kernel
theorem dX4_asRage_43 : decode cX4_asRage 43 = .ok (.goto 4, 3) := by decide +kernel
theorem dX4_asRage_46 : decode cX4_asRage 46 = .ok (.iconst 0, 1) := by decide +kernel
theorem dX4_asRage_47 : decode cX4_asRage 47 = .ok (.iadd, 1) := by decide +kernel
theorem dX4_asRage_48 : decode cX4_asRage 48 = .ok (.ireturn, 1) := by decide +kernel
theorem dX4_asSulk_0 : decode cX4_asSulk 0 = .ok (.aload_n 0, 1) := by decide +kernel
theorem dX4_asSulk_1 : decode cX4_asSulk 1 = .ok (.dup, 1) := by decide +kernel
theorem dX4_asSulk_2 : decode cX4_asSulk 2 = .ok (.getfield 13, 3) := by decide +kernel
theorem dX4_asSulk_5 : decode cX4_asSulk 5 = .ok (.ldc2_w 48, 3) := by decide +kernel
theorem dX4_asSulk_8 : decode cX4_asSulk 8 = .ok (.ladd, 1) := by decide +kernel
theorem dX4_asSulk_9 : decode cX4_asSulk 9 = .ok (.putfield 13, 3) := by decide +kernel
theorem dX4_asSulk_12 : decode cX4_asSulk 12 = .ok (.aload_n 0, 1) := by decide +kernel
theorem dX4_asSulk_13 : decode cX4_asSulk 13 = .ok (.iload_n 1, 1) := by decide +kernel
theorem dX4_asSulk_14 : decode cX4_asSulk 14 = .ok (.invokevirtual 31, 3) := by decide +kernel
theorem dX4_asSulk_17 : decode cX4_asSulk 17 = .ok (.aload_n 0, 1) := by decide +kernel
theorem dX4_asSulk_18 : decode cX4_asSulk 18 = .ok (.getfield 7, 3) := by decide +kernel
theorem dX4_asSulk_21 : decode cX4_asSulk 21 = .ok (.invokevirtual 50, 3) := by decide +kernel
theorem dX4_asSulk_24 : decode cX4_asSulk 24 = .ok (.invokestatic 54, 3) := by decide +kernel
theorem dX4_asSulk_27 : decode cX4_asSulk 27 = .ok (.isub, 1) := by decide +kernel
theorem dX4_asSulk_28 : decode cX4_asSulk 28 = .ok (.ireturn, 1) := by decide +kernel
theorem dX4_asStorm_0 : decode cX4_asStorm 0 = .ok (.aload_n 0, 1) := by decide +kernel
theorem dX4_asStorm_1 : decode cX4_asStorm 1 = .ok (.dup, 1) := by decide +kernel
theorem dX4_asStorm_2 : decode cX4_asStorm 2 = .ok (.getfield 13, 3) := by decide +kernel
theorem dX4_asStorm_5 : decode cX4_asStorm 5 = .ok (.ldc2_w 59, 3) := by decide +kernel
theorem dX4_asStorm_8 : decode cX4_asStorm 8 = .ok (.ladd, 1) := by decide +kernel
theorem dX4_asStorm_9 : decode cX4_asStorm 9 = .ok (.putfield 13, 3) := by decide +kernel
theorem dX4_asStorm_12 : decode cX4_asStorm 12 = .ok (.aload_n 0, 1) := by decide +kernel
theorem dX4_asStorm_13 : decode cX4_asStorm 13 = .ok (.iload_n 1, 1) := by decide +kernel
theorem dX4_asStorm_14 : decode cX4_asStorm 14 = .ok (.invokevirtual 61, 3) := by decide +kernel
theorem dX4_asStorm_17 : decode cX4_asStorm 17 = .ok (.iconst 2, 1) := by decide +kernel
theorem dX4_asStorm_18 : decode cX4_asStorm 18 = .ok (.imul, 1) := by decide +kernel
theorem dX4_asStorm_19 : decode cX4_asStorm 19 = .ok (.ireturn, 1) := by decide +kernel
theorem dX4_asGrudge_0 : decode cX4_asGrudge 0 = .ok (.aload_n 0, 1) := by decide +kernel
theorem dX4_asGrudge_1 : decode cX4_asGrudge 1 = .ok (.dup, 1) := by decide +kernel
theorem dX4_asGrudge_2 : decode cX4_asGrudge 2 = .ok (.getfield 13, 3) := by decide +kernel
theorem dX4_asGrudge_5 : decode cX4_asGrudge 5 = .ok (.ldc2_w 64, 3) := by decide +kernel
theorem dX4_asGrudge_8 : decode cX4_asGrudge 8 = .ok (.ladd, 1) := by decide +kernel
theorem dX4_asGrudge_9 : decode cX4_asGrudge 9 = .ok (.putfield 13, 3) := by decide +kernel
theorem dX4_asGrudge_12 : decode cX4_asGrudge 12 = .ok (.aload_n 0, 1) := by decide +kernel
theorem dX4_asGrudge_13 : decode cX4_asGrudge 13 = .ok (.iload_n 1, 1) := by decide +kernel
theorem dX4_asGrudge_14 : decode cX4_asGrudge 14 = .ok (.invokevirtual 66, 3) := by decide +kernel
theorem dX4_asGrudge_17 : decode cX4_asGrudge 17 = .ok (.iload_n 1, 1) := by decide +kernel
theorem dX4_asGrudge_18 : decode cX4_asGrudge 18 = .ok (.iadd, 1) := by decide +kernel
theorem dX4_asGrudge_19 : decode cX4_asGrudge 19 = .ok (.ireturn, 1) := by decide +kernel
theorem dX4_asPet_0 : decode cX4_asPet 0 = .ok (.aload_n 0, 1) := by decide +kernel
theorem dX4_asPet_1 : decode cX4_asPet 1 = .ok (.dup, 1) := by decide +kernel
theorem dX4_asPet_2 : decode cX4_asPet 2 = .ok (.getfield 13, 3) := by decide +kernel
theorem dX4_asPet_5 : decode cX4_asPet 5 = .ok (.ldc2_w 69, 3) := by decide +kernel
theorem dX4_asPet_8 : decode cX4_asPet 8 = .ok (.ladd, 1) := by decide +kernel
theorem dX4_asPet_9 : decode cX4_asPet 9 = .ok (.putfield 13, 3) := by decide +kernel
theorem dX4_asPet_12 : decode cX4_asPet 12 = .ok (.aload_n 0, 1) := by decide +kernel
theorem dX4_asPet_13 : decode cX4_asPet 13 = .ok (.iload_n 1, 1) := by decide +kernel
theorem dX4_asPet_14 : decode cX4_asPet 14 = .ok (.invokevirtual 31, 3) := by decide +kernel
theorem dX4_asPet_17 : decode cX4_asPet 17 = .ok (.aload_n 0, 1) := by decide +kernel
theorem dX4_asPet_18 : decode cX4_asPet 18 = .ok (.getfield 7, 3) := by decide +kernel
theorem dX4_asPet_21 : decode cX4_asPet 21 = .ok (.getfield 17, 3) := by decide +kernel
theorem dX4_asPet_24 : decode cX4_asPet 24 = .ok (.invokevirtual 71, 3) := by decide +kernel
theorem dX4_asPet_27 : decode cX4_asPet 27 = .ok (.iadd, 1) := by decide +kernel
theorem dX4_asPet_28 : decode cX4_asPet 28 = .ok (.ireturn, 1) := by decide +kernel
theorem dX5_init_0 : decode cX5_init 0 = .ok (.aload_n 0, 1) := by decide +kernel
theorem dX5_init_1 : decode cX5_init 1 = .ok (.invokespecial 3, 3) := by decide +kernel
theorem dX5_init_4 : decode cX5_init 4 = .ok (.aload_n 0, 1) := by decide +kernel
theorem dX5_init_5 : decode cX5_init 5 = .ok (.iconst 4, 1) := by decide +kernel
theorem dX5_init_6 : decode cX5_init 6 = .ok (.newarray .int, 2) := by decide +kernel
theorem dX5_init_8 : decode cX5_init 8 = .ok (.putfield 9, 3) := by decide +kernel
theorem dX5_init_11 : decode cX5_init 11 = .ok (.aload_n 0, 1) := by decide +kernel
theorem dX5_init_12 : decode cX5_init 12 = .ok (.iconst 4, 1) := by decide +kernel
theorem dX5_init_13 : decode cX5_init 13 = .ok (.newarray .int, 2) := by decide +kernel
theorem dX5_init_15 : decode cX5_init 15 = .ok (.putfield 15, 3) := by decide +kernel
theorem dX5_init_18 : decode cX5_init 18 = .ok (.aload_n 0, 1) := by decide +kernel
theorem dX5_init_19 : decode cX5_init 19 = .ok (.aload_n 1, 1) := by decide +kernel
theorem dX5_init_20 : decode cX5_init 20 = .ok (.putfield 18, 3) := by decide +kernel
theorem dX5_init_23 : decode cX5_init 23 = .ok (.return_, 1) := by decide +kernel
theorem dX5_append_0 : decode cX5_append 0 = .ok (.aload_n 0, 1) := by decide +kernel
theorem dX5_append_1 : decode cX5_append 1 = .ok (.getfield 22, 3) := by decide +kernel
theorem dX5_append_4 : decode cX5_append 4 = .ok (.iconst 4, 1) := by decide +kernel
theorem dX5_append_5 : decode cX5_append 5 = .ok (.if_icmp .lt 5, 3) := by decide +kernel
theorem dX5_append_8 : decode cX5_append 8 = .ok (.iconst 0, 1) := by decide +kernel
theorem dX5_append_9 : decode cX5_append 9 = .ok (.ireturn, 1) := by decide +kernel
theorem dX5_append_10 : decode cX5_append 10 = .ok (.aload_n 0, 1) := by decide +kernel
theorem dX5_append_11 : decode cX5_append 11 = .ok (.getfield 9, 3) := by decide +kernel
theorem dX5_append_14 : decode cX5_append 14 = .ok (.aload_n 0, 1) := by decide +kernel
theorem dX5_append_15 : decode cX5_append 15 = .ok (.getfield 22, 3) := by decide +kernel
theorem dX5_append_18 : decode cX5_append 18 = .ok (.iload_n 1, 1) := by decide +kernel
theorem dX5_append_19 : decode cX5_append 19 = .ok (.iastore, 1) := by decide +kernel
theorem dX5_append_20 : decode cX5_append 20 = .ok (.aload_n 0, 1) := by decide +kernel
theorem dX5_append_21 : decode cX5_append 21 = .ok (.getfield 15, 3) := by decide +kernel
theorem dX5_append_24 : decode cX5_append 24 = .ok (.aload_n 0, 1) := by decide +kernel
theorem dX5_append_25 : decode cX5_append 25 = .ok (.getfield 22, 3) := by decide +kernel
theorem dX5_append_28 : decode cX5_append 28 = .ok (.iload_n 2, 1) := by decide +kernel
theorem dX5_append_29 : decode cX5_append 29 = .ok (.iastore, 1) := by decide +kernel
theorem dX5_append_30 : decode cX5_append 30 = .ok (.aload_n 0, 1) := by decide +kernel
theorem dX5_append_31 : decode cX5_append 31 = .ok (.dup, 1) := by decide +kernel
theorem dX5_append_32 : decode cX5_append 32 = .ok (.getfield 22, 3) := by decide +kernel
theorem dX5_append_35 : decode cX5_append 35 = .ok (.iconst 1, 1) := by decide +kernel
theorem dX5_append_36 : decode cX5_append 36 = .ok (.iadd, 1) := by decide +kernel
theorem dX5_append_37 : decode cX5_append 37 = .ok (.putfield 22, 3) := by decide +kernel
theorem dX5_append_40 : decode cX5_append 40 = .ok (.iconst 1, 1) := by decide +kernel
theorem dX5_append_41 : decode cX5_append 41 = .ok (.ireturn, 1) := by decide +kernel
theorem dX5_empty_0 : decode cX5_empty 0 = .ok (.aload_n 0, 1) := by decide +kernel
theorem dX5_empty_1 : decode cX5_empty 1 = .ok (.getfield 22, 3) := by decide +kernel
theorem dX5_empty_4 : decode cX5_empty 4 = .ok (.istore_n 1, 1) := by decide +kernel
theorem dX5_empty_5 : decode cX5_empty 5 = .ok (.aload_n 0, 1) := by decide +kernel
theorem dX5_empty_6 : decode cX5_empty 6 = .ok (.iconst 0, 1) := by decide +kernel
theorem dX5_empty_7 : decode cX5_empty 7 = .ok (.putfield 22, 3) := by decide +kernel
theorem dX5_empty_10 : decode cX5_empty 10 = .ok (.iload_n 1, 1) := by decide +kernel
theorem dX5_empty_11 : decode cX5_empty 11 = .ok (.ireturn, 1) := by decide +kernel
theorem dX5_suspects_0 : decode cX5_suspects 0 = .ok (.iconst 0, 1) := by decide +kernel
theorem dX5_suspects_1 : decode cX5_suspects 1 = .ok (.istore_n 1, 1) := by decide +kernel
theorem dX5_suspects_2 : decode cX5_suspects 2 = .ok (.iconst 0, 1) := by decide +kernel
theorem dX5_suspects_3 : decode cX5_suspects 3 = .ok (.istore_n 2, 1) := by decide +kernel
theorem dX5_suspects_4 : decode cX5_suspects 4 = .ok (.iload_n 2, 1) := by decide +kernel
theorem dX5_suspects_5 : decode cX5_suspects 5 = .ok (.aload_n 0, 1) := by decide +kernel
theorem dX5_suspects_6 : decode cX5_suspects 6 = .ok (.getfield 18, 3) := by decide +kernel
theorem dX5_suspects_9 : decode cX5_suspects 9 = .ok (.getfield 26, 3) := by decide +kernel
theorem dX5_suspects_12 : decode cX5_suspects 12 = .ok (.getfield 32, 3) := by decide +kernel
theorem dX5_suspects_15 : decode cX5_suspects 15 = .ok (.if_icmp .ge 34, 3) := by decide +kernel
theorem dX5_suspects_18 : decode cX5_suspects 18 = .ok (.aload_n 0, 1) := by decide +kernel
theorem dX5_suspects_19 : decode cX5_suspects 19 = .ok (.aload_n 0, 1) := by decide +kernel
theorem dX5_suspects_20 : decode cX5_suspects 20 = .ok (.getfield 18, 3) := by decide +kernel
theorem dX5_suspects_23 : decode cX5_suspects 23 = .ok (.getfield 37, 3) := by decide +kernel
theorem dX5_suspects_26 : decode cX5_suspects 26 = .ok (.iload_n 2, 1) := by decide +kernel
theorem dX5_suspects_27 : decode cX5_suspects 27 = .ok (.invokevirtual 41, 3) := by decide +kernel
theorem dX5_suspects_30 : decode cX5_suspects 30 = .ok (.invokevirtual 47, 3) := by decide +kernel
theorem dX5_suspects_33 : decode cX5_suspects 33 = .ok (.ifCond .eq 10, 3) := by decide +kernel
theorem dX5_suspects_36 : decode cX5_suspects 36 = .ok (.iload_n 1, 1) := by decide +kernel
theorem dX5_suspects_37 : decode cX5_suspects 37 = .ok (.iload_n 2, 1) := by decide +kernel
theorem dX5_suspects_38 : decode cX5_suspects 38 = .ok (.invokestatic 51, 3) := by decide +kernel
theorem dX5_suspects_41 : decode cX5_suspects 41 = .ok (.ior, 1) := by decide +kernel
theorem dX5_suspects_42 : decode cX5_suspects 42 = .ok (.istore_n 1, 1) := by decide +kernel
theorem dX5_suspects_43 : decode cX5_suspects 43 = .ok (.iinc 2 1, 3) := by decide +kernel
theorem dX5_suspects_46 : decode cX5_suspects 46 = .ok (.goto (-42), 3) := by decide +kernel
theorem dX5_suspects_49 : decode cX5_suspects 49 = .ok (.iload_n 1, 1) := by decide +kernel
theorem dX5_suspects_50 : decode cX5_suspects 50 = .ok (.ireturn, 1) := by decide +kernel
theorem dX5_nextBang_0 : decode cX5_nextBang 0 = .ok (.aload_n 0, 1) := by decide +kernel
theorem dX5_nextBang_1 : decode cX5_nextBang 1 = .ok (.invokevirtual 54, 3) := by decide +kernel
theorem dX5_nextBang_4 : decode cX5_nextBang 4 = .ok (.istore_n 1, 1) := by decide +kernel
theorem dX5_nextBang_5 : decode cX5_nextBang 5 = .ok (.iload_n 1, 1) := by decide +kernel
theorem dX5_nextBang_6 : decode cX5_nextBang 6 = .ok (.invokestatic 58, 3) := by decide +kernel
theorem dX5_nextBang_9 : decode cX5_nextBang 9 = .ok (.istore_n 2, 1) := by decide +kernel
theorem dX5_nextBang_10 : decode cX5_nextBang 10 = .ok (.iload_n 2, 1) := by decide +kernel
theorem dX5_nextBang_11 : decode cX5_nextBang 11 = .ok (.istore_n 3, 1) := by decide +kernel
theorem dX5_nextBang_12 : decode cX5_nextBang 12 = .ok (.bipush (-9), 2) := by decide +kernel
theorem dX5_nextBang_14 : decode cX5_nextBang 14 = .ok (.istore 4, 2) := by decide +kernel
theorem dX5_nextBang_16 : decode cX5_nextBang 16 = .ok (.iconst 0, 1) := by decide +kernel
theorem dX5_nextBang_17 : decode cX5_nextBang 17 = .ok (.istore 5, 2) := by decide +kernel
theorem dX5_nextBang_19 : decode cX5_nextBang 19 = .ok (.iload 5, 2) := by decide +kernel
theorem dX5_nextBang_21 : decode cX5_nextBang 21 = .ok (.bipush 99, 2) := by decide +kernel
theorem dX5_nextBang_23 : decode cX5_nextBang 23 = .ok (.if_icmp .gt 42, 3) := by decide +kernel
theorem dX5_nextBang_26 : decode cX5_nextBang 26 = .ok (.aload_n 0, 1) := by decide +kernel
theorem dX5_nextBang_27 : decode cX5_nextBang 27 = .ok (.iload_n 1, 1) := by decide +kernel
theorem dX5_nextBang_28 : decode cX5_nextBang 28 = .ok (.iload 5, 2) := by decide +kernel
theorem dX5_nextBang_30 : decode cX5_nextBang 30 = .ok (.invokevirtual 63, 3) := by decide +kernel
theorem dX5_nextBang_33 : decode cX5_nextBang 33 = .ok (.istore 6, 2) := by decide +kernel
theorem dX5_nextBang_35 : decode cX5_nextBang 35 = .ok (.iload 6, 2) := by decide +kernel
theorem dX5_nextBang_37 : decode cX5_nextBang 37 = .ok (.iload_n 2, 1) := by decide +kernel
theorem dX5_nextBang_38 : decode cX5_nextBang 38 = .ok (.iload 6, 2) := by decide +kernel
theorem dX5_nextBang_40 : decode cX5_nextBang 40 = .ok (.isub, 1) := by decide +kernel
theorem dX5_nextBang_41 : decode cX5_nextBang 41 = .ok (.invokestatic 67, 3) := by decide +kernel
theorem dX5_nextBang_44 : decode cX5_nextBang 44 = .ok (.istore 7, 2) := by decide +kernel
theorem dX5_nextBang_46 : decode cX5_nextBang 46 = .ok (.iload 7, 2) := by decide +kernel
theorem dX5_nextBang_48 : decode cX5_nextBang 48 = .ok (.iload_n 3, 1) := by decide +kernel
theorem dX5_nextBang_49 : decode cX5_nextBang 49 = .ok (.if_icmp .ge 10, 3) := by decide +kernel
theorem dX5_nextBang_52 : decode cX5_nextBang 52 = .ok (.iload 7, 2) := by decide +kernel
theorem dX5_nextBang_54 : decode cX5_nextBang 54 = .ok (.istore_n 3, 1) := by decide +kernel
theorem dX5_nextBang_55 : decode cX5_nextBang 55 = .ok (.iload 5, 2) := by decide +kernel
theorem dX5_nextBang_57 : decode cX5_nextBang 57 = .ok (.istore 4, 2) := by decide +kernel
theorem dX5_nextBang_59 : decode cX5_nextBang 59 = .ok (.iinc 5 1, 3) := by decide +kernel
theorem dX5_nextBang_62 : decode cX5_nextBang 62 = .ok (.goto (-43), 3) := by decide +kernel
theorem dX5_nextBang_65 : decode cX5_nextBang 65 = .ok (.iload 4, 2) := by decide +kernel
theorem dX5_nextBang_67 : decode cX5_nextBang 67 = .ok (.ireturn, 1) := by decide +kernel
theorem dX5_countBanging_0 : decode cX5_countBanging 0 = .ok (.iconst 0, 1) := by decide +kernel
theorem dX5_countBanging_1 : decode cX5_countBanging 1 = .ok (.istore_n 3, 1) := by decide +kernel
theorem dX5_countBanging_2 : decode cX5_countBanging 2 = .ok (.iconst 0, 1) := by decide +kernel
theorem dX5_countBanging_3 : decode cX5_countBanging 3 = .ok (.istore 4, 2) := by decide +kernel
theorem dX5_countBanging_5 : decode cX5_countBanging 5 = .ok (.iload 4, 2) := by decide +kernel
theorem dX5_countBanging_7 : decode cX5_countBanging 7 = .ok (.aload_n 0, 1) := by decide +kernel
theorem dX5_countBanging_8 : decode cX5_countBanging 8 = .ok (.getfield 18, 3) := by decide +kernel
theorem dX5_countBanging_11 : decode cX5_countBanging 11 = .ok (.getfield 26, 3) := by decide +kernel
theorem dX5_countBanging_14 : decode cX5_countBanging 14 = .ok (.getfield 32, 3) := by decide +kernel
theorem dX5_countBanging_17 : decode cX5_countBanging 17 = .ok (.if_icmp .ge 38, 3) := by decide +kernel
theorem dX5_countBanging_20 : decode cX5_countBanging 20 = .ok (.iload_n 1, 1) := by decide +kernel
theorem dX5_countBanging_21 : decode cX5_countBanging 21 = .ok (.iload 4, 2) := by decide +kernel
theorem dX5_countBanging_23 : decode cX5_countBanging 23 = .ok (.invokestatic 51, 3) := by decide +kernel
theorem dX5_countBanging_26 : decode cX5_countBanging 26 = .ok (.iand, 1) := by decide +kernel
theorem dX5_countBanging_27 : decode cX5_countBanging 27 = .ok (.ifCond .eq 22, 3) := by decide +kernel
theorem dX5_countBanging_30 : decode cX5_countBanging 30 = .ok (.aload_n 0, 1) := by decide +kernel
theorem dX5_countBanging_31 : decode cX5_countBanging 31 = .ok (.getfield 18, 3) := by decide +kernel
theorem dX5_countBanging_34 : decode cX5_countBanging 34 = .ok (.getfield 37, 3) := by decide +kernel
theorem dX5_countBanging_37 : decode cX5_countBanging 37 = .ok (.iload 4, 2) := by decide +kernel
theorem dX5_countBanging_39 : decode cX5_countBanging 39 = .ok (.invokevirtual 41, 3) := by decide +kernel
theorem dX5_countBanging_42 : decode cX5_countBanging 42 = .ok (.iload_n 2, 1) := by decide +kernel
theorem dX5_countBanging_43 : decode cX5_countBanging 43 = .ok (.if_icmp .lt 6, 3) := by decide +kernel
theorem dX5_countBanging_46 : decode cX5_countBanging 46 = .ok (.iinc 3 1, 3) := by decide +kernel
theorem dX5_countBanging_49 : decode cX5_countBanging 49 = .ok (.iinc 4 1, 3) := by decide +kernel
theorem dX5_countBanging_52 : decode cX5_countBanging 52 = .ok (.goto (-47), 3) := by decide +kernel
theorem dX5_countBanging_55 : decode cX5_countBanging 55 = .ok (.iload_n 3, 1) := by decide +kernel
theorem dX5_countBanging_56 : decode cX5_countBanging 56 = .ok (.ireturn, 1) := by decide +kernel
theorem dX5_isAsHeard_0 : decode cX5_isAsHeard 0 = .ok (.iconst 0, 1) := by decide +kernel
theorem dX5_isAsHeard_1 : decode cX5_isAsHeard 1 = .ok (.istore_n 2, 1) := by decide +kernel
theorem dX5_isAsHeard_2 : decode cX5_isAsHeard 2 = .ok (.iload_n 2, 1) := by decide +kernel
theorem dX5_isAsHeard_3 : decode cX5_isAsHeard 3 = .ok (.aload_n 0, 1) := by decide +kernel
theorem dX5_isAsHeard_4 : decode cX5_isAsHeard 4 = .ok (.getfield 22, 3) := by decide +kernel
theorem dX5_isAsHeard_7 : decode cX5_isAsHeard 7 = .ok (.if_icmp .ge 51, 3) := by decide +kernel
theorem dX5_isAsHeard_10 : decode cX5_isAsHeard 10 = .ok (.iload_n 2, 1) := by decide +kernel
theorem dX5_isAsHeard_11 : decode cX5_isAsHeard 11 = .ok (.iconst 4, 1) := by decide +kernel
theorem dX5_isAsHeard_12 : decode cX5_isAsHeard 12 = .ok (.if_icmp .ge 46, 3) := by decide +kernel
theorem dX5_isAsHeard_15 : decode cX5_isAsHeard 15 = .ok (.iload_n 1, 1) := by decide +kernel
theorem dX5_isAsHeard_16 : decode cX5_isAsHeard 16 = .ok (.aload_n 0, 1) := by decide +kernel
theorem dX5_isAsHeard_17 : decode cX5_isAsHeard 17 = .ok (.getfield 9, 3) := by decide +kernel
theorem dX5_isAsHeard_20 : decode cX5_isAsHeard 20 = .ok (.iload_n 2, 1) := by decide +kernel
theorem dX5_isAsHeard_21 : decode cX5_isAsHeard 21 = .ok (.iaload, 1) := by decide +kernel
theorem dX5_isAsHeard_22 : decode cX5_isAsHeard 22 = .ok (.if_icmp .lt 7, 3) := by decide +kernel
theorem dX5_isAsHeard_25 : decode cX5_isAsHeard 25 = .ok (.iconst 1, 1) := by decide +kernel
theorem dX5_isAsHeard_26 : decode cX5_isAsHeard 26 = .ok (.goto 4, 3) := by decide +kernel
theorem dX5_isAsHeard_29 : decode cX5_isAsHeard 29 = .ok (.iconst 0, 1) := by decide +kernel
theorem dX5_isAsHeard_30 : decode cX5_isAsHeard 30 = .ok (.istore_n 3, 1) := by decide +kernel
theorem dX5_isAsHeard_31 : decode cX5_isAsHeard 31 = .ok (.iload_n 3, 1) := by decide +kernel
theorem dX5_isAsHeard_32 : decode cX5_isAsHeard 32 = .ok (.aload_n 0, 1) := by decide +kernel
theorem dX5_isAsHeard_33 : decode cX5_isAsHeard 33 = .ok (.getfield 15, 3) := by decide +kernel
theorem dX5_isAsHeard_36 : decode cX5_isAsHeard 36 = .ok (.iload_n 2, 1) := by decide +kernel
theorem dX5_isAsHeard_37 : decode cX5_isAsHeard 37 = .ok (.iaload, 1) := by decide +kernel
theorem dX5_isAsHeard_38 : decode cX5_isAsHeard 38 = .ok (.iconst 1, 1) := by decide +kernel
theorem dX5_isAsHeard_39 : decode cX5_isAsHeard 39 = .ok (.if_icmp .ne 7, 3) := by decide +kernel
theorem dX5_isAsHeard_42 : decode cX5_isAsHeard 42 = .ok (.iconst 1, 1) := by decide +kernel
theorem dX5_isAsHeard_43 : decode cX5_isAsHeard 43 = .ok (.goto 4, 3) := by decide +kernel
theorem dX5_isAsHeard_46 : decode cX5_isAsHeard 46 = .ok (.iconst 0, 1) := by decide +kernel
theorem dX5_isAsHeard_47 : decode cX5_isAsHeard 47 = .ok (.if_icmp .eq 5, 3) := by decide +kernel
theorem dX5_isAsHeard_50 : decode cX5_isAsHeard 50 = .ok (.iconst 0, 1) := by decide +kernel
theorem dX5_isAsHeard_51 : decode cX5_isAsHeard 51 = .ok (.ireturn, 1) := by decide +kernel
theorem dX5_isAsHeard_52 : decode cX5_isAsHeard 52 = .ok (.iinc 2 1, 3) := by decide +kernel
theorem dX5_isAsHeard_55 : decode cX5_isAsHeard 55 = .ok (.goto (-53), 3) := by decide +kernel
theorem dX5_isAsHeard_58 : decode cX5_isAsHeard 58 = .ok (.iconst 1, 1) := by decide +kernel
theorem dX5_isAsHeard_59 : decode cX5_isAsHeard 59 = .ok (.ireturn, 1) := by decide +kernel
theorem dX6_init_0 : decode cX6_init 0 = .ok (.aload_n 0, 1) := by decide +kernel
theorem dX6_init_1 : decode cX6_init 1 = .ok (.invokespecial 3, 3) := by decide +kernel
theorem dX6_init_4 : decode cX6_init 4 = .ok (.aload_n 0, 1) := by decide +kernel
theorem dX6_init_5 : decode cX6_init 5 = .ok (.bipush 6, 2) := by decide +kernel
theorem dX6_init_7 : decode cX6_init 7 = .ok (.newarray .int, 2) := by decide +kernel
theorem dX6_init_9 : decode cX6_init 9 = .ok (.putfield 9, 3) := by decide +kernel
theorem dX6_init_12 : decode cX6_init 12 = .ok (.aload_n 0, 1) := by decide +kernel
theorem dX6_init_13 : decode cX6_init 13 = .ok (.iconst 4, 1) := by decide +kernel
theorem dX6_init_14 : decode cX6_init 14 = .ok (.newarray .int, 2) := by decide +kernel
theorem dX6_init_16 : decode cX6_init 16 = .ok (.putfield 15, 3) := by decide +kernel
theorem dX6_init_19 : decode cX6_init 19 = .ok (.aload_n 0, 1) := by decide +kernel
theorem dX6_init_20 : decode cX6_init 20 = .ok (.bipush 24, 2) := by decide +kernel
theorem dX6_init_22 : decode cX6_init 22 = .ok (.newarray .int, 2) := by decide +kernel
theorem dX6_init_24 : decode cX6_init 24 = .ok (.putfield 18, 3) := by decide +kernel
theorem dX6_init_27 : decode cX6_init 27 = .ok (.aload_n 0, 1) := by decide +kernel
theorem dX6_init_28 : decode cX6_init 28 = .ok (.bipush 6, 2) := by decide +kernel
theorem dX6_init_30 : decode cX6_init 30 = .ok (.newarray .int, 2) := by decide +kernel
theorem dX6_init_32 : decode cX6_init 32 = .ok (.putfield 21, 3) := by decide +kernel
theorem dX6_init_35 : decode cX6_init 35 = .ok (.aload_n 0, 1) := by decide +kernel
theorem dX6_init_36 : decode cX6_init 36 = .ok (.aload_n 1, 1) := by decide +kernel
theorem dX6_init_37 : decode cX6_init 37 = .ok (.putfield 24, 3) := by decide +kernel
theorem dX6_init_40 : decode cX6_init 40 = .ok (.return_, 1) := by decide +kernel
theorem dX6_findPlan_0 : decode cX6_findPlan 0 = .ok (.aload_n 0, 1) := by decide +kernel
theorem dX6_findPlan_1 : decode cX6_findPlan 1 = .ok (.iconst (-1), 1) := by decide +kernel
theorem dX6_findPlan_2 : decode cX6_findPlan 2 = .ok (.putfield 28, 3) := by decide +kernel
theorem dX6_findPlan_5 : decode cX6_findPlan 5 = .ok (.aload_n 0, 1) := by decide +kernel
theorem dX6_findPlan_6 : decode cX6_findPlan 6 = .ok (.getfield 15, 3) := by decide +kernel
theorem dX6_findPlan_9 : decode cX6_findPlan 9 = .ok (.iconst 0, 1) := by decide +kernel
theorem dX6_findPlan_10 : decode cX6_findPlan 10 = .ok (.invokestatic 32, 3) := by decide +kernel
theorem dX6_findPlan_13 : decode cX6_findPlan 13 = .ok (.aload_n 0, 1) := by decide +kernel
theorem dX6_findPlan_14 : decode cX6_findPlan 14 = .ok (.iconst 0, 1) := by decide +kernel
theorem dX6_findPlan_15 : decode cX6_findPlan 15 = .ok (.iconst 0, 1) := by decide +kernel
theorem dX6_findPlan_16 : decode cX6_findPlan 16 = .ok (.invokevirtual 38, 3) := by decide +kernel
theorem dX6_findPlan_19 : decode cX6_findPlan 19 = .ok (.return_, 1) := by decide +kernel
theorem dX6_soonest_0 : decode cX6_soonest 0 = .ok (.iconst 0, 1) := by decide +kernel
theorem dX6_soonest_1 : decode cX6_soonest 1 = .ok (.istore_n 1, 1) := by decide +kernel
theorem dX6_soonest_2 : decode cX6_soonest 2 = .ok (.iload_n 1, 1) := by decide +kernel
theorem dX6_soonest_3 : decode cX6_soonest 3 = .ok (.aload_n 0, 1) := by decide +kernel
theorem dX6_soonest_4 : decode cX6_soonest 4 = .ok (.getfield 24, 3) := by decide +kernel
theorem dX6_soonest_7 : decode cX6_soonest 7 = .ok (.getfield 42, 3) := by decide +kernel
theorem dX6_soonest_10 : decode cX6_soonest 10 = .ok (.getfield 48, 3) := by decide +kernel
theorem dX6_soonest_13 : decode cX6_soonest 13 = .ok (.if_icmp .ge 51, 3) := by decide +kernel
theorem dX6_soonest_16 : decode cX6_soonest 16 = .ok (.iconst 0, 1) := by decide +kernel
theorem dX6_soonest_17 : decode cX6_soonest 17 = .ok (.istore_n 2, 1) := by decide +kernel
theorem dX6_soonest_18 : decode cX6_soonest 18 = .ok (.iload_n 2, 1) := by decide +kernel
theorem dX6_soonest_19 : decode cX6_soonest 19 = .ok (.aload_n 0, 1) := by decide +kernel
theorem dX6_soonest_20 : decode cX6_soonest 20 = .ok (.getfield 24, 3) := by decide +kernel
theorem dX6_soonest_23 : decode cX6_soonest 23 = .ok (.getfield 42, 3) := by decide +kernel
theorem dX6_soonest_26 : decode cX6_soonest 26 = .ok (.getfield 53, 3) := by decide +kernel
theorem dX6_soonest_29 : decode cX6_soonest 29 = .ok (.if_icmp .ge 29, 3) := by decide +kernel
theorem dX6_soonest_32 : decode cX6_soonest 32 = .ok (.aload_n 0, 1) := by decide +kernel
theorem dX6_soonest_33 : decode cX6_soonest 33 = .ok (.getfield 18, 3) := by decide +kernel
theorem dX6_soonest_36 : decode cX6_soonest 36 = .ok (.iload_n 2, 1) := by decide +kernel
theorem dX6_soonest_37 : decode cX6_soonest 37 = .ok (.bipush 6, 2) := by decide +kernel
theorem dX6_soonest_39 : decode cX6_soonest 39 = .ok (.imul, 1) := by decide +kernel
theorem dX6_soonest_40 : decode cX6_soonest 40 = .ok (.iload_n 1, 1) := by decide +kernel
theorem dX6_soonest_41 : decode cX6_soonest 41 = .ok (.iadd, 1) := by decide +kernel
theorem dX6_soonest_42 : decode cX6_soonest 42 = .ok (.aload_n 0, 1) := by decide +kernel
theorem dX6_soonest_43 : decode cX6_soonest 43 = .ok (.getfield 24, 3) := by decide +kernel
theorem dX6_soonest_46 : decode cX6_soonest 46 = .ok (.iload_n 1, 1) := by decide +kernel
theorem dX6_soonest_47 : decode cX6_soonest 47 = .ok (.iload_n 2, 1) := by decide +kernel
theorem dX6_soonest_48 : decode cX6_soonest 48 = .ok (.invokevirtual 56, 3) := by decide +kernel
theorem dX6_soonest_51 : decode cX6_soonest 51 = .ok (.iastore, 1) := by decide +kernel
theorem dX6_soonest_52 : decode cX6_soonest 52 = .ok (.iinc 2 1, 3) := by decide +kernel
theorem dX6_soonest_55 : decode cX6_soonest 55 = .ok (.goto (-37), 3) := by decide +kernel
theorem dX6_soonest_58 : decode cX6_soonest 58 = .ok (.iinc 1 1, 3) := by decide +kernel
theorem dX6_soonest_61 : decode cX6_soonest 61 = .ok (.goto (-59), 3) := by decide +kernel
theorem dX6_soonest_64 : decode cX6_soonest 64 = .ok (.aload_n 0, 1) := by decide +kernel
theorem dX6_soonest_65 : decode cX6_soonest 65 = .ok (.bipush 100, 2) := by decide +kernel
theorem dX6_soonest_67 : decode cX6_soonest 67 = .ok (.putfield 60, 3) := by decide +kernel
theorem dX6_soonest_70 : decode cX6_soonest 70 = .ok (.aload_n 0, 1) := by decide +kernel
theorem dX6_soonest_71 : decode cX6_soonest 71 = .ok (.getfield 15, 3) := by decide +kernel
theorem dX6_soonest_74 : decode cX6_soonest 74 = .ok (.iconst 0, 1) := by decide +kernel
theorem dX6_soonest_75 : decode cX6_soonest 75 = .ok (.invokestatic 32, 3) := by decide +kernel
theorem dX6_soonest_78 : decode cX6_soonest 78 = .ok (.aload_n 0, 1) := by decide +kernel
theorem dX6_soonest_79 : decode cX6_soonest 79 = .ok (.iconst 0, 1) := by decide +kernel
theorem dX6_soonest_80 : decode cX6_soonest 80 = .ok (.iconst 0, 1) := by decide +kernel
theorem dX6_soonest_81 : decode cX6_soonest 81 = .ok (.invokevirtual 63, 3) := by decide +kernel
theorem dX6_soonest_84 : decode cX6_soonest 84 = .ok (.aload_n 0, 1) := by decide +kernel
theorem dX6_soonest_85 : decode cX6_soonest 85 = .ok (.getfield 60, 3) := by decide +kernel
theorem dX6_soonest_88 : decode cX6_soonest 88 = .ok (.bipush 100, 2) := by decide +kernel
theorem dX6_soonest_90 : decode cX6_soonest 90 = .ok (.if_icmp .ne 8, 3) := by decide +kernel
theorem dX6_soonest_93 : decode cX6_soonest 93 = .ok (.bipush (-9), 2) := by decide +kernel
theorem dX6_soonest_95 : decode cX6_soonest 95 = .ok (.goto 7, 3) := by decide +kernel
theorem dX6_soonest_98 : decode cX6_soonest 98 = .ok (.aload_n 0, 1) := by decide +kernel
theorem dX6_soonest_99 : decode cX6_soonest 99 = .ok (.getfield 60, 3) := by decide +kernel
theorem dX6_soonest_102 : decode cX6_soonest 102 = .ok (.ireturn, 1) := by decide +kernel
theorem dX6_tryPlaces_0 : decode cX6_tryPlaces 0 = .ok (.iload_n 2, 1) := by decide +kernel
theorem dX6_tryPlaces_1 : decode cX6_tryPlaces 1 = .ok (.aload_n 0, 1) := by decide +kernel
theorem dX6_tryPlaces_2 : decode cX6_tryPlaces 2 = .ok (.getfield 24, 3) := by decide +kernel
theorem dX6_tryPlaces_5 : decode cX6_tryPlaces 5 = .ok (.getfield 42, 3) := by decide +kernel
theorem dX6_tryPlaces_8 : decode cX6_tryPlaces 8 = .ok (.getfield 48, 3) := by decide +kernel
theorem dX6_tryPlaces_11 : decode cX6_tryPlaces 11 = .ok (.iadd, 1) := by decide +kernel
theorem dX6_tryPlaces_12 : decode cX6_tryPlaces 12 = .ok (.iload_n 1, 1) := by decide +kernel
theorem dX6_tryPlaces_13 : decode cX6_tryPlaces 13 = .ok (.isub, 1) := by decide +kernel
theorem dX6_tryPlaces_14 : decode cX6_tryPlaces 14 = .ok (.aload_n 0, 1) := by decide +kernel
theorem dX6_tryPlaces_15 : decode cX6_tryPlaces 15 = .ok (.getfield 28, 3) := by decide +kernel
theorem dX6_tryPlaces_18 : decode cX6_tryPlaces 18 = .ok (.if_icmp .gt 4, 3) := by decide +kernel
theorem dX6_tryPlaces_21 : decode cX6_tryPlaces 21 = .ok (.return_, 1) := by decide +kernel
theorem dX6_tryPlaces_22 : decode cX6_tryPlaces 22 = .ok (.iload_n 1, 1) := by decide +kernel
theorem dX6_tryPlaces_23 : decode cX6_tryPlaces 23 = .ok (.aload_n 0, 1) := by decide +kernel
theorem dX6_tryPlaces_24 : decode cX6_tryPlaces 24 = .ok (.getfield 24, 3) := by decide +kernel
theorem dX6_tryPlaces_27 : decode cX6_tryPlaces 27 = .ok (.getfield 42, 3) := by decide +kernel
theorem dX6_tryPlaces_30 : decode cX6_tryPlaces 30 = .ok (.getfield 48, 3) := by decide +kernel
theorem dX6_tryPlaces_33 : decode cX6_tryPlaces 33 = .ok (.if_icmp .ge 9, 3) := by decide +kernel
theorem dX6_tryPlaces_36 : decode cX6_tryPlaces 36 = .ok (.iload_n 1, 1) := by decide +kernel
theorem dX6_tryPlaces_37 : decode cX6_tryPlaces 37 = .ok (.bipush 6, 2) := by decide +kernel
theorem dX6_tryPlaces_39 : decode cX6_tryPlaces 39 = .ok (.if_icmp .lt 24, 3) := by decide +kernel
theorem dX6_tryPlaces_42 : decode cX6_tryPlaces 42 = .ok (.aload_n 0, 1) := by decide +kernel
theorem dX6_tryPlaces_43 : decode cX6_tryPlaces 43 = .ok (.iload_n 2, 1) := by decide +kernel
theorem dX6_tryPlaces_44 : decode cX6_tryPlaces 44 = .ok (.putfield 28, 3) := by decide +kernel
theorem dX6_tryPlaces_47 : decode cX6_tryPlaces 47 = .ok (.aload_n 0, 1) := by decide +kernel
theorem dX6_tryPlaces_48 : decode cX6_tryPlaces 48 = .ok (.getfield 9, 3) := by decide +kernel
theorem dX6_tryPlaces_51 : decode cX6_tryPlaces 51 = .ok (.iconst 0, 1) := by decide +kernel
theorem dX6_tryPlaces_52 : decode cX6_tryPlaces 52 = .ok (.aload_n 0, 1) := by decide +kernel
theorem dX6_tryPlaces_53 : decode cX6_tryPlaces 53 = .ok (.getfield 21, 3) := by decide +kernel
theorem dX6_tryPlaces_56 : decode cX6_tryPlaces 56 = .ok (.iconst 0, 1) := by decide +kernel
theorem dX6_tryPlaces_57 : decode cX6_tryPlaces 57 = .ok (.bipush 6, 2) := by decide +kernel
theorem dX6_tryPlaces_59 : decode cX6_tryPlaces 59 = .ok (.invokestatic 66, 3) := by decide +kernel
theorem dX6_tryPlaces_62 : decode cX6_tryPlaces 62 = .ok (.return_, 1) := by decide +kernel
theorem dX6_tryPlaces_63 : decode cX6_tryPlaces 63 = .ok (.iconst 0, 1) := by decide +kernel
theorem dX6_tryPlaces_64 : decode cX6_tryPlaces 64 = .ok (.istore_n 3, 1) := by decide +kernel
theorem dX6_tryPlaces_65 : decode cX6_tryPlaces 65 = .ok (.iload_n 3, 1) := by decide +kernel
theorem dX6_tryPlaces_66 : decode cX6_tryPlaces 66 = .ok (.aload_n 0, 1) := by decide +kernel
theorem dX6_tryPlaces_67 : decode cX6_tryPlaces 67 = .ok (.getfield 24, 3) := by decide +kernel
theorem dX6_tryPlaces_70 : decode cX6_tryPlaces 70 = .ok (.getfield 42, 3) := by decide +kernel
theorem dX6_tryPlaces_73 : decode cX6_tryPlaces 73 = .ok (.getfield 53, 3) := by decide +kernel
theorem dX6_tryPlaces_76 : decode cX6_tryPlaces 76 = .ok (.if_icmp .ge 72, 3) := by decide +kernel
theorem dX6_tryPlaces_79 : decode cX6_tryPlaces 79 = .ok (.aload_n 0, 1) := by decide +kernel
theorem dX6_tryPlaces_80 : decode cX6_tryPlaces 80 = .ok (.getfield 15, 3) := by decide +kernel
theorem dX6_tryPlaces_83 : decode cX6_tryPlaces 83 = .ok (.iload_n 3, 1) := by decide +kernel
theorem dX6_tryPlaces_84 : decode cX6_tryPlaces 84 = .ok (.iaload, 1) := by decide +kernel
theorem dX6_tryPlaces_85 : decode cX6_tryPlaces 85 = .ok (.istore 4, 2) := by decide +kernel
theorem dX6_tryPlaces_87 : decode cX6_tryPlaces 87 = .ok (.aload_n 0, 1) := by decide +kernel
theorem dX6_tryPlaces_88 : decode cX6_tryPlaces 88 = .ok (.getfield 24, 3) := by decide +kernel
theorem dX6_tryPlaces_91 : decode cX6_tryPlaces 91 = .ok (.iload_n 1, 1) := by decide +kernel
theorem dX6_tryPlaces_92 : decode cX6_tryPlaces 92 = .ok (.iload_n 3, 1) := by decide +kernel
theorem dX6_tryPlaces_93 : decode cX6_tryPlaces 93 = .ok (.iload 4, 2) := by decide +kernel
theorem dX6_tryPlaces_95 : decode cX6_tryPlaces 95 = .ok (.invokevirtual 72, 3) := by decide +kernel
theorem dX6_tryPlaces_98 : decode cX6_tryPlaces 98 = .ok (.ifCond .ne 6, 3) := by decide +kernel
theorem dX6_tryPlaces_101 : decode cX6_tryPlaces 101 = .ok (.goto 41, 3) := by decide +kernel
theorem dX6_tryPlaces_104 : decode cX6_tryPlaces 104 = .ok (.aload_n 0, 1) := by decide +kernel
theorem dX6_tryPlaces_105 : decode cX6_tryPlaces 105 = .ok (.getfield 15, 3) := by decide +kernel
theorem dX6_tryPlaces_108 : decode cX6_tryPlaces 108 = .ok (.iload_n 3, 1) := by decide +kernel
theorem dX6_tryPlaces_109 : decode cX6_tryPlaces 109 = .ok (.iload 4, 2) := by decide +kernel
theorem dX6_tryPlaces_111 : decode cX6_tryPlaces 111 = .ok (.iload_n 1, 1) := by decide +kernel
theorem dX6_tryPlaces_112 : decode cX6_tryPlaces 112 = .ok (.invokestatic 76, 3) := by decide +kernel
theorem dX6_tryPlaces_115 : decode cX6_tryPlaces 115 = .ok (.ior, 1) := by decide +kernel
theorem dX6_tryPlaces_116 : decode cX6_tryPlaces 116 = .ok (.iastore, 1) := by decide +kernel
theorem dX6_tryPlaces_117 : decode cX6_tryPlaces 117 = .ok (.aload_n 0, 1) := by decide +kernel
theorem dX6_tryPlaces_118 : decode cX6_tryPlaces 118 = .ok (.getfield 9, 3) := by decide +kernel
theorem dX6_tryPlaces_121 : decode cX6_tryPlaces 121 = .ok (.iload_n 1, 1) := by decide +kernel
theorem dX6_tryPlaces_122 : decode cX6_tryPlaces 122 = .ok (.iload_n 3, 1) := by decide +kernel
theorem dX6_tryPlaces_123 : decode cX6_tryPlaces 123 = .ok (.iastore, 1) := by decide +kernel
theorem dX6_tryPlaces_124 : decode cX6_tryPlaces 124 = .ok (.aload_n 0, 1) := by decide +kernel
theorem dX6_tryPlaces_125 : decode cX6_tryPlaces 125 = .ok (.iload_n 1, 1) := by decide +kernel
theorem dX6_tryPlaces_126 : decode cX6_tryPlaces 126 = .ok (.iconst 1, 1) := by decide +kernel
theorem dX6_tryPlaces_127 : decode cX6_tryPlaces 127 = .ok (.iadd, 1) := by decide +kernel
theorem dX6_tryPlaces_128 : decode cX6_tryPlaces 128 = .ok (.iload_n 2, 1) := by decide +kernel
theorem dX6_tryPlaces_129 : decode cX6_tryPlaces 129 = .ok (.iconst 1, 1) := by decide +kernel
theorem dX6_tryPlaces_130 : decode cX6_tryPlaces 130 = .ok (.iadd, 1) := by decide +kernel
theorem dX6_tryPlaces_131 : decode cX6_tryPlaces 131 = .ok (.invokevirtual 38, 3) := by decide +kernel
theorem dX6_tryPlaces_134 : decode cX6_tryPlaces 134 = .ok (.aload_n 0, 1) := by decide +kernel
theorem dX6_tryPlaces_135 : decode cX6_tryPlaces 135 = .ok (.getfield 15, 3) := by decide +kernel
theorem dX6_tryPlaces_138 : decode cX6_tryPlaces 138 = .ok (.iload_n 3, 1) := by decide +kernel
theorem dX6_tryPlaces_139 : decode cX6_tryPlaces 139 = .ok (.iload 4, 2) := by decide +kernel
theorem dX6_tryPlaces_141 : decode cX6_tryPlaces 141 = .ok (.iastore, 1) := by decide +kernel
theorem dX6_tryPlaces_142 : decode cX6_tryPlaces 142 = .ok (.iinc 3 1, 3) := by decide +kernel
theorem dX6_tryPlaces_145 : decode cX6_tryPlaces 145 = .ok (.goto (-80), 3) := by decide +kernel
theorem dX6_tryPlaces_148 : decode cX6_tryPlaces 148 = .ok (.aload_n 0, 1) := by decide +kernel
theorem dX6_tryPlaces_149 : decode cX6_tryPlaces 149 = .ok (.getfield 9, 3) := by decide +kernel
theorem dX6_tryPlaces_152 : decode cX6_tryPlaces 152 = .ok (.iload_n 1, 1) := by decide +kernel
theorem dX6_tryPlaces_153 : decode cX6_tryPlaces 153 = .ok (.bipush (-9), 2) := by decide +kernel
theorem dX6_tryPlaces_155 : decode cX6_tryPlaces 155 = .ok (.iastore, 1) := by decide +kernel
theorem dX6_tryPlaces_156 : decode cX6_tryPlaces 156 = .ok (.aload_n 0, 1) := by decide +kernel
theorem dX6_tryPlaces_157 : decode cX6_tryPlaces 157 = .ok (.iload_n 1, 1) := by decide +kernel
theorem dX6_tryPlaces_158 : decode cX6_tryPlaces 158 = .ok (.iconst 1, 1) := by decide +kernel
theorem dX6_tryPlaces_159 : decode cX6_tryPlaces 159 = .ok (.iadd, 1) := by decide +kernel
theorem dX6_tryPlaces_160 : decode cX6_tryPlaces 160 = .ok (.iload_n 2, 1) := by decide +kernel
theorem dX6_tryPlaces_161 : decode cX6_tryPlaces 161 = .ok (.invokevirtual 38, 3) := by decide +kernel
theorem dX6_tryPlaces_164 : decode cX6_tryPlaces 164 = .ok (.return_, 1) := by decide +kernel
theorem dX6_tryYears_0 : decode cX6_tryYears 0 = .ok (.iload_n 2, 1) := by decide +kernel
theorem dX6_tryYears_1 : decode cX6_tryYears 1 = .ok (.aload_n 0, 1) := by decide +kernel
theorem dX6_tryYears_2 : decode cX6_tryYears 2 = .ok (.getfield 60, 3) := by decide +kernel
theorem dX6_tryYears_5 : decode cX6_tryYears 5 = .ok (.if_icmp .lt 4, 3) := by decide +kernel
theorem dX6_tryYears_8 : decode cX6_tryYears 8 = .ok (.return_, 1) := by decide +kernel
theorem dX6_tryYears_9 : decode cX6_tryYears 9 = .ok (.iload_n 1, 1) := by decide +kernel
theorem dX6_tryYears_10 : decode cX6_tryYears 10 = .ok (.aload_n 0, 1) := by decide +kernel
theorem dX6_tryYears_11 : decode cX6_tryYears 11 = .ok (.getfield 24, 3) := by decide +kernel
theorem dX6_tryYears_14 : decode cX6_tryYears 14 = .ok (.getfield 42, 3) := by decide +kernel
theorem dX6_tryYears_17 : decode cX6_tryYears 17 = .ok (.getfield 48, 3) := by decide +kernel
theorem dX6_tryYears_20 : decode cX6_tryYears 20 = .ok (.if_icmp .ge 9, 3) := by decide +kernel
theorem dX6_tryYears_23 : decode cX6_tryYears 23 = .ok (.iload_n 1, 1) := by decide +kernel
theorem dX6_tryYears_24 : decode cX6_tryYears 24 = .ok (.bipush 6, 2) := by decide +kernel
theorem dX6_tryYears_26 : decode cX6_tryYears 26 = .ok (.if_icmp .lt 9, 3) := by decide +kernel
theorem dX6_tryYears_29 : decode cX6_tryYears 29 = .ok (.aload_n 0, 1) := by decide +kernel
theorem dX6_tryYears_30 : decode cX6_tryYears 30 = .ok (.iload_n 2, 1) := by decide +kernel
theorem dX6_tryYears_31 : decode cX6_tryYears 31 = .ok (.putfield 60, 3) := by decide +kernel
theorem dX6_tryYears_34 : decode cX6_tryYears 34 = .ok (.return_, 1) := by decide +kernel
theorem dX6_tryYears_35 : decode cX6_tryYears 35 = .ok (.aload_n 0, 1) := by decide +kernel
theorem dX6_tryYears_36 : decode cX6_tryYears 36 = .ok (.getfield 24, 3) := by decide +kernel
theorem dX6_tryYears_39 : decode cX6_tryYears 39 = .ok (.getfield 80, 3) := by decide +kernel
theorem dX6_tryYears_42 : decode cX6_tryYears 42 = .ok (.iload_n 1, 1) := by decide +kernel
theorem dX6_tryYears_43 : decode cX6_tryYears 43 = .ok (.invokevirtual 84, 3) := by decide +kernel
theorem dX6_tryYears_46 : decode cX6_tryYears 46 = .ok (.ifCond .ne 12, 3) := by decide +kernel
theorem dX6_tryYears_49 : decode cX6_tryYears 49 = .ok (.aload_n 0, 1) := by decide +kernel
theorem dX6_tryYears_50 : decode cX6_tryYears 50 = .ok (.iload_n 1, 1) := by decide +kernel
theorem dX6_tryYears_51 : decode cX6_tryYears 51 = .ok (.iconst 1, 1) := by decide +kernel
theorem dX6_tryYears_52 : decode cX6_tryYears 52 = .ok (.iadd, 1) := by decide +kernel
theorem dX6_tryYears_53 : decode cX6_tryYears 53 = .ok (.iload_n 2, 1) := by decide +kernel
theorem dX6_tryYears_54 : decode cX6_tryYears 54 = .ok (.invokevirtual 63, 3) := by decide +kernel
theorem dX6_tryYears_57 : decode cX6_tryYears 57 = .ok (.return_, 1) := by decide +kernel
theorem dX6_tryYears_58 : decode cX6_tryYears 58 = .ok (.iconst 0, 1) := by decide +kernel
theorem dX6_tryYears_59 : decode cX6_tryYears 59 = .ok (.istore_n 3, 1) := by decide +kernel
theorem dX6_tryYears_60 : decode cX6_tryYears 60 = .ok (.iload_n 3, 1) := by decide +kernel
theorem dX6_tryYears_61 : decode cX6_tryYears 61 = .ok (.aload_n 0, 1) := by decide +kernel
theorem dX6_tryYears_62 : decode cX6_tryYears 62 = .ok (.getfield 24, 3) := by decide +kernel
theorem dX6_tryYears_65 : decode cX6_tryYears 65 = .ok (.getfield 42, 3) := by decide +kernel
theorem dX6_tryYears_68 : decode cX6_tryYears 68 = .ok (.getfield 53, 3) := by decide +kernel
theorem dX6_tryYears_71 : decode cX6_tryYears 71 = .ok (.if_icmp .ge 97, 3) := by decide +kernel
theorem dX6_tryYears_74 : decode cX6_tryYears 74 = .ok (.aload_n 0, 1) := by decide +kernel
theorem dX6_tryYears_75 : decode cX6_tryYears 75 = .ok (.getfield 15, 3) := by decide +kernel
theorem dX6_tryYears_78 : decode cX6_tryYears 78 = .ok (.iload_n 3, 1) := by decide +kernel
theorem dX6_tryYears_79 : decode cX6_tryYears 79 = .ok (.iaload, 1) := by decide +kernel
theorem dX6_tryYears_80 : decode cX6_tryYears 80 = .ok (.istore 4, 2) := by decide +kernel
theorem dX6_tryYears_82 : decode cX6_tryYears 82 = .ok (.aload_n 0, 1) := by decide +kernel
theorem dX6_tryYears_83 : decode cX6_tryYears 83 = .ok (.getfield 18, 3) := by decide +kernel
theorem dX6_tryYears_86 : decode cX6_tryYears 86 = .ok (.iload_n 3, 1) := by decide +kernel
theorem dX6_tryYears_87 : decode cX6_tryYears 87 = .ok (.bipush 6, 2) := by decide +kernel
theorem dX6_tryYears_89 : decode cX6_tryYears 89 = .ok (.imul, 1) := by decide +kernel
theorem dX6_tryYears_90 : decode cX6_tryYears 90 = .ok (.iload_n 1, 1) := by decide +kernel
theorem dX6_tryYears_91 : decode cX6_tryYears 91 = .ok (.iadd, 1) := by decide +kernel
theorem dX6_tryYears_92 : decode cX6_tryYears 92 = .ok (.iaload, 1) := by decide +kernel
theorem dX6_tryYears_93 : decode cX6_tryYears 93 = .ok (.istore 5, 2) := by decide +kernel
theorem dX6_tryYears_95 : decode cX6_tryYears 95 = .ok (.iload 5, 2) := by decide +kernel
theorem dX6_tryYears_97 : decode cX6_tryYears 97 = .ok (.bipush (-9), 2) := by decide +kernel
theorem dX6_tryYears_99 : decode cX6_tryYears 99 = .ok (.if_icmp .eq 63, 3) := by decide +kernel
theorem dX6_tryYears_102 : decode cX6_tryYears 102 = .ok (.iload 5, 2) := by decide +kernel
theorem dX6_tryYears_104 : decode cX6_tryYears 104 = .ok (.aload_n 0, 1) := by decide +kernel
theorem dX6_tryYears_105 : decode cX6_tryYears 105 = .ok (.getfield 60, 3) := by decide +kernel
theorem dX6_tryYears_108 : decode cX6_tryYears 108 = .ok (.if_icmp .ge 54, 3) := by decide +kernel
theorem dX6_tryYears_111 : decode cX6_tryYears 111 = .ok (.aload_n 0, 1) := by decide +kernel
theorem dX6_tryYears_112 : decode cX6_tryYears 112 = .ok (.getfield 24, 3) := by decide +kernel
theorem dX6_tryYears_115 : decode cX6_tryYears 115 = .ok (.iload_n 1, 1) := by decide +kernel
theorem dX6_tryYears_116 : decode cX6_tryYears 116 = .ok (.iload_n 3, 1) := by decide +kernel
theorem dX6_tryYears_117 : decode cX6_tryYears 117 = .ok (.iload 4, 2) := by decide +kernel
theorem dX6_tryYears_119 : decode cX6_tryYears 119 = .ok (.invokevirtual 72, 3) := by decide +kernel
theorem dX6_tryYears_122 : decode cX6_tryYears 122 = .ok (.ifCond .ne 6, 3) := by decide +kernel
theorem dX6_tryYears_125 : decode cX6_tryYears 125 = .ok (.goto 37, 3) := by decide +kernel
theorem dX6_tryYears_128 : decode cX6_tryYears 128 = .ok (.aload_n 0, 1) := by decide +kernel
theorem dX6_tryYears_129 : decode cX6_tryYears 129 = .ok (.getfield 15, 3) := by decide +kernel
theorem dX6_tryYears_132 : decode cX6_tryYears 132 = .ok (.iload_n 3, 1) := by decide +kernel
theorem dX6_tryYears_133 : decode cX6_tryYears 133 = .ok (.iload 4, 2) := by decide +kernel
theorem dX6_tryYears_135 : decode cX6_tryYears 135 = .ok (.iload_n 1, 1) := by decide +kernel
theorem dX6_tryYears_136 : decode cX6_tryYears 136 = .ok (.invokestatic 76, 3) := by decide +kernel
theorem dX6_tryYears_139 : decode cX6_tryYears 139 = .ok (.ior, 1) := by decide +kernel
theorem dX6_tryYears_140 : decode cX6_tryYears 140 = .ok (.iastore, 1) := by decide +kernel
theorem dX6_tryYears_141 : decode cX6_tryYears 141 = .ok (.aload_n 0, 1) := by decide +kernel
theorem dX6_tryYears_142 : decode cX6_tryYears 142 = .ok (.iload_n 1, 1) := by decide +kernel
theorem dX6_tryYears_143 : decode cX6_tryYears 143 = .ok (.iconst 1, 1) := by decide +kernel
theorem dX6_tryYears_144 : decode cX6_tryYears 144 = .ok (.iadd, 1) := by decide +kernel
theorem dX6_tryYears_145 : decode cX6_tryYears 145 = .ok (.iload_n 2, 1) := by decide +kernel
theorem dX6_tryYears_146 : decode cX6_tryYears 146 = .ok (.iload 5, 2) := by decide +kernel
theorem dX6_tryYears_148 : decode cX6_tryYears 148 = .ok (.invokestatic 89, 3) := by decide +kernel
theorem dX6_tryYears_151 : decode cX6_tryYears 151 = .ok (.invokevirtual 63, 3) := by decide +kernel
theorem dX6_tryYears_154 : decode cX6_tryYears 154 = .ok (.aload_n 0, 1) := by decide +kernel
theorem dX6_tryYears_155 : decode cX6_tryYears 155 = .ok (.getfield 15, 3) := by decide +kernel
theorem dX6_tryYears_158 : decode cX6_tryYears 158 = .ok (.iload_n 3, 1) := by decide +kernel
theorem dX6_tryYears_159 : decode cX6_tryYears 159 = .ok (.iload 4, 2) := by decide +kernel
theorem dX6_tryYears_161 : decode cX6_tryYears 161 = .ok (.iastore, 1) := by decide +kernel
theorem dX6_tryYears_162 : decode cX6_tryYears 162 = .ok (.iinc 3 1, 3) := by decide +kernel
theorem dX6_tryYears_165 : decode cX6_tryYears 165 = .ok (.goto (-105), 3) := by decide +kernel
theorem dX6_tryYears_168 : decode cX6_tryYears 168 = .ok (.return_, 1) := by decide +kernel
theorem dX7_init_0 : decode cX7_init 0 = .ok (.aload_n 0, 1) := by decide +kernel
theorem dX7_init_1 : decode cX7_init 1 = .ok (.invokespecial 3, 3) := by decide +kernel
theorem dX7_init_4 : decode cX7_init 4 = .ok (.aload_n 0, 1) := by decide +kernel
theorem dX7_init_5 : decode cX7_init 5 = .ok (.new 9, 3) := by decide +kernel
theorem dX7_init_8 : decode cX7_init 8 = .ok (.dup, 1) := by decide +kernel
theorem dX7_init_9 : decode cX7_init 9 = .ok (.invokespecial 11, 3) := by decide +kernel
theorem dX7_init_12 : decode cX7_init 12 = .ok (.putfield 12, 3) := by decide +kernel
theorem dX7_init_15 : decode cX7_init 15 = .ok (.aload_n 0, 1) := by decide +kernel
theorem dX7_init_16 : decode cX7_init 16 = .ok (.bipush 120, 2) := by decide +kernel
theorem dX7_init_18 : decode cX7_init 18 = .ok (.newarray .int, 2) := by decide +kernel
theorem dX7_init_20 : decode cX7_init 20 = .ok (.putfield 18, 3) := by decide +kernel
theorem dX7_init_23 : decode cX7_init 23 = .ok (.aload_n 0, 1) := by decide +kernel
theorem dX7_init_24 : decode cX7_init 24 = .ok (.iconst 3, 1) := by decide +kernel
theorem dX7_init_25 : decode cX7_init 25 = .ok (.newarray .int, 2) := by decide +kernel
theorem dX7_init_27 : decode cX7_init 27 = .ok (.putfield 22, 3) := by decide +kernel
theorem dX7_init_30 : decode cX7_init 30 = .ok (.return_, 1) := by decide +kernel
theorem dX7_append_0 : decode cX7_append 0 = .ok (.aload_n 0, 1) := by decide +kernel
theorem dX7_append_1 : decode cX7_append 1 = .ok (.getfield 25, 3) := by decide +kernel
theorem dX7_append_4 : decode cX7_append 4 = .ok (.bipush 120, 2) := by decide +kernel
theorem dX7_append_6 : decode cX7_append 6 = .ok (.if_icmp .lt 5, 3) := by decide +kernel
theorem dX7_append_9 : decode cX7_append 9 = .ok (.iconst 0, 1) := by decide +kernel
theorem dX7_append_10 : decode cX7_append 10 = .ok (.ireturn, 1) := by decide +kernel
theorem dX7_append_11 : decode cX7_append 11 = .ok (.aload_n 0, 1) := by decide +kernel
theorem dX7_append_12 : decode cX7_append 12 = .ok (.getfield 18, 3) := by decide +kernel
theorem dX7_append_15 : decode cX7_append 15 = .ok (.aload_n 0, 1) := by decide +kernel
theorem dX7_append_16 : decode cX7_append 16 = .ok (.getfield 25, 3) := by decide +kernel
theorem dX7_append_19 : decode cX7_append 19 = .ok (.iload_n 1, 1) := by decide +kernel
theorem dX7_append_20 : decode cX7_append 20 = .ok (.iastore, 1) := by decide +kernel
theorem dX7_append_21 : decode cX7_append 21 = .ok (.aload_n 0, 1) := by decide +kernel
theorem dX7_append_22 : decode cX7_append 22 = .ok (.dup, 1) := by decide +kernel
theorem dX7_append_23 : decode cX7_append 23 = .ok (.getfield 25, 3) := by decide +kernel
theorem dX7_append_26 : decode cX7_append 26 = .ok (.iconst 1, 1) := by decide +kernel
theorem dX7_append_27 : decode cX7_append 27 = .ok (.iadd, 1) := by decide +kernel
theorem dX7_append_28 : decode cX7_append 28 = .ok (.putfield 25, 3) := by decide +kernel
theorem dX7_append_31 : decode cX7_append 31 = .ok (.iconst 1, 1) := by decide +kernel
theorem dX7_append_32 : decode cX7_append 32 = .ok (.ireturn, 1) := by decide +kernel
theorem dX7_empty_0 : decode cX7_empty 0 = .ok (.aload_n 0, 1) := by decide +kernel
theorem dX7_empty_1 : decode cX7_empty 1 = .ok (.getfield 25, 3) := by decide +kernel
theorem dX7_empty_4 : decode cX7_empty 4 = .ok (.istore_n 1, 1) := by decide +kernel
theorem dX7_empty_5 : decode cX7_empty 5 = .ok (.aload_n 0, 1) := by decide +kernel
theorem dX7_empty_6 : decode cX7_empty 6 = .ok (.iconst 0, 1) := by decide +kernel
theorem dX7_empty_7 : decode cX7_empty 7 = .ok (.putfield 25, 3) := by decide +kernel
theorem dX7_empty_10 : decode cX7_empty 10 = .ok (.iload_n 1, 1) := by decide +kernel
theorem dX7_empty_11 : decode cX7_empty 11 = .ok (.ireturn, 1) := by decide +kernel
theorem dX7_readAll_0 : decode cX7_readAll 0 = .ok (.aload_n 0, 1) := by decide +kernel
theorem dX7_readAll_1 : decode cX7_readAll 1 = .ok (.getfield 12, 3) := by decide +kernel
theorem dX7_readAll_4 : decode cX7_readAll 4 = .ok (.invokevirtual 29, 3) := by decide +kernel
theorem dX7_readAll_7 : decode cX7_readAll 7 = .ok (.aload_n 0, 1) := by decide +kernel
theorem dX7_readAll_8 : decode cX7_readAll 8 = .ok (.iconst 0, 1) := by decide +kernel
theorem dX7_readAll_9 : decode cX7_readAll 9 = .ok (.putfield 32, 3) := by decide +kernel
theorem dX7_readAll_12 : decode cX7_readAll 12 = .ok (.aload_n 0, 1) := by decide +kernel
theorem dX7_readAll_13 : decode cX7_readAll 13 = .ok (.iconst 0, 1) := by decide +kernel
theorem dX7_readAll_14 : decode cX7_readAll 14 = .ok (.putfield 35, 3) := by decide +kernel
theorem dX7_readAll_17 : decode cX7_readAll 17 = .ok (.iconst 0, 1) := by decide +kernel
theorem dX7_readAll_18 : decode cX7_readAll 18 = .ok (.istore_n 1, 1) := by decide +kernel
theorem dX7_readAll_19 : decode cX7_readAll 19 = .ok (.iconst 0, 1) := by decide +kernel
theorem dX7_readAll_20 : decode cX7_readAll 20 = .ok (.istore_n 2, 1) := by decide +kernel
theorem dX7_readAll_21 : decode cX7_readAll 21 = .ok (.iload_n 2, 1) := by decide +kernel
theorem dX7_readAll_22 : decode cX7_readAll 22 = .ok (.bipush 120, 2) := by decide +kernel
theorem dX7_readAll_24 : decode cX7_readAll 24 = .ok (.if_icmp .gt 59, 3) := by decide +kernel
theorem dX7_readAll_27 : decode cX7_readAll 27 = .ok (.aload_n 0, 1) := by decide +kernel
theorem dX7_readAll_28 : decode cX7_readAll 28 = .ok (.invokevirtual 38, 3) := by decide +kernel
theorem dX7_readAll_31 : decode cX7_readAll 31 = .ok (.aload_n 0, 1) := by decide +kernel
theorem dX7_readAll_32 : decode cX7_readAll 32 = .ok (.getfield 41, 3) := by decide +kernel
theorem dX7_readAll_35 : decode cX7_readAll 35 = .ok (.ifCond .ne 12, 3) := by decide +kernel
theorem dX7_readAll_38 : decode cX7_readAll 38 = .ok (.aload_n 0, 1) := by decide +kernel
theorem dX7_readAll_39 : decode cX7_readAll 39 = .ok (.getfield 35, 3) := by decide +kernel
theorem dX7_readAll_42 : decode cX7_readAll 42 = .ok (.ifCond .ne 5, 3) := by decide +kernel
theorem dX7_readAll_45 : decode cX7_readAll 45 = .ok (.iload_n 1, 1) := by decide +kernel
theorem dX7_readAll_46 : decode cX7_readAll 46 = .ok (.ireturn, 1) := by decide +kernel
theorem dX7_readAll_47 : decode cX7_readAll 47 = .ok (.aload_n 0, 1) := by decide +kernel
theorem dX7_readAll_48 : decode cX7_readAll 48 = .ok (.invokevirtual 44, 3) := by decide +kernel
theorem dX7_readAll_51 : decode cX7_readAll 51 = .ok (.ifCond .ne 11, 3) := by decide +kernel
theorem dX7_readAll_54 : decode cX7_readAll 54 = .ok (.bipush (-10), 2) := by decide +kernel
theorem dX7_readAll_56 : decode cX7_readAll 56 = .ok (.aload_n 0, 1) := by decide +kernel
theorem dX7_readAll_57 : decode cX7_readAll 57 = .ok (.getfield 48, 3) := by decide +kernel
theorem dX7_readAll_60 : decode cX7_readAll 60 = .ok (.isub, 1) := by decide +kernel
theorem dX7_readAll_61 : decode cX7_readAll 61 = .ok (.ireturn, 1) := by decide +kernel
theorem dX7_readAll_62 : decode cX7_readAll 62 = .ok (.aload_n 0, 1) := by decide +kernel
theorem dX7_readAll_63 : decode cX7_readAll 63 = .ok (.getfield 41, 3) := by decide +kernel
theorem dX7_readAll_66 : decode cX7_readAll 66 = .ok (.iconst 3, 1) := by decide +kernel
theorem dX7_readAll_67 : decode cX7_readAll 67 = .ok (.if_icmp .ne 6, 3) := by decide +kernel
theorem dX7_readAll_70 : decode cX7_readAll 70 = .ok (.iinc 1 1, 3) := by decide +kernel
theorem dX7_readAll_73 : decode cX7_readAll 73 = .ok (.aload_n 0, 1) := by decide +kernel
theorem dX7_readAll_74 : decode cX7_readAll 74 = .ok (.invokevirtual 51, 3) := by decide +kernel
theorem dX7_readAll_77 : decode cX7_readAll 77 = .ok (.iinc 2 1, 3) := by decide +kernel
theorem dX7_readAll_80 : decode cX7_readAll 80 = .ok (.goto (-59), 3) := by decide +kernel
theorem dX7_readAll_83 : decode cX7_readAll 83 = .ok (.iload_n 1, 1) := by decide +kernel
theorem dX7_readAll_84 : decode cX7_readAll 84 = .ok (.ireturn, 1) := by decide +kernel
theorem dX7_canStand_0 : decode cX7_canStand 0 = .ok (.aload_n 0, 1) := by decide +kernel
theorem dX7_canStand_1 : decode cX7_canStand 1 = .ok (.getfield 35, 3) := by decide +kernel
theorem dX7_canStand_4 : decode cX7_canStand 4 = .ok (.ifCond .ne 24, 3) := by decide +kernel
theorem dX7_canStand_7 : decode cX7_canStand 7 = .ok (.aload_n 0, 1) := by decide +kernel
theorem dX7_canStand_8 : decode cX7_canStand 8 = .ok (.getfield 41, 3) := by decide +kernel
theorem dX7_canStand_11 : decode cX7_canStand 11 = .ok (.iconst 1, 1) := by decide +kernel
theorem dX7_canStand_12 : decode cX7_canStand 12 = .ok (.if_icmp .ne 14, 3) := by decide +kernel
theorem dX7_canStand_15 : decode cX7_canStand 15 = .ok (.aload_n 0, 1) := by decide +kernel
theorem dX7_canStand_16 : decode cX7_canStand 16 = .ok (.invokevirtual 54, 3) := by decide +kernel
theorem dX7_canStand_19 : decode cX7_canStand 19 = .ok (.ifCond .eq 7, 3) := by decide +kernel
theorem dX7_canStand_22 : decode cX7_canStand 22 = .ok (.iconst 1, 1) := by decide +kernel
theorem dX7_canStand_23 : decode cX7_canStand 23 = .ok (.goto 4, 3) := by decide +kernel
theorem dX7_canStand_26 : decode cX7_canStand 26 = .ok (.iconst 0, 1) := by decide +kernel
theorem dX7_canStand_27 : decode cX7_canStand 27 = .ok (.ireturn, 1) := by decide +kernel
theorem dX7_canStand_28 : decode cX7_canStand 28 = .ok (.aload_n 0, 1) := by decide +kernel
theorem dX7_canStand_29 : decode cX7_canStand 29 = .ok (.getfield 57, 3) := by decide +kernel
theorem dX7_canStand_32 : decode cX7_canStand 32 = .ok (.aload_n 0, 1) := by decide +kernel
theorem dX7_canStand_33 : decode cX7_canStand 33 = .ok (.invokevirtual 60, 3) := by decide +kernel
theorem dX7_canStand_36 : decode cX7_canStand 36 = .ok (.if_icmp .ge 24, 3) := by decide +kernel
theorem dX7_canStand_39 : decode cX7_canStand 39 = .ok (.aload_n 0, 1) := by decide +kernel
theorem dX7_canStand_40 : decode cX7_canStand 40 = .ok (.getfield 41, 3) := by decide +kernel
theorem dX7_canStand_43 : decode cX7_canStand 43 = .ok (.iconst 2, 1) := by decide +kernel
theorem dX7_canStand_44 : decode cX7_canStand 44 = .ok (.if_icmp .ne 14, 3) := by decide +kernel
theorem dX7_canStand_47 : decode cX7_canStand 47 = .ok (.aload_n 0, 1) := by decide +kernel
theorem dX7_canStand_48 : decode cX7_canStand 48 = .ok (.invokevirtual 64, 3) := by decide +kernel
theorem dX7_canStand_51 : decode cX7_canStand 51 = .ok (.ifCond .eq 7, 3) := by decide +kernel
theorem dX7_canStand_54 : decode cX7_canStand 54 = .ok (.iconst 1, 1) := by decide +kernel
theorem dX7_canStand_55 : decode cX7_canStand 55 = .ok (.goto 4, 3) := by decide +kernel
theorem dX7_canStand_58 : decode cX7_canStand 58 = .ok (.iconst 0, 1) := by decide +kernel
theorem dX7_canStand_59 : decode cX7_canStand 59 = .ok (.ireturn, 1) := by decide +kernel
theorem dX7_canStand_60 : decode cX7_canStand 60 = .ok (.aload_n 0, 1) := by decide +kernel
theorem dX7_canStand_61 : decode cX7_canStand 61 = .ok (.getfield 41, 3) := by decide +kernel
theorem dX7_canStand_64 : decode cX7_canStand 64 = .ok (.iconst 3, 1) := by decide +kernel
theorem dX7_canStand_65 : decode cX7_canStand 65 = .ok (.if_icmp .ne 7, 3) := by decide +kernel
theorem dX7_canStand_68 : decode cX7_canStand 68 = .ok (.iconst 1, 1) := by decide +kernel
theorem dX7_canStand_69 : decode cX7_canStand 69 = .ok (.goto 4, 3) := by decide +kernel
theorem dX7_canStand_72 : decode cX7_canStand 72 = .ok (.iconst 0, 1) := by decide +kernel
theorem dX7_canStand_73 : decode cX7_canStand 73 = .ok (.ireturn, 1) := by decide +kernel
theorem dX7_canBeginItem_0 : decode cX7_canBeginItem 0 = .ok (.aload_n 0, 1) := by decide +kernel
theorem dX7_canBeginItem_1 : decode cX7_canBeginItem 1 = .ok (.getfield 67, 3) := by decide +kernel
theorem dX7_canBeginItem_4 : decode cX7_canBeginItem 4 = .ok (.lookupswitch 73 #[(110, 54), (116, 36), (120, 71)], 36) := by decide +kernel
theorem dX7_canBeginItem_40 : decode cX7_canBeginItem 40 = .ok (.aload_n 0, 1) := by decide +kernel
theorem dX7_canBeginItem_41 : decode cX7_canBeginItem 41 = .ok (.getfield 12, 3) := by decide +kernel
theorem dX7_canBeginItem_44 : decode cX7_canBeginItem 44 = .ok (.getfield 70, 3) := by decide +kernel
theorem dX7_canBeginItem_47 : decode cX7_canBeginItem 47 = .ok (.bipush 6, 2) := by decide +kernel
theorem dX7_canBeginItem_49 : decode cX7_canBeginItem 49 = .ok (.if_icmp .ge 7, 3) := by decide +kernel
theorem dX7_canBeginItem_52 : decode cX7_canBeginItem 52 = .ok (.iconst 1, 1) := by decide +kernel
theorem dX7_canBeginItem_53 : decode cX7_canBeginItem 53 = .ok (.goto 4, 3) := by decide +kernel
theorem dX7_canBeginItem_56 : decode cX7_canBeginItem 56 = .ok (.iconst 0, 1) := by decide +kernel
theorem dX7_canBeginItem_57 : decode cX7_canBeginItem 57 = .ok (.ireturn, 1) := by decide +kernel
theorem dX7_canBeginItem_58 : decode cX7_canBeginItem 58 = .ok (.aload_n 0, 1) := by decide +kernel
theorem dX7_canBeginItem_59 : decode cX7_canBeginItem 59 = .ok (.getfield 12, 3) := by decide +kernel
theorem dX7_canBeginItem_62 : decode cX7_canBeginItem 62 = .ok (.getfield 73, 3) := by decide +kernel
theorem dX7_canBeginItem_65 : decode cX7_canBeginItem 65 = .ok (.iconst 4, 1) := by decide +kernel
theorem dX7_canBeginItem_66 : decode cX7_canBeginItem 66 = .ok (.if_icmp .ge 7, 3) := by decide +kernel
theorem dX7_canBeginItem_69 : decode cX7_canBeginItem 69 = .ok (.iconst 1, 1) := by decide +kernel
theorem dX7_canBeginItem_70 : decode cX7_canBeginItem 70 = .ok (.goto 4, 3) := by decide +kernel
theorem dX7_canBeginItem_73 : decode cX7_canBeginItem 73 = .ok (.iconst 0, 1) := by decide +kernel
theorem dX7_canBeginItem_74 : decode cX7_canBeginItem 74 = .ok (.ireturn, 1) := by decide +kernel
theorem dX7_canBeginItem_75 : decode cX7_canBeginItem 75 = .ok (.iconst 1, 1) := by decide +kernel
theorem dX7_canBeginItem_76 : decode cX7_canBeginItem 76 = .ok (.ireturn, 1) := by decide +kernel
theorem dX7_canBeginItem_77 : decode cX7_canBeginItem 77 = .ok (.iconst 0, 1) := by decide +kernel
theorem dX7_canBeginItem_78 : decode cX7_canBeginItem 78 = .ok (.ireturn, 1) := by decide +kernel
theorem dX7_canBeTold_0 : decode cX7_canBeTold 0 = .ok (.aload_n 0, 1) := by decide +kernel
theorem dX7_canBeTold_1 : decode cX7_canBeTold 1 = .ok (.getfield 57, 3) := by decide +kernel
theorem dX7_canBeTold_4 : decode cX7_canBeTold 4 = .ok (.istore_n 1, 1) := by decide +kernel
theorem dX7_canBeTold_5 : decode cX7_canBeTold 5 = .ok (.iload_n 1, 1) := by decide +kernel
theorem dX7_canBeTold_6 : decode cX7_canBeTold 6 = .ok (.iconst 0, 1) := by decide +kernel
theorem dX7_canBeTold_7 : decode cX7_canBeTold 7 = .ok (.iconst 2, 1) := by decide +kernel
theorem dX7_canBeTold_8 : decode cX7_canBeTold 8 = .ok (.invokestatic 76, 3) := by decide +kernel
theorem dX7_canBeTold_11 : decode cX7_canBeTold 11 = .ok (.ifCond .ne 5, 3) := by decide +kernel
theorem dX7_canBeTold_14 : decode cX7_canBeTold 14 = .ok (.iconst 0, 1) := by decide +kernel
theorem dX7_canBeTold_15 : decode cX7_canBeTold 15 = .ok (.ireturn, 1) := by decide +kernel
theorem dX7_canBeTold_16 : decode cX7_canBeTold 16 = .ok (.aload_n 0, 1) := by decide +kernel
theorem dX7_canBeTold_17 : decode cX7_canBeTold 17 = .ok (.getfield 35, 3) := by decide +kernel
theorem dX7_canBeTold_20 : decode cX7_canBeTold 20 = .ok (.lookupswitch 64 #[(110, 46), (116, 28)], 28) := by decide +kernel
theorem dX7_canBeTold_48 : decode cX7_canBeTold 48 = .ok (.aload_n 0, 1) := by decide +kernel
theorem dX7_canBeTold_49 : decode cX7_canBeTold 49 = .ok (.getfield 67, 3) := by decide +kernel
theorem dX7_canBeTold_52 : decode cX7_canBeTold 52 = .ok (.getstatic 80, 3) := by decide +kernel
theorem dX7_canBeTold_55 : decode cX7_canBeTold 55 = .ok (.iload_n 1, 1) := by decide +kernel
theorem dX7_canBeTold_56 : decode cX7_canBeTold 56 = .ok (.iaload, 1) := by decide +kernel
theorem dX7_canBeTold_57 : decode cX7_canBeTold 57 = .ok (.getstatic 83, 3) := by decide +kernel
theorem dX7_canBeTold_60 : decode cX7_canBeTold 60 = .ok (.iload_n 1, 1) := by decide +kernel
theorem dX7_canBeTold_61 : decode cX7_canBeTold 61 = .ok (.iaload, 1) := by decide +kernel
theorem dX7_canBeTold_62 : decode cX7_canBeTold 62 = .ok (.invokestatic 76, 3) := by decide +kernel
theorem dX7_canBeTold_65 : decode cX7_canBeTold 65 = .ok (.ireturn, 1) := by decide +kernel
theorem dX7_canBeTold_66 : decode cX7_canBeTold 66 = .ok (.aload_n 0, 1) := by decide +kernel
theorem dX7_canBeTold_67 : decode cX7_canBeTold 67 = .ok (.getfield 67, 3) := by decide +kernel
theorem dX7_canBeTold_70 : decode cX7_canBeTold 70 = .ok (.getstatic 86, 3) := by decide +kernel
theorem dX7_canBeTold_73 : decode cX7_canBeTold 73 = .ok (.iload_n 1, 1) := by decide +kernel
theorem dX7_canBeTold_74 : decode cX7_canBeTold 74 = .ok (.iaload, 1) := by decide +kernel
theorem dX7_canBeTold_75 : decode cX7_canBeTold 75 = .ok (.getstatic 89, 3) := by decide +kernel
theorem dX7_canBeTold_78 : decode cX7_canBeTold 78 = .ok (.iload_n 1, 1) := by decide +kernel
theorem dX7_canBeTold_79 : decode cX7_canBeTold 79 = .ok (.iaload, 1) := by decide +kernel
theorem dX7_canBeTold_80 : decode cX7_canBeTold 80 = .ok (.invokestatic 76, 3) := by decide +kernel
theorem dX7_canBeTold_83 : decode cX7_canBeTold 83 = .ok (.ireturn, 1) := by decide +kernel
theorem dX7_canBeTold_84 : decode cX7_canBeTold 84 = .ok (.aload_n 0, 1) := by decide +kernel
theorem dX7_canBeTold_85 : decode cX7_canBeTold 85 = .ok (.getfield 12, 3) := by decide +kernel
theorem dX7_canBeTold_88 : decode cX7_canBeTold 88 = .ok (.aload_n 0, 1) := by decide +kernel
theorem dX7_canBeTold_89 : decode cX7_canBeTold 89 = .ok (.getfield 67, 3) := by decide +kernel
theorem dX7_canBeTold_92 : decode cX7_canBeTold 92 = .ok (.invokevirtual 92, 3) := by decide +kernel
theorem dX7_canBeTold_95 : decode cX7_canBeTold 95 = .ok (.ifCond .eq 24, 3) := by decide +kernel
theorem dX7_canBeTold_98 : decode cX7_canBeTold 98 = .ok (.iload_n 1, 1) := by decide +kernel
theorem dX7_canBeTold_99 : decode cX7_canBeTold 99 = .ok (.ifCond .eq 16, 3) := by decide +kernel
theorem dX7_canBeTold_102 : decode cX7_canBeTold 102 = .ok (.aload_n 0, 1) := by decide +kernel
theorem dX7_canBeTold_103 : decode cX7_canBeTold 103 = .ok (.getfield 67, 3) := by decide +kernel
theorem dX7_canBeTold_106 : decode cX7_canBeTold 106 = .ok (.aload_n 0, 1) := by decide +kernel
theorem dX7_canBeTold_107 : decode cX7_canBeTold 107 = .ok (.getfield 22, 3) := by decide +kernel
theorem dX7_canBeTold_110 : decode cX7_canBeTold 110 = .ok (.iconst 0, 1) := by decide +kernel
theorem dX7_canBeTold_111 : decode cX7_canBeTold 111 = .ok (.iaload, 1) := by decide +kernel
theorem dX7_canBeTold_112 : decode cX7_canBeTold 112 = .ok (.if_icmp .eq 7, 3) := by decide +kernel
theorem dX7_canBeTold_115 : decode cX7_canBeTold 115 = .ok (.iconst 1, 1) := by decide +kernel
theorem dX7_canBeTold_116 : decode cX7_canBeTold 116 = .ok (.goto 4, 3) := by decide +kernel
theorem dX7_canBeTold_119 : decode cX7_canBeTold 119 = .ok (.iconst 0, 1) := by decide +kernel
theorem dX7_canBeTold_120 : decode cX7_canBeTold 120 = .ok (.ireturn, 1) := by decide +kernel
theorem dX7_numbersOfItem_0 : decode cX7_numbersOfItem 0 = .ok (.aload_n 0, 1) := by decide +kernel
theorem dX7_numbersOfItem_1 : decode cX7_numbersOfItem 1 = .ok (.getfield 35, 3) := by decide +kernel
theorem dX7_numbersOfItem_4 : decode cX7_numbersOfItem 4 = .ok (.bipush 120, 2) := by decide +kernel
theorem dX7_numbersOfItem_6 : decode cX7_numbersOfItem 6 = .ok (.if_icmp .ne 7, 3) := by decide +kernel
theorem dX7_numbersOfItem_9 : decode cX7_numbersOfItem 9 = .ok (.iconst 2, 1) := by decide +kernel
theorem dX7_numbersOfItem_10 : decode cX7_numbersOfItem 10 = .ok (.goto 4, 3) := by decide +kernel
theorem dX7_numbersOfItem_13 : decode cX7_numbersOfItem 13 = .ok (.iconst 3, 1) := by decide +kernel
theorem dX7_numbersOfItem_14 : decode cX7_numbersOfItem 14 = .ok (.ireturn, 1) := by decide +kernel
theorem dX7_takeToken_0 : decode cX7_takeToken 0 = .ok (.aload_n 0, 1) := by decide +kernel
theorem dX7_takeToken_1 : decode cX7_takeToken 1 = .ok (.getfield 41, 3) := by decide +kernel
theorem dX7_takeToken_4 : decode cX7_takeToken 4 = .ok (.iconst 1, 1) := by decide +kernel
theorem dX7_takeToken_5 : decode cX7_takeToken 5 = .ok (.if_icmp .ne 19, 3) := by decide +kernel
theorem dX7_takeToken_8 : decode cX7_takeToken 8 = .ok (.aload_n 0, 1) := by decide +kernel
theorem dX7_takeToken_9 : decode cX7_takeToken 9 = .ok (.aload_n 0, 1) := by decide +kernel
theorem dX7_takeToken_10 : decode cX7_takeToken 10 = .ok (.getfield 67, 3) := by decide +kernel
theorem dX7_takeToken_13 : decode cX7_takeToken 13 = .ok (.putfield 35, 3) := by decide +kernel
theorem dX7_takeToken_16 : decode cX7_takeToken 16 = .ok (.aload_n 0, 1) := by decide +kernel
theorem dX7_takeToken_17 : decode cX7_takeToken 17 = .ok (.iconst 0, 1) := by decide +kernel
theorem dX7_takeToken_18 : decode cX7_takeToken 18 = .ok (.putfield 57, 3) := by decide +kernel
theorem dX7_takeToken_21 : decode cX7_takeToken 21 = .ok (.goto 54, 3) := by decide +kernel
theorem dX7_takeToken_24 : decode cX7_takeToken 24 = .ok (.aload_n 0, 1) := by decide +kernel
theorem dX7_takeToken_25 : decode cX7_takeToken 25 = .ok (.getfield 41, 3) := by decide +kernel
theorem dX7_takeToken_28 : decode cX7_takeToken 28 = .ok (.iconst 2, 1) := by decide +kernel
theorem dX7_takeToken_29 : decode cX7_takeToken 29 = .ok (.if_icmp .ne 37, 3) := by decide +kernel
theorem dX7_takeToken_32 : decode cX7_takeToken 32 = .ok (.aload_n 0, 1) := by decide +kernel
theorem dX7_takeToken_33 : decode cX7_takeToken 33 = .ok (.getfield 57, 3) := by decide +kernel
theorem dX7_takeToken_36 : decode cX7_takeToken 36 = .ok (.iconst 3, 1) := by decide +kernel
theorem dX7_takeToken_37 : decode cX7_takeToken 37 = .ok (.if_icmp .ge 29, 3) := by decide +kernel
theorem dX7_takeToken_40 : decode cX7_takeToken 40 = .ok (.aload_n 0, 1) := by decide +kernel
theorem dX7_takeToken_41 : decode cX7_takeToken 41 = .ok (.getfield 22, 3) := by decide +kernel
theorem dX7_takeToken_44 : decode cX7_takeToken 44 = .ok (.aload_n 0, 1) := by decide +kernel
theorem dX7_takeToken_45 : decode cX7_takeToken 45 = .ok (.getfield 57, 3) := by decide +kernel
theorem dX7_takeToken_48 : decode cX7_takeToken 48 = .ok (.aload_n 0, 1) := by decide +kernel
theorem dX7_takeToken_49 : decode cX7_takeToken 49 = .ok (.getfield 67, 3) := by decide +kernel
theorem dX7_takeToken_52 : decode cX7_takeToken 52 = .ok (.iastore, 1) := by decide +kernel
theorem dX7_takeToken_53 : decode cX7_takeToken 53 = .ok (.aload_n 0, 1) := by decide +kernel
theorem dX7_takeToken_54 : decode cX7_takeToken 54 = .ok (.dup, 1) := by decide +kernel
theorem dX7_takeToken_55 : decode cX7_takeToken 55 = .ok (.getfield 57, 3) := by decide +kernel
theorem dX7_takeToken_58 : decode cX7_takeToken 58 = .ok (.iconst 1, 1) := by decide +kernel
theorem dX7_takeToken_59 : decode cX7_takeToken 59 = .ok (.iadd, 1) := by decide +kernel
theorem dX7_takeToken_60 : decode cX7_takeToken 60 = .ok (.putfield 57, 3) := by decide +kernel
theorem dX7_takeToken_63 : decode cX7_takeToken 63 = .ok (.goto 12, 3) := by decide +kernel
theorem dX7_takeToken_66 : decode cX7_takeToken 66 = .ok (.aload_n 0, 1) := by decide +kernel
theorem dX7_takeToken_67 : decode cX7_takeToken 67 = .ok (.invokevirtual 96, 3) := by decide +kernel
theorem dX7_takeToken_70 : decode cX7_takeToken 70 = .ok (.aload_n 0, 1) := by decide +kernel
theorem dX7_takeToken_71 : decode cX7_takeToken 71 = .ok (.iconst 0, 1) := by decide +kernel
theorem dX7_takeToken_72 : decode cX7_takeToken 72 = .ok (.putfield 35, 3) := by decide +kernel
theorem dX7_takeToken_75 : decode cX7_takeToken 75 = .ok (.return_, 1) := by decide +kernel
theorem dX7_takeItem_0 : decode cX7_takeItem 0 = .ok (.aload_n 0, 1) := by decide +kernel
theorem dX7_takeItem_1 : decode cX7_takeItem 1 = .ok (.getfield 35, 3) := by decide +kernel
theorem dX7_takeItem_4 : decode cX7_takeItem 4 = .ok (.lookupswitch 84 #[(110, 56), (116, 28)], 28) := by decide +kernel
theorem dX7_takeItem_32 : decode cX7_takeItem 32 = .ok (.aload_n 0, 1) := by decide +kernel
theorem dX7_takeItem_33 : decode cX7_takeItem 33 = .ok (.getfield 12, 3) := by decide +kernel
theorem dX7_takeItem_36 : decode cX7_takeItem 36 = .ok (.aload_n 0, 1) := by decide +kernel
theorem dX7_takeItem_37 : decode cX7_takeItem 37 = .ok (.getfield 22, 3) := by decide +kernel
theorem dX7_takeItem_40 : decode cX7_takeItem 40 = .ok (.iconst 0, 1) := by decide +kernel
theorem dX7_takeItem_41 : decode cX7_takeItem 41 = .ok (.iaload, 1) := by decide +kernel
theorem dX7_takeItem_42 : decode cX7_takeItem 42 = .ok (.aload_n 0, 1) := by decide +kernel
theorem dX7_takeItem_43 : decode cX7_takeItem 43 = .ok (.getfield 22, 3) := by decide +kernel
theorem dX7_takeItem_46 : decode cX7_takeItem 46 = .ok (.iconst 1, 1) := by decide +kernel
theorem dX7_takeItem_47 : decode cX7_takeItem 47 = .ok (.iaload, 1) := by decide +kernel
theorem dX7_takeItem_48 : decode cX7_takeItem 48 = .ok (.aload_n 0, 1) := by decide +kernel
theorem dX7_takeItem_49 : decode cX7_takeItem 49 = .ok (.getfield 22, 3) := by decide +kernel
theorem dX7_takeItem_52 : decode cX7_takeItem 52 = .ok (.iconst 2, 1) := by decide +kernel
theorem dX7_takeItem_53 : decode cX7_takeItem 53 = .ok (.iaload, 1) := by decide +kernel
theorem dX7_takeItem_54 : decode cX7_takeItem 54 = .ok (.invokevirtual 99, 3) := by decide +kernel
theorem dX7_takeItem_57 : decode cX7_takeItem 57 = .ok (.goto 50, 3) := by decide +kernel
theorem dX7_takeItem_60 : decode cX7_takeItem 60 = .ok (.aload_n 0, 1) := by decide +kernel
theorem dX7_takeItem_61 : decode cX7_takeItem 61 = .ok (.getfield 12, 3) := by decide +kernel
theorem dX7_takeItem_64 : decode cX7_takeItem 64 = .ok (.aload_n 0, 1) := by decide +kernel
theorem dX7_takeItem_65 : decode cX7_takeItem 65 = .ok (.getfield 22, 3) := by decide +kernel
theorem dX7_takeItem_68 : decode cX7_takeItem 68 = .ok (.iconst 0, 1) := by decide +kernel
theorem dX7_takeItem_69 : decode cX7_takeItem 69 = .ok (.iaload, 1) := by decide +kernel
theorem dX7_takeItem_70 : decode cX7_takeItem 70 = .ok (.aload_n 0, 1) := by decide +kernel
theorem dX7_takeItem_71 : decode cX7_takeItem 71 = .ok (.getfield 22, 3) := by decide +kernel
theorem dX7_takeItem_74 : decode cX7_takeItem 74 = .ok (.iconst 1, 1) := by decide +kernel
theorem dX7_takeItem_75 : decode cX7_takeItem 75 = .ok (.iaload, 1) := by decide +kernel
theorem dX7_takeItem_76 : decode cX7_takeItem 76 = .ok (.aload_n 0, 1) := by decide +kernel
theorem dX7_takeItem_77 : decode cX7_takeItem 77 = .ok (.getfield 22, 3) := by decide +kernel
theorem dX7_takeItem_80 : decode cX7_takeItem 80 = .ok (.iconst 2, 1) := by decide +kernel
theorem dX7_takeItem_81 : decode cX7_takeItem 81 = .ok (.iaload, 1) := by decide +kernel
theorem dX7_takeItem_82 : decode cX7_takeItem 82 = .ok (.invokevirtual 103, 3) := by decide +kernel
theorem dX7_takeItem_85 : decode cX7_takeItem 85 = .ok (.goto 22, 3) := by decide +kernel
theorem dX7_takeItem_88 : decode cX7_takeItem 88 = .ok (.aload_n 0, 1) := by decide +kernel
theorem dX7_takeItem_89 : decode cX7_takeItem 89 = .ok (.getfield 12, 3) := by decide +kernel
theorem dX7_takeItem_92 : decode cX7_takeItem 92 = .ok (.aload_n 0, 1) := by decide +kernel
theorem dX7_takeItem_93 : decode cX7_takeItem 93 = .ok (.getfield 22, 3) := by decide +kernel
theorem dX7_takeItem_96 : decode cX7_takeItem 96 = .ok (.iconst 0, 1) := by decide +kernel
theorem dX7_takeItem_97 : decode cX7_takeItem 97 = .ok (.iaload, 1) := by decide +kernel
theorem dX7_takeItem_98 : decode cX7_takeItem 98 = .ok (.aload_n 0, 1) := by decide +kernel
theorem dX7_takeItem_99 : decode cX7_takeItem 99 = .ok (.getfield 22, 3) := by decide +kernel
theorem dX7_takeItem_102 : decode cX7_takeItem 102 = .ok (.iconst 1, 1) := by decide +kernel
theorem dX7_takeItem_103 : decode cX7_takeItem 103 = .ok (.iaload, 1) := by decide +kernel
theorem dX7_takeItem_104 : decode cX7_takeItem 104 = .ok (.invokevirtual 106, 3) := by decide +kernel
theorem dX7_takeItem_107 : decode cX7_takeItem 107 = .ok (.return_, 1) := by decide +kernel
theorem dX7_readToken_0 : decode cX7_readToken 0 = .ok (.aload_n 0, 1) := by decide +kernel
theorem dX7_readToken_1 : decode cX7_readToken 1 = .ok (.aload_n 0, 1) := by decide +kernel
theorem dX7_readToken_2 : decode cX7_readToken 2 = .ok (.getfield 32, 3) := by decide +kernel
theorem dX7_readToken_5 : decode cX7_readToken 5 = .ok (.putfield 48, 3) := by decide +kernel
theorem dX7_readToken_8 : decode cX7_readToken 8 = .ok (.aload_n 0, 1) := by decide +kernel
theorem dX7_readToken_9 : decode cX7_readToken 9 = .ok (.getfield 48, 3) := by decide +kernel
theorem dX7_readToken_12 : decode cX7_readToken 12 = .ok (.aload_n 0, 1) := by decide +kernel
theorem dX7_readToken_13 : decode cX7_readToken 13 = .ok (.getfield 25, 3) := by decide +kernel
theorem dX7_readToken_16 : decode cX7_readToken 16 = .ok (.if_icmp .ge 29, 3) := by decide +kernel
theorem dX7_readToken_19 : decode cX7_readToken 19 = .ok (.aload_n 0, 1) := by decide +kernel
theorem dX7_readToken_20 : decode cX7_readToken 20 = .ok (.aload_n 0, 1) := by decide +kernel
theorem dX7_readToken_21 : decode cX7_readToken 21 = .ok (.getfield 48, 3) := by decide +kernel
theorem dX7_readToken_24 : decode cX7_readToken 24 = .ok (.invokevirtual 110, 3) := by decide +kernel
theorem dX7_readToken_27 : decode cX7_readToken 27 = .ok (.bipush 32, 2) := by decide +kernel
theorem dX7_readToken_29 : decode cX7_readToken 29 = .ok (.if_icmp .ne 16, 3) := by decide +kernel
theorem dX7_readToken_32 : decode cX7_readToken 32 = .ok (.aload_n 0, 1) := by decide +kernel
theorem dX7_readToken_33 : decode cX7_readToken 33 = .ok (.dup, 1) := by decide +kernel
theorem dX7_readToken_34 : decode cX7_readToken 34 = .ok (.getfield 48, 3) := by decide +kernel
theorem dX7_readToken_37 : decode cX7_readToken 37 = .ok (.iconst 1, 1) := by decide +kernel
theorem dX7_readToken_38 : decode cX7_readToken 38 = .ok (.iadd, 1) := by decide +kernel
theorem dX7_readToken_39 : decode cX7_readToken 39 = .ok (.putfield 48, 3) := by decide +kernel
theorem dX7_readToken_42 : decode cX7_readToken 42 = .ok (.goto (-34), 3) := by decide +kernel
theorem dX7_readToken_45 : decode cX7_readToken 45 = .ok (.aload_n 0, 1) := by decide +kernel
theorem dX7_readToken_46 : decode cX7_readToken 46 = .ok (.aload_n 0, 1) := by decide +kernel
theorem dX7_readToken_47 : decode cX7_readToken 47 = .ok (.getfield 48, 3) := by decide +kernel
theorem dX7_readToken_50 : decode cX7_readToken 50 = .ok (.putfield 32, 3) := by decide +kernel
theorem dX7_readToken_53 : decode cX7_readToken 53 = .ok (.aload_n 0, 1) := by decide +kernel
theorem dX7_readToken_54 : decode cX7_readToken 54 = .ok (.iconst 0, 1) := by decide +kernel
theorem dX7_readToken_55 : decode cX7_readToken 55 = .ok (.putfield 67, 3) := by decide +kernel
theorem dX7_readToken_58 : decode cX7_readToken 58 = .ok (.aload_n 0, 1) := by decide +kernel
theorem dX7_readToken_59 : decode cX7_readToken 59 = .ok (.getfield 48, 3) := by decide +kernel
theorem dX7_readToken_62 : decode cX7_readToken 62 = .ok (.aload_n 0, 1) := by decide +kernel
theorem dX7_readToken_63 : decode cX7_readToken 63 = .ok (.getfield 25, 3) := by decide +kernel
theorem dX7_readToken_66 : decode cX7_readToken 66 = .ok (.if_icmp .lt 11, 3) := by decide +kernel
theorem dX7_readToken_69 : decode cX7_readToken 69 = .ok (.aload_n 0, 1) := by decide +kernel
theorem dX7_readToken_70 : decode cX7_readToken 70 = .ok (.iconst 0, 1) := by decide +kernel
theorem dX7_readToken_71 : decode cX7_readToken 71 = .ok (.putfield 41, 3) := by decide +kernel
theorem dX7_readToken_74 : decode cX7_readToken 74 = .ok (.goto 71, 3) := by decide +kernel
theorem dX7_readToken_77 : decode cX7_readToken 77 = .ok (.aload_n 0, 1) := by decide +kernel
theorem dX7_readToken_78 : decode cX7_readToken 78 = .ok (.aload_n 0, 1) := by decide +kernel
theorem dX7_readToken_79 : decode cX7_readToken 79 = .ok (.getfield 48, 3) := by decide +kernel
theorem dX7_readToken_82 : decode cX7_readToken 82 = .ok (.invokevirtual 114, 3) := by decide +kernel
theorem dX7_readToken_85 : decode cX7_readToken 85 = .ok (.ifCond .eq 10, 3) := by decide +kernel
theorem dX7_readToken_88 : decode cX7_readToken 88 = .ok (.aload_n 0, 1) := by decide +kernel
theorem dX7_readToken_89 : decode cX7_readToken 89 = .ok (.invokevirtual 117, 3) := by decide +kernel
theorem dX7_readToken_92 : decode cX7_readToken 92 = .ok (.goto 53, 3) := by decide +kernel
theorem dX7_readToken_95 : decode cX7_readToken 95 = .ok (.aload_n 0, 1) := by decide +kernel
theorem dX7_readToken_96 : decode cX7_readToken 96 = .ok (.aload_n 0, 1) := by decide +kernel
theorem dX7_readToken_97 : decode cX7_readToken 97 = .ok (.getfield 48, 3) := by decide +kernel
theorem dX7_readToken_100 : decode cX7_readToken 100 = .ok (.invokevirtual 120, 3) := by decide +kernel
theorem dX7_readToken_103 : decode cX7_readToken 103 = .ok (.ifCond .eq 10, 3) := by decide +kernel
theorem dX7_readToken_106 : decode cX7_readToken 106 = .ok (.aload_n 0, 1) := by decide +kernel
theorem dX7_readToken_107 : decode cX7_readToken 107 = .ok (.invokevirtual 123, 3) := by decide +kernel
theorem dX7_readToken_110 : decode cX7_readToken 110 = .ok (.goto 35, 3) := by decide +kernel
theorem dX7_readToken_113 : decode cX7_readToken 113 = .ok (.aload_n 0, 1) := by decide +kernel
theorem dX7_readToken_114 : decode cX7_readToken 114 = .ok (.aload_n 0, 1) := by decide +kernel
theorem dX7_readToken_115 : decode cX7_readToken 115 = .ok (.aload_n 0, 1) := by decide +kernel
theorem dX7_readToken_116 : decode cX7_readToken 116 = .ok (.getfield 48, 3) := by decide +kernel
theorem dX7_readToken_119 : decode cX7_readToken 119 = .ok (.invokevirtual 110, 3) := by decide +kernel
theorem dX7_readToken_122 : decode cX7_readToken 122 = .ok (.bipush 59, 2) := by decide +kernel
theorem dX7_readToken_124 : decode cX7_readToken 124 = .ok (.if_icmp .ne 7, 3) := by decide +kernel
theorem dX7_readToken_127 : decode cX7_readToken 127 = .ok (.iconst 3, 1) := by decide +kernel
theorem dX7_readToken_128 : decode cX7_readToken 128 = .ok (.goto 4, 3) := by decide +kernel
theorem dX7_readToken_131 : decode cX7_readToken 131 = .ok (.iconst 4, 1) := by decide +kernel
theorem dX7_readToken_132 : decode cX7_readToken 132 = .ok (.putfield 41, 3) := by decide +kernel
theorem dX7_readToken_135 : decode cX7_readToken 135 = .ok (.aload_n 0, 1) := by decide +kernel
theorem dX7_readToken_136 : decode cX7_readToken 136 = .ok (.aload_n 0, 1) := by decide +kernel
theorem dX7_readToken_137 : decode cX7_readToken 137 = .ok (.getfield 48, 3) := by decide +kernel
theorem dX7_readToken_140 : decode cX7_readToken 140 = .ok (.iconst 1, 1) := by decide +kernel
theorem dX7_readToken_141 : decode cX7_readToken 141 = .ok (.iadd, 1) := by decide +kernel
theorem dX7_readToken_142 : decode cX7_readToken 142 = .ok (.putfield 32, 3) := by decide +kernel
theorem dX7_readToken_145 : decode cX7_readToken 145 = .ok (.return_, 1) := by decide +kernel
theorem dX7_readLetters_0 : decode cX7_readLetters 0 = .ok (.aload_n 0, 1) := by decide +kernel
theorem dX7_readLetters_1 : decode cX7_readLetters 1 = .ok (.iconst 1, 1) := by decide +kernel
theorem dX7_readLetters_2 : decode cX7_readLetters 2 = .ok (.putfield 41, 3) := by decide +kernel
theorem dX7_readLetters_5 : decode cX7_readLetters 5 = .ok (.aload_n 0, 1) := by decide +kernel
theorem dX7_readLetters_6 : decode cX7_readLetters 6 = .ok (.getfield 32, 3) := by decide +kernel
theorem dX7_readLetters_9 : decode cX7_readLetters 9 = .ok (.aload_n 0, 1) := by decide +kernel
theorem dX7_readLetters_10 : decode cX7_readLetters 10 = .ok (.getfield 25, 3) := by decide +kernel
theorem dX7_readLetters_13 : decode cX7_readLetters 13 = .ok (.if_icmp .ge 27, 3) := by decide +kernel
theorem dX7_readLetters_16 : decode cX7_readLetters 16 = .ok (.aload_n 0, 1) := by decide +kernel
theorem dX7_readLetters_17 : decode cX7_readLetters 17 = .ok (.aload_n 0, 1) := by decide +kernel
theorem dX7_readLetters_18 : decode cX7_readLetters 18 = .ok (.getfield 32, 3) := by decide +kernel
theorem dX7_readLetters_21 : decode cX7_readLetters 21 = .ok (.invokevirtual 114, 3) := by decide +kernel
theorem dX7_readLetters_24 : decode cX7_readLetters 24 = .ok (.ifCond .eq 16, 3) := by decide +kernel
theorem dX7_readLetters_27 : decode cX7_readLetters 27 = .ok (.aload_n 0, 1) := by decide +kernel
theorem dX7_readLetters_28 : decode cX7_readLetters 28 = .ok (.dup, 1) := by decide +kernel
theorem dX7_readLetters_29 : decode cX7_readLetters 29 = .ok (.getfield 32, 3) := by decide +kernel
theorem dX7_readLetters_32 : decode cX7_readLetters 32 = .ok (.iconst 1, 1) := by decide +kernel
theorem dX7_readLetters_33 : decode cX7_readLetters 33 = .ok (.iadd, 1) := by decide +kernel
theorem dX7_readLetters_34 : decode cX7_readLetters 34 = .ok (.putfield 32, 3) := by decide +kernel
theorem dX7_readLetters_37 : decode cX7_readLetters 37 = .ok (.goto (-32), 3) := by decide +kernel
theorem dX7_readLetters_40 : decode cX7_readLetters 40 = .ok (.aload_n 0, 1) := by decide +kernel
theorem dX7_readLetters_41 : decode cX7_readLetters 41 = .ok (.getfield 32, 3) := by decide +kernel
theorem dX7_readLetters_44 : decode cX7_readLetters 44 = .ok (.aload_n 0, 1) := by decide +kernel
theorem dX7_readLetters_45 : decode cX7_readLetters 45 = .ok (.getfield 48, 3) := by decide +kernel
theorem dX7_readLetters_48 : decode cX7_readLetters 48 = .ok (.isub, 1) := by decide +kernel
theorem dX7_readLetters_49 : decode cX7_readLetters 49 = .ok (.iconst 1, 1) := by decide +kernel
theorem dX7_readLetters_50 : decode cX7_readLetters 50 = .ok (.if_icmp .ne 15, 3) := by decide +kernel
theorem dX7_readLetters_53 : decode cX7_readLetters 53 = .ok (.aload_n 0, 1) := by decide +kernel
theorem dX7_readLetters_54 : decode cX7_readLetters 54 = .ok (.aload_n 0, 1) := by decide +kernel
theorem dX7_readLetters_55 : decode cX7_readLetters 55 = .ok (.aload_n 0, 1) := by decide +kernel
theorem dX7_readLetters_56 : decode cX7_readLetters 56 = .ok (.getfield 48, 3) := by decide +kernel
theorem dX7_readLetters_59 : decode cX7_readLetters 59 = .ok (.invokevirtual 110, 3) := by decide +kernel
theorem dX7_readLetters_62 : decode cX7_readLetters 62 = .ok (.putfield 67, 3) := by decide +kernel
theorem dX7_readLetters_65 : decode cX7_readLetters 65 = .ok (.return_, 1) := by decide +kernel
theorem dX7_readDigits_0 : decode cX7_readDigits 0 = .ok (.aload_n 0, 1) := by decide +kernel
theorem dX7_readDigits_1 : decode cX7_readDigits 1 = .ok (.getfield 32, 3) := by decide +kernel
theorem dX7_readDigits_4 : decode cX7_readDigits 4 = .ok (.aload_n 0, 1) := by decide +kernel
theorem dX7_readDigits_5 : decode cX7_readDigits 5 = .ok (.getfield 25, 3) := by decide +kernel
theorem dX7_readDigits_8 : decode cX7_readDigits 8 = .ok (.if_icmp .ge 59, 3) := by decide +kernel
theorem dX7_readDigits_11 : decode cX7_readDigits 11 = .ok (.aload_n 0, 1) := by decide +kernel
theorem dX7_readDigits_12 : decode cX7_readDigits 12 = .ok (.aload_n 0, 1) := by decide +kernel
theorem dX7_readDigits_13 : decode cX7_readDigits 13 = .ok (.getfield 32, 3) := by decide +kernel
theorem dX7_readDigits_16 : decode cX7_readDigits 16 = .ok (.invokevirtual 120, 3) := by decide +kernel
theorem dX7_readDigits_19 : decode cX7_readDigits 19 = .ok (.ifCond .eq 48, 3) := by decide +kernel
theorem dX7_readDigits_22 : decode cX7_readDigits 22 = .ok (.aload_n 0, 1) := by decide +kernel
theorem dX7_readDigits_23 : decode cX7_readDigits 23 = .ok (.getfield 67, 3) := by decide +kernel
theorem dX7_readDigits_26 : decode cX7_readDigits 26 = .ok (.bipush 99, 2) := by decide +kernel
theorem dX7_readDigits_28 : decode cX7_readDigits 28 = .ok (.if_icmp .gt 26, 3) := by decide +kernel
theorem dX7_readDigits_31 : decode cX7_readDigits 31 = .ok (.aload_n 0, 1) := by decide +kernel
theorem dX7_readDigits_32 : decode cX7_readDigits 32 = .ok (.aload_n 0, 1) := by decide +kernel
theorem dX7_readDigits_33 : decode cX7_readDigits 33 = .ok (.getfield 67, 3) := by decide +kernel
theorem dX7_readDigits_36 : decode cX7_readDigits 36 = .ok (.bipush 10, 2) := by decide +kernel
theorem dX7_readDigits_38 : decode cX7_readDigits 38 = .ok (.imul, 1) := by decide +kernel
theorem dX7_readDigits_39 : decode cX7_readDigits 39 = .ok (.aload_n 0, 1) := by decide +kernel
theorem dX7_readDigits_40 : decode cX7_readDigits 40 = .ok (.aload_n 0, 1) := by decide +kernel
theorem dX7_readDigits_41 : decode cX7_readDigits 41 = .ok (.getfield 32, 3) := by decide +kernel
theorem dX7_readDigits_44 : decode cX7_readDigits 44 = .ok (.invokevirtual 110, 3) := by decide +kernel
theorem dX7_readDigits_47 : decode cX7_readDigits 47 = .ok (.iadd, 1) := by decide +kernel
theorem dX7_readDigits_48 : decode cX7_readDigits 48 = .ok (.bipush 48, 2) := by decide +kernel
theorem dX7_readDigits_50 : decode cX7_readDigits 50 = .ok (.isub, 1) := by decide +kernel
theorem dX7_readDigits_51 : decode cX7_readDigits 51 = .ok (.putfield 67, 3) := by decide +kernel
theorem dX7_readDigits_54 : decode cX7_readDigits 54 = .ok (.aload_n 0, 1) := by decide +kernel
theorem dX7_readDigits_55 : decode cX7_readDigits 55 = .ok (.dup, 1) := by decide +kernel
theorem dX7_readDigits_56 : decode cX7_readDigits 56 = .ok (.getfield 32, 3) := by decide +kernel
theorem dX7_readDigits_59 : decode cX7_readDigits 59 = .ok (.iconst 1, 1) := by decide +kernel
theorem dX7_readDigits_60 : decode cX7_readDigits 60 = .ok (.iadd, 1) := by decide +kernel
theorem dX7_readDigits_61 : decode cX7_readDigits 61 = .ok (.putfield 32, 3) := by decide +kernel
theorem dX7_readDigits_64 : decode cX7_readDigits 64 = .ok (.goto (-64), 3) := by decide +kernel
theorem dX7_readDigits_67 : decode cX7_readDigits 67 = .ok (.aload_n 0, 1) := by decide +kernel
theorem dX7_readDigits_68 : decode cX7_readDigits 68 = .ok (.getfield 32, 3) := by decide +kernel
theorem dX7_readDigits_71 : decode cX7_readDigits 71 = .ok (.aload_n 0, 1) := by decide +kernel
theorem dX7_readDigits_72 : decode cX7_readDigits 72 = .ok (.getfield 48, 3) := by decide +kernel
theorem dX7_readDigits_75 : decode cX7_readDigits 75 = .ok (.isub, 1) := by decide +kernel
theorem dX7_readDigits_76 : decode cX7_readDigits 76 = .ok (.iconst 1, 1) := by decide +kernel
theorem dX7_readDigits_77 : decode cX7_readDigits 77 = .ok (.if_icmp .le 20, 3) := by decide +kernel
theorem dX7_readDigits_80 : decode cX7_readDigits 80 = .ok (.aload_n 0, 1) := by decide +kernel
theorem dX7_readDigits_81 : decode cX7_readDigits 81 = .ok (.aload_n 0, 1) := by decide +kernel
theorem dX7_readDigits_82 : decode cX7_readDigits 82 = .ok (.getfield 48, 3) := by decide +kernel
theorem dX7_readDigits_85 : decode cX7_readDigits 85 = .ok (.invokevirtual 110, 3) := by decide +kernel
theorem dX7_readDigits_88 : decode cX7_readDigits 88 = .ok (.bipush 48, 2) := by decide +kernel
theorem dX7_readDigits_90 : decode cX7_readDigits 90 = .ok (.if_icmp .ne 7, 3) := by decide +kernel
theorem dX7_readDigits_93 : decode cX7_readDigits 93 = .ok (.iconst 1, 1) := by decide +kernel
theorem dX7_readDigits_94 : decode cX7_readDigits 94 = .ok (.goto 4, 3) := by decide +kernel
theorem dX7_readDigits_97 : decode cX7_readDigits 97 = .ok (.iconst 0, 1) := by decide +kernel
theorem dX7_readDigits_98 : decode cX7_readDigits 98 = .ok (.istore_n 1, 1) := by decide +kernel
theorem dX7_readDigits_99 : decode cX7_readDigits 99 = .ok (.aload_n 0, 1) := by decide +kernel
theorem dX7_readDigits_100 : decode cX7_readDigits 100 = .ok (.iload_n 1, 1) := by decide +kernel
theorem dX7_readDigits_101 : decode cX7_readDigits 101 = .ok (.ifCond .ne 12, 3) := by decide +kernel
theorem dX7_readDigits_104 : decode cX7_readDigits 104 = .ok (.aload_n 0, 1) := by decide +kernel
theorem dX7_readDigits_105 : decode cX7_readDigits 105 = .ok (.getfield 67, 3) := by decide +kernel
theorem dX7_readDigits_108 : decode cX7_readDigits 108 = .ok (.bipush 99, 2) := by decide +kernel
theorem dX7_readDigits_110 : decode cX7_readDigits 110 = .ok (.if_icmp .le 7, 3) := by decide +kernel
theorem dX7_readDigits_113 : decode cX7_readDigits 113 = .ok (.iconst 4, 1) := by decide +kernel
theorem dX7_readDigits_114 : decode cX7_readDigits 114 = .ok (.goto 4, 3) := by decide +kernel
theorem dX7_readDigits_117 : decode cX7_readDigits 117 = .ok (.iconst 2, 1) := by decide +kernel
theorem dX7_readDigits_118 : decode cX7_readDigits 118 = .ok (.putfield 41, 3) := by decide +kernel
theorem dX7_readDigits_121 : decode cX7_readDigits 121 = .ok (.return_, 1) := by decide +kernel
theorem dX7_isLetter_0 : decode cX7_isLetter 0 = .ok (.aload_n 0, 1) := by decide +kernel
theorem dX7_isLetter_1 : decode cX7_isLetter 1 = .ok (.iload_n 1, 1) := by decide +kernel
theorem dX7_isLetter_2 : decode cX7_isLetter 2 = .ok (.invokevirtual 110, 3) := by decide +kernel
theorem dX7_isLetter_5 : decode cX7_isLetter 5 = .ok (.bipush 97, 2) := by decide +kernel
theorem dX7_isLetter_7 : decode cX7_isLetter 7 = .ok (.bipush 122, 2) := by decide +kernel
theorem dX7_isLetter_9 : decode cX7_isLetter 9 = .ok (.invokestatic 76, 3) := by decide +kernel
theorem dX7_isLetter_12 : decode cX7_isLetter 12 = .ok (.ireturn, 1) := by decide +kernel
theorem dX7_isDigit_0 : decode cX7_isDigit 0 = .ok (.aload_n 0, 1) := by decide +kernel
theorem dX7_isDigit_1 : decode cX7_isDigit 1 = .ok (.iload_n 1, 1) := by decide +kernel
theorem dX7_isDigit_2 : decode cX7_isDigit 2 = .ok (.invokevirtual 110, 3) := by decide +kernel
theorem dX7_isDigit_5 : decode cX7_isDigit 5 = .ok (.bipush 48, 2) := by decide +kernel
theorem dX7_isDigit_7 : decode cX7_isDigit 7 = .ok (.bipush 57, 2) := by decide +kernel
theorem dX7_isDigit_9 : decode cX7_isDigit 9 = .ok (.invokestatic 76, 3) := by decide +kernel
theorem dX7_isDigit_12 : decode cX7_isDigit 12 = .ok (.ireturn, 1) := by decide +kernel
theorem dX7_byteAt_0 : decode cX7_byteAt 0 = .ok (.iload_n 1, 1) := by decide +kernel
theorem dX7_byteAt_1 : decode cX7_byteAt 1 = .ok (.iconst 0, 1) := by decide +kernel
theorem dX7_byteAt_2 : decode cX7_byteAt 2 = .ok (.bipush 119, 2) := by decide +kernel
theorem dX7_byteAt_4 : decode cX7_byteAt 4 = .ok (.invokestatic 76, 3) := by decide +kernel
theorem dX7_byteAt_7 : decode cX7_byteAt 7 = .ok (.ifCond .eq 12, 3) := by decide +kernel
theorem dX7_byteAt_10 : decode cX7_byteAt 10 = .ok (.aload_n 0, 1) := by decide +kernel
theorem dX7_byteAt_11 : decode cX7_byteAt 11 = .ok (.getfield 18, 3) := by decide +kernel
theorem dX7_byteAt_14 : decode cX7_byteAt 14 = .ok (.iload_n 1, 1) := by decide +kernel
theorem dX7_byteAt_15 : decode cX7_byteAt 15 = .ok (.iaload, 1) := by decide +kernel
theorem dX7_byteAt_16 : decode cX7_byteAt 16 = .ok (.goto 4, 3) := by decide +kernel
theorem dX7_byteAt_19 : decode cX7_byteAt 19 = .ok (.iconst 0, 1) := by decide +kernel
theorem dX7_byteAt_20 : decode cX7_byteAt 20 = .ok (.ireturn, 1) := by decide +kernel
theorem dX8_init_0 : decode cX8_init 0 = .ok (.aload_n 0, 1) := by decide +kernel
theorem dX8_init_1 : decode cX8_init 1 = .ok (.invokespecial 1, 3) := by decide +kernel
theorem dX8_init_4 : decode cX8_init 4 = .ok (.aload_n 0, 1) := by decide +kernel
theorem dX8_init_5 : decode cX8_init 5 = .ok (.new 7, 3) := by decide +kernel
theorem dX8_init_8 : decode cX8_init 8 = .ok (.dup, 1) := by decide +kernel
theorem dX8_init_9 : decode cX8_init 9 = .ok (.invokespecial 9, 3) := by decide +kernel
theorem dX8_init_12 : decode cX8_init 12 = .ok (.putfield 10, 3) := by decide +kernel
theorem dX8_init_15 : decode cX8_init 15 = .ok (.aload_n 0, 1) := by decide +kernel
theorem dX8_init_16 : decode cX8_init 16 = .ok (.new 16, 3) := by decide +kernel
theorem dX8_init_19 : decode cX8_init 19 = .ok (.dup, 1) := by decide +kernel
theorem dX8_init_20 : decode cX8_init 20 = .ok (.invokespecial 18, 3) := by decide +kernel
theorem dX8_init_23 : decode cX8_init 23 = .ok (.putfield 19, 3) := by decide +kernel
theorem dX8_init_26 : decode cX8_init 26 = .ok (.aload_n 0, 1) := by decide +kernel
theorem dX8_init_27 : decode cX8_init 27 = .ok (.new 23, 3) := by decide +kernel
theorem dX8_init_30 : decode cX8_init 30 = .ok (.dup, 1) := by decide +kernel
theorem dX8_init_31 : decode cX8_init 31 = .ok (.invokespecial 25, 3) := by decide +kernel
theorem dX8_init_34 : decode cX8_init 34 = .ok (.putfield 26, 3) := by decide +kernel
theorem dX8_init_37 : decode cX8_init 37 = .ok (.aload_n 0, 1) := by decide +kernel
theorem dX8_init_38 : decode cX8_init 38 = .ok (.new 30, 3) := by decide +kernel
theorem dX8_init_41 : decode cX8_init 41 = .ok (.dup, 1) := by decide +kernel
theorem dX8_init_42 : decode cX8_init 42 = .ok (.aload_n 0, 1) := by decide +kernel
theorem dX8_init_43 : decode cX8_init 43 = .ok (.getfield 10, 3) := by decide +kernel
theorem dX8_init_46 : decode cX8_init 46 = .ok (.aload_n 0, 1) := by decide +kernel
theorem dX8_init_47 : decode cX8_init 47 = .ok (.getfield 26, 3) := by decide +kernel
theorem dX8_init_50 : decode cX8_init 50 = .ok (.invokespecial 32, 3) := by decide +kernel
theorem dX8_init_53 : decode cX8_init 53 = .ok (.putfield 35, 3) := by decide +kernel
theorem dX8_init_56 : decode cX8_init 56 = .ok (.aload_n 0, 1) := by decide +kernel
theorem dX8_init_57 : decode cX8_init 57 = .ok (.new 39, 3) := by decide +kernel
theorem dX8_init_60 : decode cX8_init 60 = .ok (.dup, 1) := by decide +kernel
theorem dX8_init_61 : decode cX8_init 61 = .ok (.aload_n 0, 1) := by decide +kernel
theorem dX8_init_62 : decode cX8_init 62 = .ok (.getfield 35, 3) := by decide +kernel
theorem dX8_init_65 : decode cX8_init 65 = .ok (.invokespecial 41, 3) := by decide +kernel
theorem dX8_init_68 : decode cX8_init 68 = .ok (.putfield 44, 3) := by decide +kernel
theorem dX8_init_71 : decode cX8_init 71 = .ok (.aload_n 0, 1) := by decide +kernel
theorem dX8_init_72 : decode cX8_init 72 = .ok (.new 48, 3) := by decide +kernel
theorem dX8_init_75 : decode cX8_init 75 = .ok (.dup, 1) := by decide +kernel
theorem dX8_init_76 : decode cX8_init 76 = .ok (.aload_n 0, 1) := by decide +kernel
theorem dX8_init_77 : decode cX8_init 77 = .ok (.getfield 35, 3) := by decide +kernel
theorem dX8_init_80 : decode cX8_init 80 = .ok (.invokespecial 50, 3) := by decide +kernel
theorem dX8_init_83 : decode cX8_init 83 = .ok (.putfield 51, 3) := by decide +kernel
theorem dX8_init_86 : decode cX8_init 86 = .ok (.aload_n 0, 1) := by decide +kernel
theorem dX8_init_87 : decode cX8_init 87 = .ok (.new 55, 3) := by decide +kernel
theorem dX8_init_90 : decode cX8_init 90 = .ok (.dup, 1) := by decide +kernel
theorem dX8_init_91 : decode cX8_init 91 = .ok (.aload_n 0, 1) := by decide +kernel
theorem dX8_init_92 : decode cX8_init 92 = .ok (.getfield 35, 3) := by decide +kernel
theorem dX8_init_95 : decode cX8_init 95 = .ok (.invokespecial 57, 3) := by decide +kernel
theorem dX8_init_98 : decode cX8_init 98 = .ok (.putfield 58, 3) := by decide +kernel
theorem dX8_init_101 : decode cX8_init 101 = .ok (.aload_n 0, 1) := by decide +kernel
theorem dX8_init_102 : decode cX8_init 102 = .ok (.new 62, 3) := by decide +kernel
theorem dX8_init_105 : decode cX8_init 105 = .ok (.dup, 1) := by decide +kernel
theorem dX8_init_106 : decode cX8_init 106 = .ok (.aload_n 0, 1) := by decide +kernel
theorem dX8_init_107 : decode cX8_init 107 = .ok (.getfield 35, 3) := by decide +kernel
theorem dX8_init_110 : decode cX8_init 110 = .ok (.invokespecial 64, 3) := by decide +kernel
theorem dX8_init_113 : decode cX8_init 113 = .ok (.putfield 65, 3) := by decide +kernel
theorem dX8_init_116 : decode cX8_init 116 = .ok (.aload_n 0, 1) := by decide +kernel
theorem dX8_init_117 : decode cX8_init 117 = .ok (.new 23, 3) := by decide +kernel
theorem dX8_init_120 : decode cX8_init 120 = .ok (.dup, 1) := by decide +kernel
theorem dX8_init_121 : decode cX8_init 121 = .ok (.invokespecial 25, 3) := by decide +kernel
theorem dX8_init_124 : decode cX8_init 124 = .ok (.putfield 69, 3) := by decide +kernel
theorem dX8_init_127 : decode cX8_init 127 = .ok (.aload_n 0, 1) := by decide +kernel
theorem dX8_init_128 : decode cX8_init 128 = .ok (.new 23, 3) := by decide +kernel
theorem dX8_init_131 : decode cX8_init 131 = .ok (.dup, 1) := by decide +kernel
theorem dX8_init_132 : decode cX8_init 132 = .ok (.invokespecial 25, 3) := by decide +kernel
theorem dX8_init_135 : decode cX8_init 135 = .ok (.putfield 72, 3) := by decide +kernel
theorem dX8_init_138 : decode cX8_init 138 = .ok (.aload_n 0, 1) := by decide +kernel
theorem dX8_init_139 : decode cX8_init 139 = .ok (.iconst 2, 1) := by decide +kernel
theorem dX8_init_140 : decode cX8_init 140 = .ok (.newarray .boolean, 2) := by decide +kernel
theorem dX8_init_142 : decode cX8_init 142 = .ok (.putfield 75, 3) := by decide +kernel
theorem dX8_init_145 : decode cX8_init 145 = .ok (.aload_n 0, 1) := by decide +kernel
theorem dX8_init_146 : decode cX8_init 146 = .ok (.bipush 7, 2) := by decide +kernel
theorem dX8_init_148 : decode cX8_init 148 = .ok (.newarray .int, 2) := by decide +kernel
theorem dX8_init_150 : decode cX8_init 150 = .ok (.putfield 79, 3) := by decide +kernel
theorem dX8_init_153 : decode cX8_init 153 = .ok (.aload_n 0, 1) := by decide +kernel
theorem dX8_init_154 : decode cX8_init 154 = .ok (.getfield 26, 3) := by decide +kernel
theorem dX8_init_157 : decode cX8_init 157 = .ok (.aload_n 0, 1) := by decide +kernel
theorem dX8_init_158 : decode cX8_init 158 = .ok (.getfield 10, 3) := by decide +kernel
theorem dX8_init_161 : decode cX8_init 161 = .ok (.invokevirtual 83, 3) := by decide +kernel
theorem dX8_init_164 : decode cX8_init 164 = .ok (.return_, 1) := by decide +kernel
theorem dX8_type_0 : decode cX8_type 0 = .ok (.iload_n 1, 1) := by decide +kernel
theorem dX8_type_1 : decode cX8_type 1 = .ok (.iconst 0, 1) := by decide +kernel
theorem dX8_type_2 : decode cX8_type 2 = .ok (.sipush 255, 3) := by decide +kernel
theorem dX8_type_5 : decode cX8_type 5 = .ok (.invokestatic 87, 3) := by decide +kernel
theorem dX8_type_8 : decode cX8_type 8 = .ok (.ifCond .ne 5, 3) := by decide +kernel
theorem dX8_type_11 : decode cX8_type 11 = .ok (.iconst (-1), 1) := by decide +kernel
theorem dX8_type_12 : decode cX8_type 12 = .ok (.ireturn, 1) := by decide +kernel
theorem dX8_type_13 : decode cX8_type 13 = .ok (.aload_n 0, 1) := by decide +kernel
theorem dX8_type_14 : decode cX8_type 14 = .ok (.getfield 19, 3) := by decide +kernel
theorem dX8_type_17 : decode cX8_type 17 = .ok (.iload_n 1, 1) := by decide +kernel
theorem dX8_type_18 : decode cX8_type 18 = .ok (.invokevirtual 91, 3) := by decide +kernel
theorem dX8_type_21 : decode cX8_type 21 = .ok (.ifCond .eq 13, 3) := by decide +kernel
theorem dX8_type_24 : decode cX8_type 24 = .ok (.aload_n 0, 1) := by decide +kernel
theorem dX8_type_25 : decode cX8_type 25 = .ok (.getfield 19, 3) := by decide +kernel
theorem dX8_type_28 : decode cX8_type 28 = .ok (.getfield 95, 3) := by decide +kernel
theorem dX8_type_31 : decode cX8_type 31 = .ok (.goto 5, 3) := by decide +kernel
theorem dX8_type_34 : decode cX8_type 34 = .ok (.bipush (-3), 2) := by decide +kernel
theorem dX8_type_36 : decode cX8_type 36 = .ok (.ireturn, 1) := by decide +kernel
theorem dX8_clear_0 : decode cX8_clear 0 = .ok (.aload_n 0, 1) := by decide +kernel
theorem dX8_clear_1 : decode cX8_clear 1 = .ok (.getfield 19, 3) := by decide +kernel
theorem dX8_clear_4 : decode cX8_clear 4 = .ok (.invokevirtual 99, 3) := by decide +kernel
theorem dX8_clear_7 : decode cX8_clear 7 = .ok (.ireturn, 1) := by decide +kernel
theorem dX8_hill_0 : decode cX8_hill 0 = .ok (.aload_n 0, 1) := by decide +kernel
theorem dX8_hill_1 : decode cX8_hill 1 = .ok (.getfield 19, 3) := by decide +kernel
theorem dX8_hill_4 : decode cX8_hill 4 = .ok (.invokevirtual 103, 3) := by decide +kernel
theorem dX8_hill_7 : decode cX8_hill 7 = .ok (.istore_n 1, 1) := by decide +kernel
theorem dX8_hill_8 : decode cX8_hill 8 = .ok (.iload_n 1, 1) := by decide +kernel
theorem dX8_hill_9 : decode cX8_hill 9 = .ok (.ifCond .ge 5, 3) := by decide +kernel
theorem dX8_hill_12 : decode cX8_hill 12 = .ok (.iload_n 1, 1) := by decide +kernel
theorem dX8_hill_13 : decode cX8_hill 13 = .ok (.ireturn, 1) := by decide +kernel
theorem dX8_hill_14 : decode cX8_hill 14 = .ok (.aload_n 0, 1) := by decide +kernel
theorem dX8_hill_15 : decode cX8_hill 15 = .ok (.getfield 10, 3) := by decide +kernel
theorem dX8_hill_18 : decode cX8_hill 18 = .ok (.aload_n 0, 1) := by decide +kernel
theorem dX8_hill_19 : decode cX8_hill 19 = .ok (.getfield 19, 3) := by decide +kernel
theorem dX8_hill_22 : decode cX8_hill 22 = .ok (.getfield 106, 3) := by decide +kernel
theorem dX8_hill_25 : decode cX8_hill 25 = .ok (.invokevirtual 109, 3) := by decide +kernel
theorem dX8_hill_28 : decode cX8_hill 28 = .ok (.aload_n 0, 1) := by decide +kernel
theorem dX8_hill_29 : decode cX8_hill 29 = .ok (.getfield 26, 3) := by decide +kernel
theorem dX8_hill_32 : decode cX8_hill 32 = .ok (.aload_n 0, 1) := by decide +kernel
theorem dX8_hill_33 : decode cX8_hill 33 = .ok (.getfield 10, 3) := by decide +kernel
theorem dX8_hill_36 : decode cX8_hill 36 = .ok (.invokevirtual 83, 3) := by decide +kernel
theorem dX8_hill_39 : decode cX8_hill 39 = .ok (.aload_n 0, 1) := by decide +kernel
theorem dX8_hill_40 : decode cX8_hill 40 = .ok (.getfield 58, 3) := by decide +kernel
theorem dX8_hill_43 : decode cX8_hill 43 = .ok (.invokevirtual 112, 3) := by decide +kernel
theorem dX8_hill_46 : decode cX8_hill 46 = .ok (.pop, 1) := by decide +kernel
theorem dX8_hill_47 : decode cX8_hill 47 = .ok (.aload_n 0, 1) := by decide +kernel
theorem dX8_hill_48 : decode cX8_hill 48 = .ok (.getfield 75, 3) := by decide +kernel
theorem dX8_hill_51 : decode cX8_hill 51 = .ok (.iconst 0, 1) := by decide +kernel
theorem dX8_hill_52 : decode cX8_hill 52 = .ok (.invokestatic 113, 3) := by decide +kernel
theorem dX8_hill_55 : decode cX8_hill 55 = .ok (.aload_n 0, 1) := by decide +kernel
theorem dX8_hill_56 : decode cX8_hill 56 = .ok (.getfield 19, 3) := by decide +kernel
theorem dX8_hill_59 : decode cX8_hill 59 = .ok (.invokevirtual 99, 3) := by decide +kernel
theorem dX8_hill_62 : decode cX8_hill 62 = .ok (.pop, 1) := by decide +kernel
theorem dX8_hill_63 : decode cX8_hill 63 = .ok (.iload_n 1, 1) := by decide +kernel
theorem dX8_hill_64 : decode cX8_hill 64 = .ok (.ireturn, 1) := by decide +kernel
theorem dX8_temper_0 : decode cX8_temper 0 = .ok (.aload_n 0, 1) := by decide +kernel
theorem dX8_temper_1 : decode cX8_temper 1 = .ok (.getfield 10, 3) := by decide +kernel
theorem dX8_temper_4 : decode cX8_temper 4 = .ok (.iload_n 1, 1) := by decide +kernel
theorem dX8_temper_5 : decode cX8_temper 5 = .ok (.invokevirtual 119, 3) := by decide +kernel
theorem dX8_temper_8 : decode cX8_temper 8 = .ok (.ifCond .ne 5, 3) := by decide +kernel
theorem dX8_temper_11 : decode cX8_temper 11 = .ok (.iconst (-1), 1) := by decide +kernel
theorem dX8_temper_12 : decode cX8_temper 12 = .ok (.ireturn, 1) := by decide +kernel
theorem dX8_temper_13 : decode cX8_temper 13 = .ok (.iload_n 2, 1) := by decide +kernel
theorem dX8_temper_14 : decode cX8_temper 14 = .ok (.tableswitch 108 0 6 #[42, 51, 61, 71, 80, 89, 99], 42) := by decide +kernel
theorem dX8_temper_56 : decode cX8_temper 56 = .ok (.aload_n 0, 1) := by decide +kernel
theorem dX8_temper_57 : decode cX8_temper 57 = .ok (.getfield 26, 3) := by decide +kernel
theorem dX8_temper_60 : decode cX8_temper 60 = .ok (.iload_n 1, 1) := by decide +kernel
theorem dX8_temper_61 : decode cX8_temper 61 = .ok (.invokevirtual 122, 3) := by decide +kernel
theorem dX8_temper_64 : decode cX8_temper 64 = .ok (.ireturn, 1) := by decide +kernel
theorem dX8_temper_65 : decode cX8_temper 65 = .ok (.aload_n 0, 1) := by decide +kernel
theorem dX8_temper_66 : decode cX8_temper 66 = .ok (.getfield 10, 3) := by decide +kernel
theorem dX8_temper_69 : decode cX8_temper 69 = .ok (.getfield 126, 3) := by decide +kernel
theorem dX8_temper_72 : decode cX8_temper 72 = .ok (.iload_n 1, 1) := by decide +kernel
theorem dX8_temper_73 : decode cX8_temper 73 = .ok (.iaload, 1) := by decide +kernel
theorem dX8_temper_74 : decode cX8_temper 74 = .ok (.ireturn, 1) := by decide +kernel
theorem dX8_temper_75 : decode cX8_temper 75 = .ok (.aload_n 0, 1) := by decide +kernel
theorem dX8_temper_76 : decode cX8_temper 76 = .ok (.getfield 10, 3) := by decide +kernel
theorem dX8_temper_79 : decode cX8_temper 79 = .ok (.getfield 129, 3) := by decide +kernel
theorem dX8_temper_82 : decode cX8_temper 82 = .ok (.iload_n 1, 1) := by decide +kernel
theorem dX8_temper_83 : decode cX8_temper 83 = .ok (.iaload, 1) := by decide +kernel
theorem dX8_temper_84 : decode cX8_temper 84 = .ok (.ireturn, 1) := by decide +kernel
theorem dX8_temper_85 : decode cX8_temper 85 = .ok (.aload_n 0, 1) := by decide +kernel
theorem dX8_temper_86 : decode cX8_temper 86 = .ok (.getfield 26, 3) := by decide +kernel
theorem dX8_temper_89 : decode cX8_temper 89 = .ok (.iload_n 1, 1) := by decide +kernel
theorem dX8_temper_90 : decode cX8_temper 90 = .ok (.invokevirtual 132, 3) := by decide +kernel
theorem dX8_temper_93 : decode cX8_temper 93 = .ok (.ireturn, 1) := by decide +kernel
theorem dX8_temper_94 : decode cX8_temper 94 = .ok (.aload_n 0, 1) := by decide +kernel
theorem dX8_temper_95 : decode cX8_temper 95 = .ok (.getfield 26, 3) := by decide +kernel
theorem dX8_temper_98 : decode cX8_temper 98 = .ok (.iload_n 1, 1) := by decide +kernel
theorem dX8_temper_99 : decode cX8_temper 99 = .ok (.invokevirtual 135, 3) := by decide +kernel
theorem dX8_temper_102 : decode cX8_temper 102 = .ok (.ireturn, 1) := by decide +kernel
theorem dX8_temper_103 : decode cX8_temper 103 = .ok (.aload_n 0, 1) := by decide +kernel
theorem dX8_temper_104 : decode cX8_temper 104 = .ok (.getfield 10, 3) := by decide +kernel
theorem dX8_temper_107 : decode cX8_temper 107 = .ok (.getfield 138, 3) := by decide +kernel
theorem dX8_temper_110 : decode cX8_temper 110 = .ok (.iload_n 1, 1) := by decide +kernel
theorem dX8_temper_111 : decode cX8_temper 111 = .ok (.iaload, 1) := by decide +kernel
theorem dX8_temper_112 : decode cX8_temper 112 = .ok (.ireturn, 1) := by decide +kernel
theorem dX8_temper_113 : decode cX8_temper 113 = .ok (.aload_n 0, 1) := by decide +kernel
theorem dX8_temper_114 : decode cX8_temper 114 = .ok (.getfield 26, 3) := by decide +kernel
theorem dX8_temper_117 : decode cX8_temper 117 = .ok (.iload_n 1, 1) := by decide +kernel
theorem dX8_temper_118 : decode cX8_temper 118 = .ok (.invokevirtual 141, 3) := by decide +kernel
theorem dX8_temper_121 : decode cX8_temper 121 = .ok (.ireturn, 1) := by decide +kernel
theorem dX8_temper_122 : decode cX8_temper 122 = .ok (.iconst (-1), 1) := by decide +kernel
theorem dX8_temper_123 : decode cX8_temper 123 = .ok (.ireturn, 1) := by decide +kernel
theorem dX8_nurse_0 : decode cX8_nurse 0 = .ok (.aload_n 0, 1) := by decide +kernel
theorem dX8_nurse_1 : decode cX8_nurse 1 = .ok (.getfield 10, 3) := by decide +kernel
theorem dX8_nurse_4 : decode cX8_nurse 4 = .ok (.iload_n 1, 1) := by decide +kernel
theorem dX8_nurse_5 : decode cX8_nurse 5 = .ok (.invokevirtual 144, 3) := by decide +kernel
theorem dX8_nurse_8 : decode cX8_nurse 8 = .ok (.ifCond .ne 5, 3) := by decide +kernel
theorem dX8_nurse_11 : decode cX8_nurse 11 = .ok (.iconst (-1), 1) := by decide +kernel
theorem dX8_nurse_12 : decode cX8_nurse 12 = .ok (.ireturn, 1) := by decide +kernel
theorem dX8_nurse_13 : decode cX8_nurse 13 = .ok (.iload_n 2, 1) := by decide +kernel
theorem dX8_nurse_14 : decode cX8_nurse 14 = .ok (.tableswitch 82 0 4 #[34, 44, 54, 64, 73], 34) := by decide +kernel
theorem dX8_nurse_48 : decode cX8_nurse 48 = .ok (.aload_n 0, 1) := by decide +kernel
theorem dX8_nurse_49 : decode cX8_nurse 49 = .ok (.getfield 10, 3) := by decide +kernel
theorem dX8_nurse_52 : decode cX8_nurse 52 = .ok (.getfield 147, 3) := by decide +kernel
theorem dX8_nurse_55 : decode cX8_nurse 55 = .ok (.iload_n 1, 1) := by decide +kernel
theorem dX8_nurse_56 : decode cX8_nurse 56 = .ok (.iaload, 1) := by decide +kernel
theorem dX8_nurse_57 : decode cX8_nurse 57 = .ok (.ireturn, 1) := by decide +kernel
theorem dX8_nurse_58 : decode cX8_nurse 58 = .ok (.aload_n 0, 1) := by decide +kernel
theorem dX8_nurse_59 : decode cX8_nurse 59 = .ok (.getfield 10, 3) := by decide +kernel
theorem dX8_nurse_62 : decode cX8_nurse 62 = .ok (.getfield 150, 3) := by decide +kernel
theorem dX8_nurse_65 : decode cX8_nurse 65 = .ok (.iload_n 1, 1) := by decide +kernel
theorem dX8_nurse_66 : decode cX8_nurse 66 = .ok (.iaload, 1) := by decide +kernel
theorem dX8_nurse_67 : decode cX8_nurse 67 = .ok (.ireturn, 1) := by decide +kernel
theorem dX8_nurse_68 : decode cX8_nurse 68 = .ok (.aload_n 0, 1) := by decide +kernel
theorem dX8_nurse_69 : decode cX8_nurse 69 = .ok (.getfield 10, 3) := by decide +kernel
theorem dX8_nurse_72 : decode cX8_nurse 72 = .ok (.getfield 153, 3) := by decide +kernel
theorem dX8_nurse_75 : decode cX8_nurse 75 = .ok (.iload_n 1, 1) := by decide +kernel
theorem dX8_nurse_76 : decode cX8_nurse 76 = .ok (.iaload, 1) := by decide +kernel
theorem dX8_nurse_77 : decode cX8_nurse 77 = .ok (.ireturn, 1) := by decide +kernel
theorem dX8_nurse_78 : decode cX8_nurse 78 = .ok (.aload_n 0, 1) := by decide +kernel
theorem dX8_nurse_79 : decode cX8_nurse 79 = .ok (.getfield 35, 3) := by decide +kernel
theorem dX8_nurse_82 : decode cX8_nurse 82 = .ok (.iload_n 1, 1) := by decide +kernel
theorem dX8_nurse_83 : decode cX8_nurse 83 = .ok (.invokevirtual 156, 3) := by decide +kernel
theorem dX8_nurse_86 : decode cX8_nurse 86 = .ok (.ireturn, 1) := by decide +kernel
theorem dX8_nurse_87 : decode cX8_nurse 87 = .ok (.aload_n 0, 1) := by decide +kernel
theorem dX8_nurse_88 : decode cX8_nurse 88 = .ok (.getfield 35, 3) := by decide +kernel
theorem dX8_nurse_91 : decode cX8_nurse 91 = .ok (.iload_n 1, 1) := by decide +kernel
theorem dX8_nurse_92 : decode cX8_nurse 92 = .ok (.invokevirtual 159, 3) := by decide +kernel
theorem dX8_nurse_95 : decode cX8_nurse 95 = .ok (.ireturn, 1) := by decide +kernel
theorem dX8_nurse_96 : decode cX8_nurse 96 = .ok (.iconst (-1), 1) := by decide +kernel
theorem dX8_nurse_97 : decode cX8_nurse 97 = .ok (.ireturn, 1) := by decide +kernel
theorem dX8_sends_0 : decode cX8_sends 0 = .ok (.aload_n 0, 1) := by decide +kernel
theorem dX8_sends_1 : decode cX8_sends 1 = .ok (.getfield 10, 3) := by decide +kernel
theorem dX8_sends_4 : decode cX8_sends 4 = .ok (.iload_n 1, 1) := by decide +kernel
theorem dX8_sends_5 : decode cX8_sends 5 = .ok (.invokevirtual 119, 3) := by decide +kernel
theorem dX8_sends_8 : decode cX8_sends 8 = .ok (.ifCond .eq 14, 3) := by decide +kernel
theorem dX8_sends_11 : decode cX8_sends 11 = .ok (.aload_n 0, 1) := by decide +kernel
theorem dX8_sends_12 : decode cX8_sends 12 = .ok (.getfield 10, 3) := by decide +kernel
theorem dX8_sends_15 : decode cX8_sends 15 = .ok (.iload_n 2, 1) := by decide +kernel
theorem dX8_sends_16 : decode cX8_sends 16 = .ok (.invokevirtual 144, 3) := by decide +kernel
theorem dX8_sends_19 : decode cX8_sends 19 = .ok (.ifCond .ne 5, 3) := by decide +kernel
theorem dX8_sends_22 : decode cX8_sends 22 = .ok (.iconst (-1), 1) := by decide +kernel
theorem dX8_sends_23 : decode cX8_sends 23 = .ok (.ireturn, 1) := by decide +kernel
theorem dX8_sends_24 : decode cX8_sends 24 = .ok (.aload_n 0, 1) := by decide +kernel
theorem dX8_sends_25 : decode cX8_sends 25 = .ok (.getfield 35, 3) := by decide +kernel
theorem dX8_sends_28 : decode cX8_sends 28 = .ok (.iload_n 1, 1) := by decide +kernel
theorem dX8_sends_29 : decode cX8_sends 29 = .ok (.iload_n 2, 1) := by decide +kernel
theorem dX8_sends_30 : decode cX8_sends 30 = .ok (.invokevirtual 162, 3) := by decide +kernel
theorem dX8_sends_33 : decode cX8_sends 33 = .ok (.ifCond .ne 6, 3) := by decide +kernel
theorem dX8_sends_36 : decode cX8_sends 36 = .ok (.bipush (-2), 2) := by decide +kernel
theorem dX8_sends_38 : decode cX8_sends 38 = .ok (.ireturn, 1) := by decide +kernel
theorem dX8_sends_39 : decode cX8_sends 39 = .ok (.aload_n 0, 1) := by decide +kernel
theorem dX8_sends_40 : decode cX8_sends 40 = .ok (.getfield 26, 3) := by decide +kernel
theorem dX8_sends_43 : decode cX8_sends 43 = .ok (.invokevirtual 166, 3) := by decide +kernel
theorem dX8_sends_46 : decode cX8_sends 46 = .ok (.aload_n 0, 1) := by decide +kernel
theorem dX8_sends_47 : decode cX8_sends 47 = .ok (.getfield 26, 3) := by decide +kernel
theorem dX8_sends_50 : decode cX8_sends 50 = .ok (.iload_n 1, 1) := by decide +kernel
theorem dX8_sends_51 : decode cX8_sends 51 = .ok (.iload_n 2, 1) := by decide +kernel
theorem dX8_sends_52 : decode cX8_sends 52 = .ok (.invokevirtual 169, 3) := by decide +kernel
theorem dX8_sends_55 : decode cX8_sends 55 = .ok (.aload_n 0, 1) := by decide +kernel
theorem dX8_sends_56 : decode cX8_sends 56 = .ok (.getfield 35, 3) := by decide +kernel
theorem dX8_sends_59 : decode cX8_sends 59 = .ok (.iload_n 2, 1) := by decide +kernel
theorem dX8_sends_60 : decode cX8_sends 60 = .ok (.invokevirtual 156, 3) := by decide +kernel
theorem dX8_sends_63 : decode cX8_sends 63 = .ok (.invokestatic 173, 3) := by decide +kernel
theorem dX8_sends_66 : decode cX8_sends 66 = .ok (.ireturn, 1) := by decide +kernel
theorem dX8_fetches_0 : decode cX8_fetches 0 = .ok (.aload_n 0, 1) := by decide +kernel
theorem dX8_fetches_1 : decode cX8_fetches 1 = .ok (.getfield 10, 3) := by decide +kernel
theorem dX8_fetches_4 : decode cX8_fetches 4 = .ok (.iload_n 1, 1) := by decide +kernel
theorem dX8_fetches_5 : decode cX8_fetches 5 = .ok (.invokevirtual 119, 3) := by decide +kernel
theorem dX8_fetches_8 : decode cX8_fetches 8 = .ok (.ifCond .ne 5, 3) := by decide +kernel
theorem dX8_fetches_11 : decode cX8_fetches 11 = .ok (.iconst (-1), 1) := by decide +kernel
theorem dX8_fetches_12 : decode cX8_fetches 12 = .ok (.ireturn, 1) := by decide +kernel
theorem dX8_fetches_13 : decode cX8_fetches 13 = .ok (.aload_n 0, 1) := by decide +kernel
theorem dX8_fetches_14 : decode cX8_fetches 14 = .ok (.getfield 26, 3) := by decide +kernel
theorem dX8_fetches_17 : decode cX8_fetches 17 = .ok (.iload_n 1, 1) := by decide +kernel
theorem dX8_fetches_18 : decode cX8_fetches 18 = .ok (.invokevirtual 132, 3) := by decide +kernel
theorem dX8_fetches_21 : decode cX8_fetches 21 = .ok (.istore_n 2, 1) := by decide +kernel
theorem dX8_fetches_22 : decode cX8_fetches 22 = .ok (.iload_n 2, 1) := by decide +kernel
theorem dX8_fetches_23 : decode cX8_fetches 23 = .ok (.bipush (-9), 2) := by decide +kernel
theorem dX8_fetches_25 : decode cX8_fetches 25 = .ok (.if_icmp .ne 6, 3) := by decide +kernel
theorem dX8_fetches_28 : decode cX8_fetches 28 = .ok (.bipush (-2), 2) := by decide +kernel
theorem dX8_fetches_30 : decode cX8_fetches 30 = .ok (.ireturn, 1) := by decide +kernel
theorem dX8_fetches_31 : decode cX8_fetches 31 = .ok (.aload_n 0, 1) := by decide +kernel
theorem dX8_fetches_32 : decode cX8_fetches 32 = .ok (.getfield 26, 3) := by decide +kernel
theorem dX8_fetches_35 : decode cX8_fetches 35 = .ok (.invokevirtual 166, 3) := by decide +kernel
theorem dX8_fetches_38 : decode cX8_fetches 38 = .ok (.aload_n 0, 1) := by decide +kernel
theorem dX8_fetches_39 : decode cX8_fetches 39 = .ok (.getfield 26, 3) := by decide +kernel
theorem dX8_fetches_42 : decode cX8_fetches 42 = .ok (.iload_n 1, 1) := by decide +kernel
theorem dX8_fetches_43 : decode cX8_fetches 43 = .ok (.bipush (-9), 2) := by decide +kernel
theorem dX8_fetches_45 : decode cX8_fetches 45 = .ok (.invokevirtual 169, 3) := by decide +kernel
theorem dX8_fetches_48 : decode cX8_fetches 48 = .ok (.iload_n 2, 1) := by decide +kernel
theorem dX8_fetches_49 : decode cX8_fetches 49 = .ok (.ireturn, 1) := by decide +kernel
theorem dX8_visits_0 : decode cX8_visits 0 = .ok (.aload_n 0, 1) := by decide +kernel
theorem dX8_visits_1 : decode cX8_visits 1 = .ok (.getfield 10, 3) := by decide +kernel
theorem dX8_visits_4 : decode cX8_visits 4 = .ok (.iload_n 1, 1) := by decide +kernel
theorem dX8_visits_5 : decode cX8_visits 5 = .ok (.invokevirtual 119, 3) := by decide +kernel
theorem dX8_visits_8 : decode cX8_visits 8 = .ok (.ifCond .ne 5, 3) := by decide +kernel
theorem dX8_visits_11 : decode cX8_visits 11 = .ok (.iconst (-1), 1) := by decide +kernel
theorem dX8_visits_12 : decode cX8_visits 12 = .ok (.ireturn, 1) := by decide +kernel
theorem dX8_visits_13 : decode cX8_visits 13 = .ok (.aload_n 0, 1) := by decide +kernel
theorem dX8_visits_14 : decode cX8_visits 14 = .ok (.getfield 26, 3) := by decide +kernel
theorem dX8_visits_17 : decode cX8_visits 17 = .ok (.iload_n 1, 1) := by decide +kernel
theorem dX8_visits_18 : decode cX8_visits 18 = .ok (.invokevirtual 122, 3) := by decide +kernel
theorem dX8_visits_21 : decode cX8_visits 21 = .ok (.istore_n 2, 1) := by decide +kernel
theorem dX8_visits_22 : decode cX8_visits 22 = .ok (.aload_n 0, 1) := by decide +kernel
theorem dX8_visits_23 : decode cX8_visits 23 = .ok (.getfield 26, 3) := by decide +kernel
theorem dX8_visits_26 : decode cX8_visits 26 = .ok (.iload_n 1, 1) := by decide +kernel
theorem dX8_visits_27 : decode cX8_visits 27 = .ok (.invokevirtual 132, 3) := by decide +kernel
theorem dX8_visits_30 : decode cX8_visits 30 = .ok (.bipush (-9), 2) := by decide +kernel
theorem dX8_visits_32 : decode cX8_visits 32 = .ok (.if_icmp .eq 7, 3) := by decide +kernel
theorem dX8_visits_35 : decode cX8_visits 35 = .ok (.iload_n 2, 1) := by decide +kernel
theorem dX8_visits_36 : decode cX8_visits 36 = .ok (.ifCond .ne 6, 3) := by decide +kernel
theorem dX8_visits_39 : decode cX8_visits 39 = .ok (.bipush (-2), 2) := by decide +kernel
theorem dX8_visits_41 : decode cX8_visits 41 = .ok (.ireturn, 1) := by decide +kernel
theorem dX8_visits_42 : decode cX8_visits 42 = .ok (.aload_n 0, 1) := by decide +kernel
theorem dX8_visits_43 : decode cX8_visits 43 = .ok (.getfield 26, 3) := by decide +kernel
theorem dX8_visits_46 : decode cX8_visits 46 = .ok (.invokevirtual 166, 3) := by decide +kernel
theorem dX8_visits_49 : decode cX8_visits 49 = .ok (.aload_n 0, 1) := by decide +kernel
theorem dX8_visits_50 : decode cX8_visits 50 = .ok (.getfield 26, 3) := by decide +kernel
theorem dX8_visits_53 : decode cX8_visits 53 = .ok (.iload_n 1, 1) := by decide +kernel
theorem dX8_visits_54 : decode cX8_visits 54 = .ok (.iload_n 2, 1) := by decide +kernel
theorem dX8_visits_55 : decode cX8_visits 55 = .ok (.iconst 1, 1) := by decide +kernel
theorem dX8_visits_56 : decode cX8_visits 56 = .ok (.isub, 1) := by decide +kernel
theorem dX8_visits_57 : decode cX8_visits 57 = .ok (.invokevirtual 178, 3) := by decide +kernel
theorem dX8_visits_60 : decode cX8_visits 60 = .ok (.iload_n 2, 1) := by decide +kernel
theorem dX8_visits_61 : decode cX8_visits 61 = .ok (.iconst 1, 1) := by decide +kernel
theorem dX8_visits_62 : decode cX8_visits 62 = .ok (.isub, 1) := by decide +kernel
theorem dX8_visits_63 : decode cX8_visits 63 = .ok (.ireturn, 1) := by decide +kernel
theorem dX8_mixes_0 : decode cX8_mixes 0 = .ok (.aload_n 0, 1) := by decide +kernel
theorem dX8_mixes_1 : decode cX8_mixes 1 = .ok (.getfield 10, 3) := by decide +kernel
theorem dX8_mixes_4 : decode cX8_mixes 4 = .ok (.iload_n 1, 1) := by decide +kernel
theorem dX8_mixes_5 : decode cX8_mixes 5 = .ok (.invokevirtual 119, 3) := by decide +kernel
theorem dX8_mixes_8 : decode cX8_mixes 8 = .ok (.ifCond .eq 19, 3) := by decide +kernel
theorem dX8_mixes_11 : decode cX8_mixes 11 = .ok (.aload_n 0, 1) := by decide +kernel
theorem dX8_mixes_12 : decode cX8_mixes 12 = .ok (.getfield 10, 3) := by decide +kernel
theorem dX8_mixes_15 : decode cX8_mixes 15 = .ok (.iload_n 2, 1) := by decide +kernel
theorem dX8_mixes_16 : decode cX8_mixes 16 = .ok (.invokevirtual 119, 3) := by decide +kernel
theorem dX8_mixes_19 : decode cX8_mixes 19 = .ok (.ifCond .eq 8, 3) := by decide +kernel
theorem dX8_mixes_22 : decode cX8_mixes 22 = .ok (.iload_n 1, 1) := by decide +kernel
theorem dX8_mixes_23 : decode cX8_mixes 23 = .ok (.iload_n 2, 1) := by decide +kernel
theorem dX8_mixes_24 : decode cX8_mixes 24 = .ok (.if_icmp .ne 5, 3) := by decide +kernel
theorem dX8_mixes_27 : decode cX8_mixes 27 = .ok (.iconst (-1), 1) := by decide +kernel
theorem dX8_mixes_28 : decode cX8_mixes 28 = .ok (.ireturn, 1) := by decide +kernel
theorem dX8_mixes_29 : decode cX8_mixes 29 = .ok (.aload_n 0, 1) := by decide +kernel
theorem dX8_mixes_30 : decode cX8_mixes 30 = .ok (.getfield 26, 3) := by decide +kernel
theorem dX8_mixes_33 : decode cX8_mixes 33 = .ok (.invokevirtual 166, 3) := by decide +kernel
theorem dX8_mixes_36 : decode cX8_mixes 36 = .ok (.aload_n 0, 1) := by decide +kernel
theorem dX8_mixes_37 : decode cX8_mixes 37 = .ok (.getfield 26, 3) := by decide +kernel
theorem dX8_mixes_40 : decode cX8_mixes 40 = .ok (.iload_n 1, 1) := by decide +kernel
theorem dX8_mixes_41 : decode cX8_mixes 41 = .ok (.invokevirtual 135, 3) := by decide +kernel
theorem dX8_mixes_44 : decode cX8_mixes 44 = .ok (.istore_n 3, 1) := by decide +kernel
theorem dX8_mixes_45 : decode cX8_mixes 45 = .ok (.aload_n 0, 1) := by decide +kernel
theorem dX8_mixes_46 : decode cX8_mixes 46 = .ok (.getfield 26, 3) := by decide +kernel
theorem dX8_mixes_49 : decode cX8_mixes 49 = .ok (.iload_n 1, 1) := by decide +kernel
theorem dX8_mixes_50 : decode cX8_mixes 50 = .ok (.aload_n 0, 1) := by decide +kernel
theorem dX8_mixes_51 : decode cX8_mixes 51 = .ok (.getfield 26, 3) := by decide +kernel
theorem dX8_mixes_54 : decode cX8_mixes 54 = .ok (.iload_n 2, 1) := by decide +kernel
theorem dX8_mixes_55 : decode cX8_mixes 55 = .ok (.invokevirtual 135, 3) := by decide +kernel
theorem dX8_mixes_58 : decode cX8_mixes 58 = .ok (.invokevirtual 181, 3) := by decide +kernel
theorem dX8_mixes_61 : decode cX8_mixes 61 = .ok (.aload_n 0, 1) := by decide +kernel
theorem dX8_mixes_62 : decode cX8_mixes 62 = .ok (.getfield 26, 3) := by decide +kernel
theorem dX8_mixes_65 : decode cX8_mixes 65 = .ok (.iload_n 2, 1) := by decide +kernel
theorem dX8_mixes_66 : decode cX8_mixes 66 = .ok (.iload_n 3, 1) := by decide +kernel
theorem dX8_mixes_67 : decode cX8_mixes 67 = .ok (.invokevirtual 181, 3) := by decide +kernel
theorem dX8_mixes_70 : decode cX8_mixes 70 = .ok (.aload_n 0, 1) := by decide +kernel
theorem dX8_mixes_71 : decode cX8_mixes 71 = .ok (.getfield 26, 3) := by decide +kernel
theorem dX8_mixes_74 : decode cX8_mixes 74 = .ok (.aload_n 0, 1) := by decide +kernel
theorem dX8_mixes_75 : decode cX8_mixes 75 = .ok (.getfield 10, 3) := by decide +kernel
theorem dX8_mixes_78 : decode cX8_mixes 78 = .ok (.getfield 184, 3) := by decide +kernel
theorem dX8_mixes_81 : decode cX8_mixes 81 = .ok (.invokevirtual 187, 3) := by decide +kernel
theorem dX8_mixes_84 : decode cX8_mixes 84 = .ok (.ireturn, 1) := by decide +kernel
theorem dX8_years_0 : decode cX8_years 0 = .ok (.iload_n 1, 1) := by decide +kernel
theorem dX8_years_1 : decode cX8_years 1 = .ok (.iconst 1, 1) := by decide +kernel
theorem dX8_years_2 : decode cX8_years 2 = .ok (.bipush 9, 2) := by decide +kernel
theorem dX8_years_4 : decode cX8_years 4 = .ok (.invokestatic 87, 3) := by decide +kernel
theorem dX8_years_7 : decode cX8_years 7 = .ok (.ifCond .ne 5, 3) := by decide +kernel
theorem dX8_years_10 : decode cX8_years 10 = .ok (.iconst (-1), 1) := by decide +kernel
theorem dX8_years_11 : decode cX8_years 11 = .ok (.ireturn, 1) := by decide +kernel
theorem dX8_years_12 : decode cX8_years 12 = .ok (.aload_n 0, 1) := by decide +kernel
theorem dX8_years_13 : decode cX8_years 13 = .ok (.getfield 26, 3) := by decide +kernel
theorem dX8_years_16 : decode cX8_years 16 = .ok (.invokevirtual 190, 3) := by decide +kernel
theorem dX8_years_19 : decode cX8_years 19 = .ok (.iload_n 1, 1) := by decide +kernel
theorem dX8_years_20 : decode cX8_years 20 = .ok (.iadd, 1) := by decide +kernel
theorem dX8_years_21 : decode cX8_years 21 = .ok (.bipush 99, 2) := by decide +kernel
theorem dX8_years_23 : decode cX8_years 23 = .ok (.if_icmp .le 6, 3) := by decide +kernel
theorem dX8_years_26 : decode cX8_years 26 = .ok (.bipush (-2), 2) := by decide +kernel
theorem dX8_years_28 : decode cX8_years 28 = .ok (.ireturn, 1) := by decide +kernel
theorem dX8_years_29 : decode cX8_years 29 = .ok (.aload_n 0, 1) := by decide +kernel
theorem dX8_years_30 : decode cX8_years 30 = .ok (.getfield 26, 3) := by decide +kernel
theorem dX8_years_33 : decode cX8_years 33 = .ok (.invokevirtual 166, 3) := by decide +kernel
theorem dX8_years_36 : decode cX8_years 36 = .ok (.iconst 0, 1) := by decide +kernel
theorem dX8_years_37 : decode cX8_years 37 = .ok (.istore_n 2, 1) := by decide +kernel
theorem dX8_years_38 : decode cX8_years 38 = .ok (.iload_n 2, 1) := by decide +kernel
theorem dX8_years_39 : decode cX8_years 39 = .ok (.aload_n 0, 1) := by decide +kernel
theorem dX8_years_40 : decode cX8_years 40 = .ok (.getfield 10, 3) := by decide +kernel
theorem dX8_years_43 : decode cX8_years 43 = .ok (.getfield 184, 3) := by decide +kernel
theorem dX8_years_46 : decode cX8_years 46 = .ok (.if_icmp .ge 26, 3) := by decide +kernel
theorem dX8_years_49 : decode cX8_years 49 = .ok (.aload_n 0, 1) := by decide +kernel
theorem dX8_years_50 : decode cX8_years 50 = .ok (.getfield 26, 3) := by decide +kernel
theorem dX8_years_53 : decode cX8_years 53 = .ok (.iload_n 2, 1) := by decide +kernel
theorem dX8_years_54 : decode cX8_years 54 = .ok (.aload_n 0, 1) := by decide +kernel
theorem dX8_years_55 : decode cX8_years 55 = .ok (.getfield 35, 3) := by decide +kernel
theorem dX8_years_58 : decode cX8_years 58 = .ok (.iload_n 2, 1) := by decide +kernel
theorem dX8_years_59 : decode cX8_years 59 = .ok (.iload_n 1, 1) := by decide +kernel
theorem dX8_years_60 : decode cX8_years 60 = .ok (.invokevirtual 193, 3) := by decide +kernel
theorem dX8_years_63 : decode cX8_years 63 = .ok (.invokevirtual 178, 3) := by decide +kernel
theorem dX8_years_66 : decode cX8_years 66 = .ok (.iinc 2 1, 3) := by decide +kernel
theorem dX8_years_69 : decode cX8_years 69 = .ok (.goto (-31), 3) := by decide +kernel
theorem dX8_years_72 : decode cX8_years 72 = .ok (.aload_n 0, 1) := by decide +kernel
theorem dX8_years_73 : decode cX8_years 73 = .ok (.getfield 26, 3) := by decide +kernel
theorem dX8_years_76 : decode cX8_years 76 = .ok (.aload_n 0, 1) := by decide +kernel
theorem dX8_years_77 : decode cX8_years 77 = .ok (.getfield 26, 3) := by decide +kernel
theorem dX8_years_80 : decode cX8_years 80 = .ok (.invokevirtual 190, 3) := by decide +kernel
theorem dX8_years_83 : decode cX8_years 83 = .ok (.iload_n 1, 1) := by decide +kernel
theorem dX8_years_84 : decode cX8_years 84 = .ok (.iadd, 1) := by decide +kernel
theorem dX8_years_85 : decode cX8_years 85 = .ok (.invokevirtual 197, 3) := by decide +kernel
theorem dX8_years_88 : decode cX8_years 88 = .ok (.aload_n 0, 1) := by decide +kernel
theorem dX8_years_89 : decode cX8_years 89 = .ok (.getfield 35, 3) := by decide +kernel
theorem dX8_years_92 : decode cX8_years 92 = .ok (.invokevirtual 201, 3) := by decide +kernel
theorem dX8_years_95 : decode cX8_years 95 = .ok (.invokestatic 173, 3) := by decide +kernel
theorem dX8_years_98 : decode cX8_years 98 = .ok (.ireturn, 1) := by decide +kernel
theorem dX8_undo_0 : decode cX8_undo 0 = .ok (.aload_n 0, 1) := by decide +kernel
theorem dX8_undo_1 : decode cX8_undo 1 = .ok (.getfield 26, 3) := by decide +kernel
theorem dX8_undo_4 : decode cX8_undo 4 = .ok (.invokevirtual 204, 3) := by decide +kernel
theorem dX8_undo_7 : decode cX8_undo 7 = .ok (.ifCond .eq 13, 3) := by decide +kernel
theorem dX8_undo_10 : decode cX8_undo 10 = .ok (.aload_n 0, 1) := by decide +kernel
theorem dX8_undo_11 : decode cX8_undo 11 = .ok (.getfield 26, 3) := by decide +kernel
theorem dX8_undo_14 : decode cX8_undo 14 = .ok (.getfield 208, 3) := by decide +kernel
theorem dX8_undo_17 : decode cX8_undo 17 = .ok (.goto 5, 3) := by decide +kernel
theorem dX8_undo_20 : decode cX8_undo 20 = .ok (.bipush (-2), 2) := by decide +kernel
theorem dX8_undo_22 : decode cX8_undo 22 = .ok (.ireturn, 1) := by decide +kernel
theorem dX8_now_0 : decode cX8_now 0 = .ok (.iload_n 1, 1) := by decide +kernel
theorem dX8_now_1 : decode cX8_now 1 = .ok (.tableswitch 82 0 4 #[35, 43, 51, 66, 74], 35) := by decide +kernel
theorem dX8_now_36 : decode cX8_now 36 = .ok (.aload_n 0, 1) := by decide +kernel
theorem dX8_now_37 : decode cX8_now 37 = .ok (.getfield 26, 3) := by decide +kernel
theorem dX8_now_40 : decode cX8_now 40 = .ok (.invokevirtual 190, 3) := by decide +kernel
theorem dX8_now_43 : decode cX8_now 43 = .ok (.ireturn, 1) := by decide +kernel
theorem dX8_now_44 : decode cX8_now 44 = .ok (.aload_n 0, 1) := by decide +kernel
theorem dX8_now_45 : decode cX8_now 45 = .ok (.getfield 35, 3) := by decide +kernel
theorem dX8_now_48 : decode cX8_now 48 = .ok (.invokevirtual 201, 3) := by decide +kernel
theorem dX8_now_51 : decode cX8_now 51 = .ok (.ireturn, 1) := by decide +kernel
theorem dX8_now_52 : decode cX8_now 52 = .ok (.aload_n 0, 1) := by decide +kernel
theorem dX8_now_53 : decode cX8_now 53 = .ok (.getfield 26, 3) := by decide +kernel
theorem dX8_now_56 : decode cX8_now 56 = .ok (.aload_n 0, 1) := by decide +kernel
theorem dX8_now_57 : decode cX8_now 57 = .ok (.getfield 10, 3) := by decide +kernel
theorem dX8_now_60 : decode cX8_now 60 = .ok (.getfield 184, 3) := by decide +kernel
theorem dX8_now_63 : decode cX8_now 63 = .ok (.invokevirtual 187, 3) := by decide +kernel
theorem dX8_now_66 : decode cX8_now 66 = .ok (.ireturn, 1) := by decide +kernel
theorem dX8_now_67 : decode cX8_now 67 = .ok (.aload_n 0, 1) := by decide +kernel
theorem dX8_now_68 : decode cX8_now 68 = .ok (.getfield 44, 3) := by decide +kernel
theorem dX8_now_71 : decode cX8_now 71 = .ok (.invokevirtual 211, 3) := by decide +kernel
theorem dX8_now_74 : decode cX8_now 74 = .ok (.ireturn, 1) := by decide +kernel
theorem dX8_now_75 : decode cX8_now 75 = .ok (.aload_n 0, 1) := by decide +kernel
theorem dX8_now_76 : decode cX8_now 76 = .ok (.getfield 35, 3) := by decide +kernel
theorem dX8_now_79 : decode cX8_now 79 = .ok (.invokevirtual 214, 3) := by decide +kernel
theorem dX8_now_82 : decode cX8_now 82 = .ok (.ireturn, 1) := by decide +kernel
theorem dX8_now_83 : decode cX8_now 83 = .ok (.iconst (-1), 1) := by decide +kernel
theorem dX8_now_84 : decode cX8_now 84 = .ok (.ireturn, 1) := by decide +kernel
theorem dX8_when_0 : decode cX8_when 0 = .ok (.aload_n 0, 1) := by decide +kernel
theorem dX8_when_1 : decode cX8_when 1 = .ok (.getfield 10, 3) := by decide +kernel
theorem dX8_when_4 : decode cX8_when 4 = .ok (.iload_n 1, 1) := by decide +kernel
theorem dX8_when_5 : decode cX8_when 5 = .ok (.invokevirtual 119, 3) := by decide +kernel
theorem dX8_when_8 : decode cX8_when 8 = .ok (.ifCond .eq 14, 3) := by decide +kernel
theorem dX8_when_11 : decode cX8_when 11 = .ok (.aload_n 0, 1) := by decide +kernel
theorem dX8_when_12 : decode cX8_when 12 = .ok (.getfield 10, 3) := by decide +kernel
theorem dX8_when_15 : decode cX8_when 15 = .ok (.iload_n 2, 1) := by decide +kernel
theorem dX8_when_16 : decode cX8_when 16 = .ok (.invokevirtual 144, 3) := by decide +kernel
theorem dX8_when_19 : decode cX8_when 19 = .ok (.ifCond .ne 5, 3) := by decide +kernel
theorem dX8_when_22 : decode cX8_when 22 = .ok (.iconst (-1), 1) := by decide +kernel
theorem dX8_when_23 : decode cX8_when 23 = .ok (.ireturn, 1) := by decide +kernel
theorem dX8_when_24 : decode cX8_when 24 = .ok (.aload_n 0, 1) := by decide +kernel
theorem dX8_when_25 : decode cX8_when 25 = .ok (.getfield 35, 3) := by decide +kernel
theorem dX8_when_28 : decode cX8_when 28 = .ok (.iload_n 1, 1) := by decide +kernel
theorem dX8_when_29 : decode cX8_when 29 = .ok (.iload_n 2, 1) := by decide +kernel
theorem dX8_when_30 : decode cX8_when 30 = .ok (.invokevirtual 217, 3) := by decide +kernel
theorem dX8_when_33 : decode cX8_when 33 = .ok (.ireturn, 1) := by decide +kernel
theorem dX8_hot_0 : decode cX8_hot 0 = .ok (.aload_n 0, 1) := by decide +kernel
theorem dX8_hot_1 : decode cX8_hot 1 = .ok (.getfield 10, 3) := by decide +kernel
theorem dX8_hot_4 : decode cX8_hot 4 = .ok (.iload_n 1, 1) := by decide +kernel
theorem dX8_hot_5 : decode cX8_hot 5 = .ok (.invokevirtual 119, 3) := by decide +kernel
theorem dX8_hot_8 : decode cX8_hot 8 = .ok (.ifCond .eq 13, 3) := by decide +kernel
theorem dX8_hot_11 : decode cX8_hot 11 = .ok (.iload_n 2, 1) := by decide +kernel
theorem dX8_hot_12 : decode cX8_hot 12 = .ok (.iconst 0, 1) := by decide +kernel
theorem dX8_hot_13 : decode cX8_hot 13 = .ok (.bipush 99, 2) := by decide +kernel
theorem dX8_hot_15 : decode cX8_hot 15 = .ok (.invokestatic 87, 3) := by decide +kernel
theorem dX8_hot_18 : decode cX8_hot 18 = .ok (.ifCond .ne 5, 3) := by decide +kernel
theorem dX8_hot_21 : decode cX8_hot 21 = .ok (.iconst (-1), 1) := by decide +kernel
theorem dX8_hot_22 : decode cX8_hot 22 = .ok (.ireturn, 1) := by decide +kernel
theorem dX8_hot_23 : decode cX8_hot 23 = .ok (.aload_n 0, 1) := by decide +kernel
theorem dX8_hot_24 : decode cX8_hot 24 = .ok (.getfield 35, 3) := by decide +kernel
theorem dX8_hot_27 : decode cX8_hot 27 = .ok (.iload_n 1, 1) := by decide +kernel
theorem dX8_hot_28 : decode cX8_hot 28 = .ok (.iload_n 2, 1) := by decide +kernel
theorem dX8_hot_29 : decode cX8_hot 29 = .ok (.invokevirtual 193, 3) := by decide +kernel
theorem dX8_hot_32 : decode cX8_hot 32 = .ok (.ireturn, 1) := by decide +kernel
theorem dX8_plan_0 : decode cX8_plan 0 = .ok (.iload_n 1, 1) := by decide +kernel
theorem dX8_plan_1 : decode cX8_plan 1 = .ok (.iconst (-1), 1) := by decide +kernel
theorem dX8_plan_2 : decode cX8_plan 2 = .ok (.if_icmp .eq 16, 3) := by decide +kernel
theorem dX8_plan_5 : decode cX8_plan 5 = .ok (.aload_n 0, 1) := by decide +kernel
theorem dX8_plan_6 : decode cX8_plan 6 = .ok (.getfield 10, 3) := by decide +kernel
theorem dX8_plan_9 : decode cX8_plan 9 = .ok (.iload_n 1, 1) := by decide +kernel
theorem dX8_plan_10 : decode cX8_plan 10 = .ok (.invokevirtual 119, 3) := by decide +kernel
theorem dX8_plan_13 : decode cX8_plan 13 = .ok (.ifCond .ne 5, 3) := by decide +kernel
theorem dX8_plan_16 : decode cX8_plan 16 = .ok (.iconst (-1), 1) := by decide +kernel
theorem dX8_plan_17 : decode cX8_plan 17 = .ok (.ireturn, 1) := by decide +kernel
theorem dX8_plan_18 : decode cX8_plan 18 = .ok (.aload_n 0, 1) := by decide +kernel
theorem dX8_plan_19 : decode cX8_plan 19 = .ok (.getfield 44, 3) := by decide +kernel
theorem dX8_plan_22 : decode cX8_plan 22 = .ok (.invokevirtual 220, 3) := by decide +kernel
theorem dX8_plan_25 : decode cX8_plan 25 = .ok (.iload_n 1, 1) := by decide +kernel
theorem dX8_plan_26 : decode cX8_plan 26 = .ok (.iconst (-1), 1) := by decide +kernel
theorem dX8_plan_27 : decode cX8_plan 27 = .ok (.if_icmp .ne 13, 3) := by decide +kernel
theorem dX8_plan_30 : decode cX8_plan 30 = .ok (.aload_n 0, 1) := by decide +kernel
theorem dX8_plan_31 : decode cX8_plan 31 = .ok (.getfield 44, 3) := by decide +kernel
theorem dX8_plan_34 : decode cX8_plan 34 = .ok (.getfield 223, 3) := by decide +kernel
theorem dX8_plan_37 : decode cX8_plan 37 = .ok (.goto 12, 3) := by decide +kernel
theorem dX8_plan_40 : decode cX8_plan 40 = .ok (.aload_n 0, 1) := by decide +kernel
theorem dX8_plan_41 : decode cX8_plan 41 = .ok (.getfield 44, 3) := by decide +kernel
theorem dX8_plan_44 : decode cX8_plan 44 = .ok (.getfield 226, 3) := by decide +kernel
theorem dX8_plan_47 : decode cX8_plan 47 = .ok (.iload_n 1, 1) := by decide +kernel
theorem dX8_plan_48 : decode cX8_plan 48 = .ok (.iaload, 1) := by decide +kernel
theorem dX8_plan_49 : decode cX8_plan 49 = .ok (.ireturn, 1) := by decide +kernel
theorem dX8_best_0 : decode cX8_best 0 = .ok (.aload_n 0, 1) := by decide +kernel
theorem dX8_best_1 : decode cX8_best 1 = .ok (.getfield 10, 3) := by decide +kernel
theorem dX8_best_4 : decode cX8_best 4 = .ok (.iload_n 1, 1) := by decide +kernel
theorem dX8_best_5 : decode cX8_best 5 = .ok (.invokevirtual 119, 3) := by decide +kernel
theorem dX8_best_8 : decode cX8_best 8 = .ok (.ifCond .eq 12, 3) := by decide +kernel
theorem dX8_best_11 : decode cX8_best 11 = .ok (.iload_n 2, 1) := by decide +kernel
theorem dX8_best_12 : decode cX8_best 12 = .ok (.iconst 0, 1) := by decide +kernel
theorem dX8_best_13 : decode cX8_best 13 = .ok (.iconst 1, 1) := by decide +kernel
theorem dX8_best_14 : decode cX8_best 14 = .ok (.invokestatic 87, 3) := by decide +kernel
theorem dX8_best_17 : decode cX8_best 17 = .ok (.ifCond .ne 6, 3) := by decide +kernel
theorem dX8_best_20 : decode cX8_best 20 = .ok (.ldc 229, 2) := by decide +kernel
theorem dX8_best_22 : decode cX8_best 22 = .ok (.ireturn, 1) := by decide +kernel
theorem dX8_best_23 : decode cX8_best 23 = .ok (.iconst 0, 1) := by decide +kernel
theorem dX8_best_24 : decode cX8_best 24 = .ok (.istore_n 3, 1) := by decide +kernel
theorem dX8_best_25 : decode cX8_best 25 = .ok (.aload_n 0, 1) := by decide +kernel
theorem dX8_best_26 : decode cX8_best 26 = .ok (.getfield 35, 3) := by decide +kernel
theorem dX8_best_29 : decode cX8_best 29 = .ok (.iload_n 1, 1) := by decide +kernel
theorem dX8_best_30 : decode cX8_best 30 = .ok (.iconst 0, 1) := by decide +kernel
theorem dX8_best_31 : decode cX8_best 31 = .ok (.invokevirtual 230, 3) := by decide +kernel
theorem dX8_best_34 : decode cX8_best 34 = .ok (.istore 4, 2) := by decide +kernel
theorem dX8_best_36 : decode cX8_best 36 = .ok (.iconst 1, 1) := by decide +kernel
theorem dX8_best_37 : decode cX8_best 37 = .ok (.istore 5, 2) := by decide +kernel
theorem dX8_best_39 : decode cX8_best 39 = .ok (.iload 5, 2) := by decide +kernel
theorem dX8_best_41 : decode cX8_best 41 = .ok (.bipush 20, 2) := by decide +kernel
theorem dX8_best_43 : decode cX8_best 43 = .ok (.if_icmp .gt 35, 3) := by decide +kernel
theorem dX8_best_46 : decode cX8_best 46 = .ok (.aload_n 0, 1) := by decide +kernel
theorem dX8_best_47 : decode cX8_best 47 = .ok (.getfield 35, 3) := by decide +kernel
theorem dX8_best_50 : decode cX8_best 50 = .ok (.iload_n 1, 1) := by decide +kernel
theorem dX8_best_51 : decode cX8_best 51 = .ok (.iload 5, 2) := by decide +kernel
theorem dX8_best_53 : decode cX8_best 53 = .ok (.invokevirtual 230, 3) := by decide +kernel
theorem dX8_best_56 : decode cX8_best 56 = .ok (.istore 6, 2) := by decide +kernel
theorem dX8_best_58 : decode cX8_best 58 = .ok (.iload 6, 2) := by decide +kernel
theorem dX8_best_60 : decode cX8_best 60 = .ok (.iload 4, 2) := by decide +kernel
theorem dX8_best_62 : decode cX8_best 62 = .ok (.if_icmp .le 10, 3) := by decide +kernel
theorem dX8_best_65 : decode cX8_best 65 = .ok (.iload 6, 2) := by decide +kernel
theorem dX8_best_67 : decode cX8_best 67 = .ok (.istore 4, 2) := by decide +kernel
theorem dX8_best_69 : decode cX8_best 69 = .ok (.iload 5, 2) := by decide +kernel
theorem dX8_best_71 : decode cX8_best 71 = .ok (.istore_n 3, 1) := by decide +kernel
theorem dX8_best_72 : decode cX8_best 72 = .ok (.iinc 5 1, 3) := by decide +kernel
theorem dX8_best_75 : decode cX8_best 75 = .ok (.goto (-36), 3) := by decide +kernel
theorem dX8_best_78 : decode cX8_best 78 = .ok (.iload_n 2, 1) := by decide +kernel
theorem dX8_best_79 : decode cX8_best 79 = .ok (.ifCond .ne 7, 3) := by decide +kernel
theorem dX8_best_82 : decode cX8_best 82 = .ok (.iload_n 3, 1) := by decide +kernel
theorem dX8_best_83 : decode cX8_best 83 = .ok (.goto 5, 3) := by decide +kernel
theorem dX8_best_86 : decode cX8_best 86 = .ok (.iload 4, 2) := by decide +kernel
theorem dX8_best_88 : decode cX8_best 88 = .ok (.ireturn, 1) := by decide +kernel
theorem dX8_beds_0 : decode cX8_beds 0 = .ok (.iload_n 1, 1) := by decide +kernel
theorem dX8_beds_1 : decode cX8_beds 1 = .ok (.iconst 0, 1) := by decide +kernel
theorem dX8_beds_2 : decode cX8_beds 2 = .ok (.sipush 198, 3) := by decide +kernel
theorem dX8_beds_5 : decode cX8_beds 5 = .ok (.invokestatic 87, 3) := by decide +kernel
theorem dX8_beds_8 : decode cX8_beds 8 = .ok (.ifCond .ne 5, 3) := by decide +kernel
theorem dX8_beds_11 : decode cX8_beds 11 = .ok (.iconst (-1), 1) := by decide +kernel
theorem dX8_beds_12 : decode cX8_beds 12 = .ok (.ireturn, 1) := by decide +kernel
theorem dX8_beds_13 : decode cX8_beds 13 = .ok (.iload_n 2, 1) := by decide +kernel
theorem dX8_beds_14 : decode cX8_beds 14 = .ok (.iconst (-1), 1) := by decide +kernel
theorem dX8_beds_15 : decode cX8_beds 15 = .ok (.if_icmp .eq 16, 3) := by decide +kernel
theorem dX8_beds_18 : decode cX8_beds 18 = .ok (.aload_n 0, 1) := by decide +kernel
theorem dX8_beds_19 : decode cX8_beds 19 = .ok (.getfield 10, 3) := by decide +kernel
theorem dX8_beds_22 : decode cX8_beds 22 = .ok (.iload_n 2, 1) := by decide +kernel
theorem dX8_beds_23 : decode cX8_beds 23 = .ok (.invokevirtual 119, 3) := by decide +kernel
theorem dX8_beds_26 : decode cX8_beds 26 = .ok (.ifCond .ne 5, 3) := by decide +kernel
theorem dX8_beds_29 : decode cX8_beds 29 = .ok (.iconst (-1), 1) := by decide +kernel
theorem dX8_beds_30 : decode cX8_beds 30 = .ok (.ireturn, 1) := by decide +kernel
theorem dX8_beds_31 : decode cX8_beds 31 = .ok (.aload_n 0, 1) := by decide +kernel
theorem dX8_beds_32 : decode cX8_beds 32 = .ok (.getfield 51, 3) := by decide +kernel
theorem dX8_beds_35 : decode cX8_beds 35 = .ok (.iload_n 1, 1) := by decide +kernel
theorem dX8_beds_36 : decode cX8_beds 36 = .ok (.invokevirtual 233, 3) := by decide +kernel
theorem dX8_beds_39 : decode cX8_beds 39 = .ok (.iload_n 2, 1) := by decide +kernel
theorem dX8_beds_40 : decode cX8_beds 40 = .ok (.iconst (-1), 1) := by decide +kernel
theorem dX8_beds_41 : decode cX8_beds 41 = .ok (.if_icmp .ne 13, 3) := by decide +kernel
theorem dX8_beds_44 : decode cX8_beds 44 = .ok (.aload_n 0, 1) := by decide +kernel
theorem dX8_beds_45 : decode cX8_beds 45 = .ok (.getfield 51, 3) := by decide +kernel
theorem dX8_beds_48 : decode cX8_beds 48 = .ok (.getfield 236, 3) := by decide +kernel
theorem dX8_beds_51 : decode cX8_beds 51 = .ok (.goto 12, 3) := by decide +kernel
theorem dX8_beds_54 : decode cX8_beds 54 = .ok (.aload_n 0, 1) := by decide +kernel
theorem dX8_beds_55 : decode cX8_beds 55 = .ok (.getfield 51, 3) := by decide +kernel
theorem dX8_beds_58 : decode cX8_beds 58 = .ok (.getfield 237, 3) := by decide +kernel
theorem dX8_beds_61 : decode cX8_beds 61 = .ok (.iload_n 2, 1) := by decide +kernel
theorem dX8_beds_62 : decode cX8_beds 62 = .ok (.iaload, 1) := by decide +kernel
theorem dX8_beds_63 : decode cX8_beds 63 = .ok (.ireturn, 1) := by decide +kernel
theorem dX8_odds_0 : decode cX8_odds 0 = .ok (.iload_n 1, 1) := by decide +kernel
theorem dX8_odds_1 : decode cX8_odds 1 = .ok (.iconst 0, 1) := by decide +kernel
theorem dX8_odds_2 : decode cX8_odds 2 = .ok (.bipush 10, 2) := by decide +kernel
theorem dX8_odds_4 : decode cX8_odds 4 = .ok (.invokestatic 87, 3) := by decide +kernel
theorem dX8_odds_7 : decode cX8_odds 7 = .ok (.ifCond .eq 22, 3) := by decide +kernel
theorem dX8_odds_10 : decode cX8_odds 10 = .ok (.iload_n 2, 1) := by decide +kernel
theorem dX8_odds_11 : decode cX8_odds 11 = .ok (.iconst 0, 1) := by decide +kernel
theorem dX8_odds_12 : decode cX8_odds 12 = .ok (.bipush 6, 2) := by decide +kernel
theorem dX8_odds_14 : decode cX8_odds 14 = .ok (.invokestatic 87, 3) := by decide +kernel
theorem dX8_odds_17 : decode cX8_odds 17 = .ok (.ifCond .eq 12, 3) := by decide +kernel
theorem dX8_odds_20 : decode cX8_odds 20 = .ok (.iload_n 3, 1) := by decide +kernel
theorem dX8_odds_21 : decode cX8_odds 21 = .ok (.iconst 0, 1) := by decide +kernel
theorem dX8_odds_22 : decode cX8_odds 22 = .ok (.iconst 1, 1) := by decide +kernel
theorem dX8_odds_23 : decode cX8_odds 23 = .ok (.invokestatic 87, 3) := by decide +kernel
theorem dX8_odds_26 : decode cX8_odds 26 = .ok (.ifCond .ne 5, 3) := by decide +kernel
theorem dX8_odds_29 : decode cX8_odds 29 = .ok (.iconst (-1), 1) := by decide +kernel
theorem dX8_odds_30 : decode cX8_odds 30 = .ok (.ireturn, 1) := by decide +kernel
theorem dX8_odds_31 : decode cX8_odds 31 = .ok (.aload_n 0, 1) := by decide +kernel
theorem dX8_odds_32 : decode cX8_odds 32 = .ok (.iload_n 1, 1) := by decide +kernel
theorem dX8_odds_33 : decode cX8_odds 33 = .ok (.iload_n 2, 1) := by decide +kernel
theorem dX8_odds_34 : decode cX8_odds 34 = .ok (.invokevirtual 238, 3) := by decide +kernel
theorem dX8_odds_37 : decode cX8_odds 37 = .ok (.istore 4, 2) := by decide +kernel
theorem dX8_odds_39 : decode cX8_odds 39 = .ok (.aload_n 0, 1) := by decide +kernel
theorem dX8_odds_40 : decode cX8_odds 40 = .ok (.iload_n 1, 1) := by decide +kernel
theorem dX8_odds_41 : decode cX8_odds 41 = .ok (.bipush 6, 2) := by decide +kernel
theorem dX8_odds_43 : decode cX8_odds 43 = .ok (.invokevirtual 238, 3) := by decide +kernel
theorem dX8_odds_46 : decode cX8_odds 46 = .ok (.istore 5, 2) := by decide +kernel
theorem dX8_odds_48 : decode cX8_odds 48 = .ok (.iload 4, 2) := by decide +kernel
theorem dX8_odds_50 : decode cX8_odds 50 = .ok (.iload 5, 2) := by decide +kernel
theorem dX8_odds_52 : decode cX8_odds 52 = .ok (.invokestatic 241, 3) := by decide +kernel
theorem dX8_odds_55 : decode cX8_odds 55 = .ok (.istore 6, 2) := by decide +kernel
theorem dX8_odds_57 : decode cX8_odds 57 = .ok (.iload 6, 2) := by decide +kernel
theorem dX8_odds_59 : decode cX8_odds 59 = .ok (.ifCond .ne 5, 3) := by decide +kernel
theorem dX8_odds_62 : decode cX8_odds 62 = .ok (.iconst (-1), 1) := by decide +kernel
theorem dX8_odds_63 : decode cX8_odds 63 = .ok (.ireturn, 1) := by decide +kernel
theorem dX8_odds_64 : decode cX8_odds 64 = .ok (.iload_n 3, 1) := by decide +kernel
theorem dX8_odds_65 : decode cX8_odds 65 = .ok (.ifCond .ne 8, 3) := by decide +kernel
theorem dX8_odds_68 : decode cX8_odds 68 = .ok (.iload 4, 2) := by decide +kernel
theorem dX8_odds_70 : decode cX8_odds 70 = .ok (.goto 5, 3) := by decide +kernel
theorem dX8_odds_73 : decode cX8_odds 73 = .ok (.iload 5, 2) := by decide +kernel
theorem dX8_odds_75 : decode cX8_odds 75 = .ok (.iload 6, 2) := by decide +kernel
theorem dX8_odds_77 : decode cX8_odds 77 = .ok (.idiv, 1) := by decide +kernel
theorem dX8_odds_78 : decode cX8_odds 78 = .ok (.ireturn, 1) := by decide +kernel
theorem dX8_hears_0 : decode cX8_hears 0 = .ok (.iload_n 1, 1) := by decide +kernel
theorem dX8_hears_1 : decode cX8_hears 1 = .ok (.iconst 0, 1) := by decide +kernel
theorem dX8_hears_2 : decode cX8_hears 2 = .ok (.bipush 99, 2) := by decide +kernel
theorem dX8_hears_4 : decode cX8_hears 4 = .ok (.invokestatic 87, 3) := by decide +kernel
theorem dX8_hears_7 : decode cX8_hears 7 = .ok (.ifCond .eq 12, 3) := by decide +kernel
theorem dX8_hears_10 : decode cX8_hears 10 = .ok (.iload_n 2, 1) := by decide +kernel
theorem dX8_hears_11 : decode cX8_hears 11 = .ok (.iconst 0, 1) := by decide +kernel
theorem dX8_hears_12 : decode cX8_hears 12 = .ok (.iconst 1, 1) := by decide +kernel
theorem dX8_hears_13 : decode cX8_hears 13 = .ok (.invokestatic 87, 3) := by decide +kernel
theorem dX8_hears_16 : decode cX8_hears 16 = .ok (.ifCond .ne 5, 3) := by decide +kernel
theorem dX8_hears_19 : decode cX8_hears 19 = .ok (.iconst (-1), 1) := by decide +kernel
theorem dX8_hears_20 : decode cX8_hears 20 = .ok (.ireturn, 1) := by decide +kernel
theorem dX8_hears_21 : decode cX8_hears 21 = .ok (.aload_n 0, 1) := by decide +kernel
theorem dX8_hears_22 : decode cX8_hears 22 = .ok (.getfield 58, 3) := by decide +kernel
theorem dX8_hears_25 : decode cX8_hears 25 = .ok (.iload_n 1, 1) := by decide +kernel
theorem dX8_hears_26 : decode cX8_hears 26 = .ok (.iload_n 2, 1) := by decide +kernel
theorem dX8_hears_27 : decode cX8_hears 27 = .ok (.invokevirtual 244, 3) := by decide +kernel
theorem dX8_hears_30 : decode cX8_hears 30 = .ok (.ifCond .eq 13, 3) := by decide +kernel
theorem dX8_hears_33 : decode cX8_hears 33 = .ok (.aload_n 0, 1) := by decide +kernel
theorem dX8_hears_34 : decode cX8_hears 34 = .ok (.getfield 58, 3) := by decide +kernel
theorem dX8_hears_37 : decode cX8_hears 37 = .ok (.getfield 246, 3) := by decide +kernel
theorem dX8_hears_40 : decode cX8_hears 40 = .ok (.goto 5, 3) := by decide +kernel
theorem dX8_hears_43 : decode cX8_hears 43 = .ok (.bipush (-3), 2) := by decide +kernel
theorem dX8_hears_45 : decode cX8_hears 45 = .ok (.ireturn, 1) := by decide +kernel
theorem dX8_forget_0 : decode cX8_forget 0 = .ok (.aload_n 0, 1) := by decide +kernel
theorem dX8_forget_1 : decode cX8_forget 1 = .ok (.getfield 58, 3) := by decide +kernel
theorem dX8_forget_4 : decode cX8_forget 4 = .ok (.invokevirtual 112, 3) := by decide +kernel
theorem dX8_forget_7 : decode cX8_forget 7 = .ok (.ireturn, 1) := by decide +kernel
theorem dX8_whose_0 : decode cX8_whose 0 = .ok (.aload_n 0, 1) := by decide +kernel
theorem dX8_whose_1 : decode cX8_whose 1 = .ok (.getfield 58, 3) := by decide +kernel
theorem dX8_whose_4 : decode cX8_whose 4 = .ok (.invokevirtual 249, 3) := by decide +kernel
theorem dX8_whose_7 : decode cX8_whose 7 = .ok (.ireturn, 1) := by decide +kernel
theorem dX8_ask_0 : decode cX8_ask 0 = .ok (.aload_n 0, 1) := by decide +kernel
theorem dX8_ask_1 : decode cX8_ask 1 = .ok (.getfield 58, 3) := by decide +kernel
theorem dX8_ask_4 : decode cX8_ask 4 = .ok (.invokevirtual 252, 3) := by decide +kernel
theorem dX8_ask_7 : decode cX8_ask 7 = .ok (.ireturn, 1) := by decide +kernel
theorem dX8_mark_0 : decode cX8_mark 0 = .ok (.aload_n 0, 1) := by decide +kernel
theorem dX8_mark_1 : decode cX8_mark 1 = .ok (.getfield 10, 3) := by decide +kernel
theorem dX8_mark_4 : decode cX8_mark 4 = .ok (.iload_n 2, 1) := by decide +kernel
theorem dX8_mark_5 : decode cX8_mark 5 = .ok (.invokevirtual 119, 3) := by decide +kernel
theorem dX8_mark_8 : decode cX8_mark 8 = .ok (.ifCond .ne 6, 3) := by decide +kernel
theorem dX8_mark_11 : decode cX8_mark 11 = .ok (.ldc 229, 2) := by decide +kernel
theorem dX8_mark_13 : decode cX8_mark 13 = .ok (.ireturn, 1) := by decide +kernel
theorem dX8_mark_14 : decode cX8_mark 14 = .ok (.iload_n 1, 1) := by decide +kernel
theorem dX8_mark_15 : decode cX8_mark 15 = .ok (.tableswitch 91 0 5 #[37, 46, 55, 64, 73, 82], 37) := by decide +kernel
theorem dX8_mark_52 : decode cX8_mark 52 = .ok (.aload_n 0, 1) := by decide +kernel
theorem dX8_mark_53 : decode cX8_mark 53 = .ok (.getfield 65, 3) := by decide +kernel
theorem dX8_mark_56 : decode cX8_mark 56 = .ok (.iload_n 2, 1) := by decide +kernel
theorem dX8_mark_57 : decode cX8_mark 57 = .ok (.invokevirtual 255, 3) := by decide +kernel
theorem dX8_mark_60 : decode cX8_mark 60 = .ok (.ireturn, 1) := by decide +kernel
theorem dX8_mark_61 : decode cX8_mark 61 = .ok (.aload_n 0, 1) := by decide +kernel
theorem dX8_mark_62 : decode cX8_mark 62 = .ok (.getfield 65, 3) := by decide +kernel
theorem dX8_mark_65 : decode cX8_mark 65 = .ok (.iload_n 2, 1) := by decide +kernel
theorem dX8_mark_66 : decode cX8_mark 66 = .ok (.invokevirtual 258, 3) := by decide +kernel
theorem dX8_mark_69 : decode cX8_mark 69 = .ok (.ireturn, 1) := by decide +kernel
theorem dX8_mark_70 : decode cX8_mark 70 = .ok (.aload_n 0, 1) := by decide +kernel
theorem dX8_mark_71 : decode cX8_mark 71 = .ok (.getfield 65, 3) := by decide +kernel
theorem dX8_mark_74 : decode cX8_mark 74 = .ok (.iload_n 2, 1) := by decide +kernel
theorem dX8_mark_75 : decode cX8_mark 75 = .ok (.invokevirtual 261, 3) := by decide +kernel
theorem dX8_mark_78 : decode cX8_mark 78 = .ok (.ireturn, 1) := by decide +kernel
theorem dX8_mark_79 : decode cX8_mark 79 = .ok (.aload_n 0, 1) := by decide +kernel
theorem dX8_mark_80 : decode cX8_mark 80 = .ok (.getfield 65, 3) := by decide +kernel
theorem dX8_mark_83 : decode cX8_mark 83 = .ok (.iload_n 2, 1) := by decide +kernel
theorem dX8_mark_84 : decode cX8_mark 84 = .ok (.invokevirtual 264, 3) := by decide +kernel
theorem dX8_mark_87 : decode cX8_mark 87 = .ok (.ireturn, 1) := by decide +kernel
theorem dX8_mark_88 : decode cX8_mark 88 = .ok (.aload_n 0, 1) := by decide +kernel
theorem dX8_mark_89 : decode cX8_mark 89 = .ok (.getfield 65, 3) := by decide +kernel
theorem dX8_mark_92 : decode cX8_mark 92 = .ok (.iload_n 2, 1) := by decide +kernel
theorem dX8_mark_93 : decode cX8_mark 93 = .ok (.invokevirtual 267, 3) := by decide +kernel
theorem dX8_mark_96 : decode cX8_mark 96 = .ok (.ireturn, 1) := by decide +kernel
theorem dX8_mark_97 : decode cX8_mark 97 = .ok (.aload_n 0, 1) := by decide +kernel
theorem dX8_mark_98 : decode cX8_mark 98 = .ok (.getfield 65, 3) := by decide +kernel
theorem dX8_mark_101 : decode cX8_mark 101 = .ok (.iload_n 2, 1) := by decide +kernel
theorem dX8_mark_102 : decode cX8_mark 102 = .ok (.invokevirtual 270, 3) := by decide +kernel
theorem dX8_mark_105 : decode cX8_mark 105 = .ok (.ireturn, 1) := by decide +kernel
theorem dX8_mark_106 : decode cX8_mark 106 = .ok (.ldc 229, 2) := by decide +kernel
theorem dX8_mark_108 : decode cX8_mark 108 = .ok (.ireturn, 1) := by decide +kernel
theorem dX8_keep_0 : decode cX8_keep 0 = .ok (.iload_n 1, 1) := by decide +kernel
theorem dX8_keep_1 : decode cX8_keep 1 = .ok (.iconst 0, 1) := by decide +kernel
theorem dX8_keep_2 : decode cX8_keep 2 = .ok (.iconst 1, 1) := by decide +kernel
theorem dX8_keep_3 : decode cX8_keep 3 = .ok (.invokestatic 87, 3) := by decide +kernel
theorem dX8_keep_6 : decode cX8_keep 6 = .ok (.ifCond .ne 5, 3) := by decide +kernel
theorem dX8_keep_9 : decode cX8_keep 9 = .ok (.iconst (-1), 1) := by decide +kernel
theorem dX8_keep_10 : decode cX8_keep 10 = .ok (.ireturn, 1) := by decide +kernel
theorem dX8_keep_11 : decode cX8_keep 11 = .ok (.aload_n 0, 1) := by decide +kernel
theorem dX8_keep_12 : decode cX8_keep 12 = .ok (.iload_n 1, 1) := by decide +kernel
theorem dX8_keep_13 : decode cX8_keep 13 = .ok (.invokevirtual 273, 3) := by decide +kernel
theorem dX8_keep_16 : decode cX8_keep 16 = .ok (.aload_n 0, 1) := by decide +kernel
theorem dX8_keep_17 : decode cX8_keep 17 = .ok (.getfield 26, 3) := by decide +kernel
theorem dX8_keep_20 : decode cX8_keep 20 = .ok (.invokevirtual 277, 3) := by decide +kernel
theorem dX8_keep_23 : decode cX8_keep 23 = .ok (.aload_n 0, 1) := by decide +kernel
theorem dX8_keep_24 : decode cX8_keep 24 = .ok (.getfield 75, 3) := by decide +kernel
theorem dX8_keep_27 : decode cX8_keep 27 = .ok (.iload_n 1, 1) := by decide +kernel
theorem dX8_keep_28 : decode cX8_keep 28 = .ok (.iconst 1, 1) := by decide +kernel
theorem dX8_keep_29 : decode cX8_keep 29 = .ok (.bastore, 1) := by decide +kernel
theorem dX8_keep_30 : decode cX8_keep 30 = .ok (.aload_n 0, 1) := by decide +kernel
theorem dX8_keep_31 : decode cX8_keep 31 = .ok (.getfield 26, 3) := by decide +kernel
theorem dX8_keep_34 : decode cX8_keep 34 = .ok (.invokevirtual 190, 3) := by decide +kernel
theorem dX8_keep_37 : decode cX8_keep 37 = .ok (.ireturn, 1) := by decide +kernel
theorem dX8_back_0 : decode cX8_back 0 = .ok (.iload_n 1, 1) := by decide +kernel
theorem dX8_back_1 : decode cX8_back 1 = .ok (.iconst 0, 1) := by decide +kernel
theorem dX8_back_2 : decode cX8_back 2 = .ok (.iconst 1, 1) := by decide +kernel
theorem dX8_back_3 : decode cX8_back 3 = .ok (.invokestatic 87, 3) := by decide +kernel
theorem dX8_back_6 : decode cX8_back 6 = .ok (.ifCond .ne 5, 3) := by decide +kernel
theorem dX8_back_9 : decode cX8_back 9 = .ok (.iconst (-1), 1) := by decide +kernel
theorem dX8_back_10 : decode cX8_back 10 = .ok (.ireturn, 1) := by decide +kernel
theorem dX8_back_11 : decode cX8_back 11 = .ok (.aload_n 0, 1) := by decide +kernel
theorem dX8_back_12 : decode cX8_back 12 = .ok (.getfield 75, 3) := by decide +kernel
theorem dX8_back_15 : decode cX8_back 15 = .ok (.iload_n 1, 1) := by decide +kernel
theorem dX8_back_16 : decode cX8_back 16 = .ok (.baload, 1) := by decide +kernel
theorem dX8_back_17 : decode cX8_back 17 = .ok (.ifCond .ne 6, 3) := by decide +kernel
theorem dX8_back_20 : decode cX8_back 20 = .ok (.bipush (-2), 2) := by decide +kernel
theorem dX8_back_22 : decode cX8_back 22 = .ok (.ireturn, 1) := by decide +kernel
theorem dX8_back_23 : decode cX8_back 23 = .ok (.aload_n 0, 1) := by decide +kernel
theorem dX8_back_24 : decode cX8_back 24 = .ok (.getfield 26, 3) := by decide +kernel
theorem dX8_back_27 : decode cX8_back 27 = .ok (.aload_n 0, 1) := by decide +kernel
theorem dX8_back_28 : decode cX8_back 28 = .ok (.iload_n 1, 1) := by decide +kernel
theorem dX8_back_29 : decode cX8_back 29 = .ok (.invokevirtual 273, 3) := by decide +kernel
theorem dX8_back_32 : decode cX8_back 32 = .ok (.invokevirtual 277, 3) := by decide +kernel
theorem dX8_back_35 : decode cX8_back 35 = .ok (.aload_n 0, 1) := by decide +kernel
theorem dX8_back_36 : decode cX8_back 36 = .ok (.getfield 26, 3) := by decide +kernel
theorem dX8_back_39 : decode cX8_back 39 = .ok (.invokevirtual 190, 3) := by decide +kernel
theorem dX8_back_42 : decode cX8_back 42 = .ok (.ireturn, 1) := by decide +kernel
theorem dX8_count_0 : decode cX8_count 0 = .ok (.iload_n 1, 1) := by decide +kernel
theorem dX8_count_1 : decode cX8_count 1 = .ok (.tableswitch 75 0 4 #[35, 43, 51, 59, 67], 35) := by decide +kernel
theorem dX8_count_36 : decode cX8_count 36 = .ok (.aload_n 0, 1) := by decide +kernel
theorem dX8_count_37 : decode cX8_count 37 = .ok (.getfield 10, 3) := by decide +kernel
theorem dX8_count_40 : decode cX8_count 40 = .ok (.getfield 184, 3) := by decide +kernel
theorem dX8_count_43 : decode cX8_count 43 = .ok (.ireturn, 1) := by decide +kernel
theorem dX8_count_44 : decode cX8_count 44 = .ok (.aload_n 0, 1) := by decide +kernel
theorem dX8_count_45 : decode cX8_count 45 = .ok (.getfield 10, 3) := by decide +kernel
theorem dX8_count_48 : decode cX8_count 48 = .ok (.getfield 280, 3) := by decide +kernel
theorem dX8_count_51 : decode cX8_count 51 = .ok (.ireturn, 1) := by decide +kernel
theorem dX8_count_52 : decode cX8_count 52 = .ok (.aload_n 0, 1) := by decide +kernel
theorem dX8_count_53 : decode cX8_count 53 = .ok (.getfield 58, 3) := by decide +kernel
theorem dX8_count_56 : decode cX8_count 56 = .ok (.getfield 246, 3) := by decide +kernel
theorem dX8_count_59 : decode cX8_count 59 = .ok (.ireturn, 1) := by decide +kernel
theorem dX8_count_60 : decode cX8_count 60 = .ok (.aload_n 0, 1) := by decide +kernel
theorem dX8_count_61 : decode cX8_count 61 = .ok (.getfield 26, 3) := by decide +kernel
theorem dX8_count_64 : decode cX8_count 64 = .ok (.getfield 208, 3) := by decide +kernel
theorem dX8_count_67 : decode cX8_count 67 = .ok (.ireturn, 1) := by decide +kernel
theorem dX8_count_68 : decode cX8_count 68 = .ok (.aload_n 0, 1) := by decide +kernel
theorem dX8_count_69 : decode cX8_count 69 = .ok (.getfield 19, 3) := by decide +kernel
theorem dX8_count_72 : decode cX8_count 72 = .ok (.getfield 95, 3) := by decide +kernel
theorem dX8_count_75 : decode cX8_count 75 = .ok (.ireturn, 1) := by decide +kernel
theorem dX8_count_76 : decode cX8_count 76 = .ok (.iconst (-1), 1) := by decide +kernel
theorem dX8_count_77 : decode cX8_count 77 = .ok (.ireturn, 1) := by decide +kernel
theorem dX8_trace_0 : decode cX8_trace 0 = .ok (.aload_n 0, 1) := by decide +kernel
theorem dX8_trace_1 : decode cX8_trace 1 = .ok (.getfield 65, 3) := by decide +kernel
theorem dX8_trace_4 : decode cX8_trace 4 = .ok (.getfield 283, 3) := by decide +kernel
theorem dX8_trace_7 : decode cX8_trace 7 = .ok (.lreturn, 1) := by decide +kernel
theorem dX8_isWithin_0 : decode cX8_isWithin 0 = .ok (.iload_n 0, 1) := by decide +kernel
theorem dX8_isWithin_1 : decode cX8_isWithin 1 = .ok (.iload_n 1, 1) := by decide +kernel
theorem dX8_isWithin_2 : decode cX8_isWithin 2 = .ok (.if_icmp .lt 12, 3) := by decide +kernel
theorem dX8_isWithin_5 : decode cX8_isWithin 5 = .ok (.iload_n 0, 1) := by decide +kernel
theorem dX8_isWithin_6 : decode cX8_isWithin 6 = .ok (.iload_n 2, 1) := by decide +kernel
theorem dX8_isWithin_7 : decode cX8_isWithin 7 = .ok (.if_icmp .gt 7, 3) := by decide +kernel
theorem dX8_isWithin_10 : decode cX8_isWithin 10 = .ok (.iconst 1, 1) := by decide +kernel
theorem dX8_isWithin_11 : decode cX8_isWithin 11 = .ok (.goto 4, 3) := by decide +kernel
theorem dX8_isWithin_14 : decode cX8_isWithin 14 = .ok (.iconst 0, 1) := by decide +kernel
theorem dX8_isWithin_15 : decode cX8_isWithin 15 = .ok (.ireturn, 1) := by decide +kernel
theorem dX8_bit_0 : decode cX8_bit 0 = .ok (.iconst 1, 1) := by decide +kernel
theorem dX8_bit_1 : decode cX8_bit 1 = .ok (.iload_n 0, 1) := by decide +kernel
theorem dX8_bit_2 : decode cX8_bit 2 = .ok (.ishl, 1) := by decide +kernel
theorem dX8_bit_3 : decode cX8_bit 3 = .ok (.ireturn, 1) := by decide +kernel
theorem dX8_imageOf_0 : decode cX8_imageOf 0 = .ok (.iload_n 1, 1) := by decide +kernel
theorem dX8_imageOf_1 : decode cX8_imageOf 1 = .ok (.ifCond .ne 10, 3) := by decide +kernel
theorem dX8_imageOf_4 : decode cX8_imageOf 4 = .ok (.aload_n 0, 1) := by decide +kernel
theorem dX8_imageOf_5 : decode cX8_imageOf 5 = .ok (.getfield 69, 3) := by decide +kernel
theorem dX8_imageOf_8 : decode cX8_imageOf 8 = .ok (.goto 7, 3) := by decide +kernel
theorem dX8_imageOf_11 : decode cX8_imageOf 11 = .ok (.aload_n 0, 1) := by decide +kernel
theorem dX8_imageOf_12 : decode cX8_imageOf 12 = .ok (.getfield 72, 3) := by decide +kernel
theorem dX8_imageOf_15 : decode cX8_imageOf 15 = .ok (.areturn, 1) := by decide +kernel
theorem dX8_countLooseWays_0 : decode cX8_countLooseWays 0 = .ok (.aload_n 0, 1) := by decide +kernel
theorem dX8_countLooseWays_1 : decode cX8_countLooseWays 1 = .ok (.getfield 79, 3) := by decide +kernel
theorem dX8_countLooseWays_4 : decode cX8_countLooseWays 4 = .ok (.iconst 0, 1) := by decide +kernel
theorem dX8_countLooseWays_5 : decode cX8_countLooseWays 5 = .ok (.invokestatic 287, 3) := by decide +kernel
theorem dX8_countLooseWays_8 : decode cX8_countLooseWays 8 = .ok (.aload_n 0, 1) := by decide +kernel
theorem dX8_countLooseWays_9 : decode cX8_countLooseWays 9 = .ok (.getfield 79, 3) := by decide +kernel
theorem dX8_countLooseWays_12 : decode cX8_countLooseWays 12 = .ok (.iconst 0, 1) := by decide +kernel
theorem dX8_countLooseWays_13 : decode cX8_countLooseWays 13 = .ok (.iconst 1, 1) := by decide +kernel
theorem dX8_countLooseWays_14 : decode cX8_countLooseWays 14 = .ok (.iastore, 1) := by decide +kernel
theorem dX8_countLooseWays_15 : decode cX8_countLooseWays 15 = .ok (.iconst 0, 1) := by decide +kernel
theorem dX8_countLooseWays_16 : decode cX8_countLooseWays 16 = .ok (.istore_n 3, 1) := by decide +kernel
theorem dX8_countLooseWays_17 : decode cX8_countLooseWays 17 = .ok (.iload_n 3, 1) := by decide +kernel
theorem dX8_countLooseWays_18 : decode cX8_countLooseWays 18 = .ok (.aload_n 0, 1) := by decide +kernel
theorem dX8_countLooseWays_19 : decode cX8_countLooseWays 19 = .ok (.getfield 10, 3) := by decide +kernel
theorem dX8_countLooseWays_22 : decode cX8_countLooseWays 22 = .ok (.getfield 184, 3) := by decide +kernel
theorem dX8_countLooseWays_25 : decode cX8_countLooseWays 25 = .ok (.if_icmp .ge 82, 3) := by decide +kernel
theorem dX8_countLooseWays_28 : decode cX8_countLooseWays 28 = .ok (.aload_n 0, 1) := by decide +kernel
theorem dX8_countLooseWays_29 : decode cX8_countLooseWays 29 = .ok (.getfield 26, 3) := by decide +kernel
theorem dX8_countLooseWays_32 : decode cX8_countLooseWays 32 = .ok (.iload_n 3, 1) := by decide +kernel
theorem dX8_countLooseWays_33 : decode cX8_countLooseWays 33 = .ok (.invokevirtual 122, 3) := by decide +kernel
theorem dX8_countLooseWays_36 : decode cX8_countLooseWays 36 = .ok (.ifCond .ne 6, 3) := by decide +kernel
theorem dX8_countLooseWays_39 : decode cX8_countLooseWays 39 = .ok (.goto 62, 3) := by decide +kernel
theorem dX8_countLooseWays_42 : decode cX8_countLooseWays 42 = .ok (.bipush 6, 2) := by decide +kernel
theorem dX8_countLooseWays_44 : decode cX8_countLooseWays 44 = .ok (.istore 4, 2) := by decide +kernel
theorem dX8_countLooseWays_46 : decode cX8_countLooseWays 46 = .ok (.iload 4, 2) := by decide +kernel
theorem dX8_countLooseWays_48 : decode cX8_countLooseWays 48 = .ok (.ifCond .le 40, 3) := by decide +kernel
theorem dX8_countLooseWays_51 : decode cX8_countLooseWays 51 = .ok (.aload_n 0, 1) := by decide +kernel
theorem dX8_countLooseWays_52 : decode cX8_countLooseWays 52 = .ok (.getfield 79, 3) := by decide +kernel
theorem dX8_countLooseWays_55 : decode cX8_countLooseWays 55 = .ok (.iload 4, 2) := by decide +kernel
theorem dX8_countLooseWays_57 : decode cX8_countLooseWays 57 = .ok (.aload_n 0, 1) := by decide +kernel
theorem dX8_countLooseWays_58 : decode cX8_countLooseWays 58 = .ok (.getfield 79, 3) := by decide +kernel
theorem dX8_countLooseWays_61 : decode cX8_countLooseWays 61 = .ok (.iload 4, 2) := by decide +kernel
theorem dX8_countLooseWays_63 : decode cX8_countLooseWays 63 = .ok (.iaload, 1) := by decide +kernel
theorem dX8_countLooseWays_64 : decode cX8_countLooseWays 64 = .ok (.bipush 10, 2) := by decide +kernel
theorem dX8_countLooseWays_66 : decode cX8_countLooseWays 66 = .ok (.iload_n 1, 1) := by decide +kernel
theorem dX8_countLooseWays_67 : decode cX8_countLooseWays 67 = .ok (.isub, 1) := by decide +kernel
theorem dX8_countLooseWays_68 : decode cX8_countLooseWays 68 = .ok (.imul, 1) := by decide +kernel
theorem dX8_countLooseWays_69 : decode cX8_countLooseWays 69 = .ok (.aload_n 0, 1) := by decide +kernel
theorem dX8_countLooseWays_70 : decode cX8_countLooseWays 70 = .ok (.getfield 79, 3) := by decide +kernel
theorem dX8_countLooseWays_73 : decode cX8_countLooseWays 73 = .ok (.iload 4, 2) := by decide +kernel
theorem dX8_countLooseWays_75 : decode cX8_countLooseWays 75 = .ok (.iconst 1, 1) := by decide +kernel
theorem dX8_countLooseWays_76 : decode cX8_countLooseWays 76 = .ok (.isub, 1) := by decide +kernel
theorem dX8_countLooseWays_77 : decode cX8_countLooseWays 77 = .ok (.iaload, 1) := by decide +kernel
theorem dX8_countLooseWays_78 : decode cX8_countLooseWays 78 = .ok (.iload_n 1, 1) := by decide +kernel
theorem dX8_countLooseWays_79 : decode cX8_countLooseWays 79 = .ok (.imul, 1) := by decide +kernel
theorem dX8_countLooseWays_80 : decode cX8_countLooseWays 80 = .ok (.iadd, 1) := by decide +kernel
theorem dX8_countLooseWays_81 : decode cX8_countLooseWays 81 = .ok (.iastore, 1) := by decide +kernel
theorem dX8_countLooseWays_82 : decode cX8_countLooseWays 82 = .ok (.iinc 4 (-1), 3) := by decide +kernel
theorem dX8_countLooseWays_85 : decode cX8_countLooseWays 85 = .ok (.goto (-39), 3) := by decide +kernel
theorem dX8_countLooseWays_88 : decode cX8_countLooseWays 88 = .ok (.aload_n 0, 1) := by decide +kernel
theorem dX8_countLooseWays_89 : decode cX8_countLooseWays 89 = .ok (.getfield 79, 3) := by decide +kernel
theorem dX8_countLooseWays_92 : decode cX8_countLooseWays 92 = .ok (.iconst 0, 1) := by decide +kernel
theorem dX8_countLooseWays_93 : decode cX8_countLooseWays 93 = .ok (.dup2, 1) := by decide +kernel
theorem dX8_countLooseWays_94 : decode cX8_countLooseWays 94 = .ok (.iaload, 1) := by decide +kernel
theorem dX8_countLooseWays_95 : decode cX8_countLooseWays 95 = .ok (.bipush 10, 2) := by decide +kernel
theorem dX8_countLooseWays_97 : decode cX8_countLooseWays 97 = .ok (.iload_n 1, 1) := by decide +kernel
theorem dX8_countLooseWays_98 : decode cX8_countLooseWays 98 = .ok (.isub, 1) := by decide +kernel
theorem dX8_countLooseWays_99 : decode cX8_countLooseWays 99 = .ok (.imul, 1) := by decide +kernel
theorem dX8_countLooseWays_100 : decode cX8_countLooseWays 100 = .ok (.iastore, 1) := by decide +kernel
theorem dX8_countLooseWays_101 : decode cX8_countLooseWays 101 = .ok (.iinc 3 1, 3) := by decide +kernel
theorem dX8_countLooseWays_104 : decode cX8_countLooseWays 104 = .ok (.goto (-87), 3) := by decide +kernel
theorem dX8_countLooseWays_107 : decode cX8_countLooseWays 107 = .ok (.iconst 0, 1) := by decide +kernel
theorem dX8_countLooseWays_108 : decode cX8_countLooseWays 108 = .ok (.istore_n 3, 1) := by decide +kernel
theorem dX8_countLooseWays_109 : decode cX8_countLooseWays 109 = .ok (.iconst 0, 1) := by decide +kernel
theorem dX8_countLooseWays_110 : decode cX8_countLooseWays 110 = .ok (.istore 4, 2) := by decide +kernel
theorem dX8_countLooseWays_112 : decode cX8_countLooseWays 112 = .ok (.iload 4, 2) := by decide +kernel
theorem dX8_countLooseWays_114 : decode cX8_countLooseWays 114 = .ok (.iload_n 2, 1) := by decide +kernel
theorem dX8_countLooseWays_115 : decode cX8_countLooseWays 115 = .ok (.if_icmp .gt 26, 3) := by decide +kernel
theorem dX8_countLooseWays_118 : decode cX8_countLooseWays 118 = .ok (.iload 4, 2) := by decide +kernel
theorem dX8_countLooseWays_120 : decode cX8_countLooseWays 120 = .ok (.bipush 6, 2) := by decide +kernel
theorem dX8_countLooseWays_122 : decode cX8_countLooseWays 122 = .ok (.if_icmp .gt 19, 3) := by decide +kernel
theorem dX8_countLooseWays_125 : decode cX8_countLooseWays 125 = .ok (.iload_n 3, 1) := by decide +kernel
theorem dX8_countLooseWays_126 : decode cX8_countLooseWays 126 = .ok (.aload_n 0, 1) := by decide +kernel
theorem dX8_countLooseWays_127 : decode cX8_countLooseWays 127 = .ok (.getfield 79, 3) := by decide +kernel
theorem dX8_countLooseWays_130 : decode cX8_countLooseWays 130 = .ok (.iload 4, 2) := by decide +kernel
theorem dX8_countLooseWays_132 : decode cX8_countLooseWays 132 = .ok (.iaload, 1) := by decide +kernel
theorem dX8_countLooseWays_133 : decode cX8_countLooseWays 133 = .ok (.iadd, 1) := by decide +kernel
theorem dX8_countLooseWays_134 : decode cX8_countLooseWays 134 = .ok (.istore_n 3, 1) := by decide +kernel
theorem dX8_countLooseWays_135 : decode cX8_countLooseWays 135 = .ok (.iinc 4 1, 3) := by decide +kernel
theorem dX8_countLooseWays_138 : decode cX8_countLooseWays 138 = .ok (.goto (-26), 3) := by decide +kernel
theorem dX8_countLooseWays_141 : decode cX8_countLooseWays 141 = .ok (.iload_n 3, 1) := by decide +kernel
theorem dX8_countLooseWays_142 : decode cX8_countLooseWays 142 = .ok (.ireturn, 1) := by decide +kernel
theorem dX8_commonDivisor_0 : decode cX8_commonDivisor 0 = .ok (.iload_n 0, 1) := by decide +kernel
theorem dX8_commonDivisor_1 : decode cX8_commonDivisor 1 = .ok (.istore_n 2, 1) := by decide +kernel
theorem dX8_commonDivisor_2 : decode cX8_commonDivisor 2 = .ok (.iload_n 1, 1) := by decide +kernel
theorem dX8_commonDivisor_3 : decode cX8_commonDivisor 3 = .ok (.istore_n 3, 1) := by decide +kernel
theorem dX8_commonDivisor_4 : decode cX8_commonDivisor 4 = .ok (.iconst 0, 1) := by decide +kernel
theorem dX8_commonDivisor_5 : decode cX8_commonDivisor 5 = .ok (.istore 4, 2) := by decide +kernel
theorem dX8_commonDivisor_7 : decode cX8_commonDivisor 7 = .ok (.iload 4, 2) := by decide +kernel
theorem dX8_commonDivisor_9 : decode cX8_commonDivisor 9 = .ok (.bipush 64, 2) := by decide +kernel
theorem dX8_commonDivisor_11 : decode cX8_commonDivisor 11 = .ok (.if_icmp .ge 23, 3) := by decide +kernel
theorem dX8_commonDivisor_14 : decode cX8_commonDivisor 14 = .ok (.iload_n 3, 1) := by decide +kernel
theorem dX8_commonDivisor_15 : decode cX8_commonDivisor 15 = .ok (.ifCond .eq 19, 3) := by decide +kernel
theorem dX8_commonDivisor_18 : decode cX8_commonDivisor 18 = .ok (.iload_n 2, 1) := by decide +kernel
theorem dX8_commonDivisor_19 : decode cX8_commonDivisor 19 = .ok (.iload_n 3, 1) := by decide +kernel
theorem dX8_commonDivisor_20 : decode cX8_commonDivisor 20 = .ok (.irem, 1) := by decide +kernel
theorem dX8_commonDivisor_21 : decode cX8_commonDivisor 21 = .ok (.istore 5, 2) := by decide +kernel
theorem dX8_commonDivisor_23 : decode cX8_commonDivisor 23 = .ok (.iload_n 3, 1) := by decide +kernel
theorem dX8_commonDivisor_24 : decode cX8_commonDivisor 24 = .ok (.istore_n 2, 1) := by decide +kernel
theorem dX8_commonDivisor_25 : decode cX8_commonDivisor 25 = .ok (.iload 5, 2) := by decide +kernel
theorem dX8_commonDivisor_27 : decode cX8_commonDivisor 27 = .ok (.istore_n 3, 1) := by decide +kernel
theorem dX8_commonDivisor_28 : decode cX8_commonDivisor 28 = .ok (.iinc 4 1, 3) := by decide +kernel
theorem dX8_commonDivisor_31 : decode cX8_commonDivisor 31 = .ok (.goto (-24), 3) := by decide +kernel
theorem dX8_commonDivisor_34 : decode cX8_commonDivisor 34 = .ok (.iload_n 2, 1) := by decide +kernel
theorem dX8_commonDivisor_35 : decode cX8_commonDivisor 35 = .ok (.ireturn, 1) := by decide +kernel
theorem dJ6_bitCount_0f7a4_0 : decode cJ6_bitCount_0f7a4 0 = .ok (.iload_n 0, 1) := by decide +kernel
theorem dJ6_bitCount_0f7a4_1 : decode cJ6_bitCount_0f7a4 1 = .ok (.iload_n 0, 1) := by decide +kernel
theorem dJ6_bitCount_0f7a4_2 : decode cJ6_bitCount_0f7a4 2 = .ok (.iconst 1, 1) := by decide +kernel
theorem dJ6_bitCount_0f7a4_3 : decode cJ6_bitCount_0f7a4 3 = .ok (.iushr, 1) := by decide +kernel
theorem dJ6_bitCount_0f7a4_4 : decode cJ6_bitCount_0f7a4 4 = .ok (.ldc_w 265, 3) := by decide +kernel
theorem dJ6_bitCount_0f7a4_7 : decode cJ6_bitCount_0f7a4 7 = .ok (.iand, 1) := by decide +kernel
theorem dJ6_bitCount_0f7a4_8 : decode cJ6_bitCount_0f7a4 8 = .ok (.isub, 1) := by decide +kernel
theorem dJ6_bitCount_0f7a4_9 : decode cJ6_bitCount_0f7a4 9 = .ok (.istore_n 0, 1) := by decide +kernel
theorem dJ6_bitCount_0f7a4_10 : decode cJ6_bitCount_0f7a4 10 = .ok (.iload_n 0, 1) := by decide +kernel
theorem dJ6_bitCount_0f7a4_11 : decode cJ6_bitCount_0f7a4 11 = .ok (.ldc_w 266, 3) := by decide +kernel
theorem dJ6_bitCount_0f7a4_14 : decode cJ6_bitCount_0f7a4 14 = .ok (.iand, 1) := by decide +kernel
theorem dJ6_bitCount_0f7a4_15 : decode cJ6_bitCount_0f7a4 15 = .ok (.iload_n 0, 1) := by decide +kernel
theorem dJ6_bitCount_0f7a4_16 : decode cJ6_bitCount_0f7a4 16 = .ok (.iconst 2, 1) := by decide +kernel
theorem dJ6_bitCount_0f7a4_17 : decode cJ6_bitCount_0f7a4 17 = .ok (.iushr, 1) := by decide +kernel
theorem dJ6_bitCount_0f7a4_18 : decode cJ6_bitCount_0f7a4 18 = .ok (.ldc_w 266, 3) := by decide +kernel
theorem dJ6_bitCount_0f7a4_21 : decode cJ6_bitCount_0f7a4 21 = .ok (.iand, 1) := by decide +kernel
theorem dJ6_bitCount_0f7a4_22 : decode cJ6_bitCount_0f7a4 22 = .ok (.iadd, 1) := by decide +kernel
theorem dJ6_bitCount_0f7a4_23 : decode cJ6_bitCount_0f7a4 23 = .ok (.istore_n 0, 1) := by decide +kernel
theorem dJ6_bitCount_0f7a4_24 : decode cJ6_bitCount_0f7a4 24 = .ok (.iload_n 0, 1) := by decide +kernel
theorem dJ6_bitCount_0f7a4_25 : decode cJ6_bitCount_0f7a4 25 = .ok (.iload_n 0, 1) := by decide +kernel
theorem dJ6_bitCount_0f7a4_26 : decode cJ6_bitCount_0f7a4 26 = .ok (.iconst 4, 1) := by decide +kernel
theorem dJ6_bitCount_0f7a4_27 : decode cJ6_bitCount_0f7a4 27 = .ok (.iushr, 1) := by decide +kernel
theorem dJ6_bitCount_0f7a4_28 : decode cJ6_bitCount_0f7a4 28 = .ok (.iadd, 1) := by decide +kernel
theorem dJ6_bitCount_0f7a4_29 : decode cJ6_bitCount_0f7a4 29 = .ok (.ldc_w 267, 3) := by decide +kernel
theorem dJ6_bitCount_0f7a4_32 : decode cJ6_bitCount_0f7a4 32 = .ok (.iand, 1) := by decide +kernel
theorem dJ6_bitCount_0f7a4_33 : decode cJ6_bitCount_0f7a4 33 = .ok (.istore_n 0, 1) := by decide +kernel
theorem dJ6_bitCount_0f7a4_34 : decode cJ6_bitCount_0f7a4 34 = .ok (.iload_n 0, 1) := by decide +kernel
theorem dJ6_bitCount_0f7a4_35 : decode cJ6_bitCount_0f7a4 35 = .ok (.iload_n 0, 1) := by decide +kernel
theorem dJ6_bitCount_0f7a4_36 : decode cJ6_bitCount_0f7a4 36 = .ok (.bipush 8, 2) := by decide +kernel
theorem dJ6_bitCount_0f7a4_38 : decode cJ6_bitCount_0f7a4 38 = .ok (.iushr, 1) := by decide +kernel
theorem dJ6_bitCount_0f7a4_39 : decode cJ6_bitCount_0f7a4 39 = .ok (.iadd, 1) := by decide +kernel
theorem dJ6_bitCount_0f7a4_40 : decode cJ6_bitCount_0f7a4 40 = .ok (.istore_n 0, 1) := by decide +kernel
theorem dJ6_bitCount_0f7a4_41 : decode cJ6_bitCount_0f7a4 41 = .ok (.iload_n 0, 1) := by decide +kernel
theorem dJ6_bitCount_0f7a4_42 : decode cJ6_bitCount_0f7a4 42 = .ok (.iload_n 0, 1) := by decide +kernel
theorem dJ6_bitCount_0f7a4_43 : decode cJ6_bitCount_0f7a4 43 = .ok (.bipush 16, 2) := by decide +kernel
theorem dJ6_bitCount_0f7a4_45 : decode cJ6_bitCount_0f7a4 45 = .ok (.iushr, 1) := by decide +kernel
theorem dJ6_bitCount_0f7a4_46 : decode cJ6_bitCount_0f7a4 46 = .ok (.iadd, 1) := by decide +kernel
theorem dJ6_bitCount_0f7a4_47 : decode cJ6_bitCount_0f7a4 47 = .ok (.istore_n 0, 1) := by decide +kernel
theorem dJ6_bitCount_0f7a4_48 : decode cJ6_bitCount_0f7a4 48 = .ok (.iload_n 0, 1) := by decide +kernel
theorem dJ6_bitCount_0f7a4_49 : decode cJ6_bitCount_0f7a4 49 = .ok (.bipush 63, 2) := by decide +kernel
theorem dJ6_bitCount_0f7a4_51 : decode cJ6_bitCount_0f7a4 51 = .ok (.iand, 1) := by decide +kernel
theorem dJ6_bitCount_0f7a4_52 : decode cJ6_bitCount_0f7a4 52 = .ok (.ireturn, 1) := by decide +kernel
theorem dJ9_max_7cf53_0 : decode cJ9_max_7cf53 0 = .ok (.iload_n 0, 1) := by decide +kernel
theorem dJ9_max_7cf53_1 : decode cJ9_max_7cf53 1 = .ok (.iload_n 1, 1) := by decide +kernel
theorem dJ9_max_7cf53_2 : decode cJ9_max_7cf53 2 = .ok (.if_icmp .lt 7, 3) := by decide +kernel
theorem dJ9_max_7cf53_5 : decode cJ9_max_7cf53 5 = .ok (.iload_n 0, 1) := by decide +kernel
theorem dJ9_max_7cf53_6 : decode cJ9_max_7cf53 6 = .ok (.goto 4, 3) := by decide +kernel
theorem dJ9_max_7cf53_9 : decode cJ9_max_7cf53 9 = .ok (.iload_n 1, 1) := by decide +kernel
theorem dJ9_max_7cf53_10 : decode cJ9_max_7cf53 10 = .ok (.ireturn, 1) := by decide +kernel
theorem dJ9_min_7cf53_0 : decode cJ9_min_7cf53 0 = .ok (.iload_n 0, 1) := by decide +kernel
theorem dJ9_min_7cf53_1 : decode cJ9_min_7cf53 1 = .ok (.iload_n 1, 1) := by decide +kernel
theorem dJ9_min_7cf53_2 : decode cJ9_min_7cf53 2 = .ok (.if_icmp .gt 7, 3) := by decide +kernel
theorem dJ9_min_7cf53_5 : decode cJ9_min_7cf53 5 = .ok (.iload_n 0, 1) := by decide +kernel
theorem dJ9_min_7cf53_6 : decode cJ9_min_7cf53 6 = .ok (.goto 4, 3) := by decide +kernel
theorem dJ9_min_7cf53_9 : decode cJ9_min_7cf53 9 = .ok (.iload_n 1, 1) := by decide +kernel
theorem dJ9_min_7cf53_10 : decode cJ9_min_7cf53 10 = .ok (.ireturn, 1) := by decide +kernel
theorem dJ7_fill_53178_0 : decode cJ7_fill_53178 0 = .ok (.iconst 0, 1) := by decide +kernel
theorem dJ7_fill_53178_1 : decode cJ7_fill_53178 1 = .ok (.istore_n 2, 1) := by decide +kernel
theorem dJ7_fill_53178_2 : decode cJ7_fill_53178 2 = .ok (.aload_n 0, 1) := by decide +kernel
theorem dJ7_fill_53178_3 : decode cJ7_fill_53178 3 = .ok (.arraylength, 1) := by decide +kernel
theorem dJ7_fill_53178_4 : decode cJ7_fill_53178 4 = .ok (.istore_n 3, 1) := by decide +kernel
theorem dJ7_fill_53178_5 : decode cJ7_fill_53178 5 = .ok (.iload_n 2, 1) := by decide +kernel
theorem dJ7_fill_53178_6 : decode cJ7_fill_53178 6 = .ok (.iload_n 3, 1) := by decide +kernel
theorem dJ7_fill_53178_7 : decode cJ7_fill_53178 7 = .ok (.if_icmp .ge 13, 3) := by decide +kernel
theorem dJ7_fill_53178_10 : decode cJ7_fill_53178 10 = .ok (.aload_n 0, 1) := by decide +kernel
theorem dJ7_fill_53178_11 : decode cJ7_fill_53178 11 = .ok (.iload_n 2, 1) := by decide +kernel
theorem dJ7_fill_53178_12 : decode cJ7_fill_53178 12 = .ok (.iload_n 1, 1) := by decide +kernel
theorem dJ7_fill_53178_13 : decode cJ7_fill_53178 13 = .ok (.iastore, 1) := by decide +kernel
theorem dJ7_fill_53178_14 : decode cJ7_fill_53178 14 = .ok (.iinc 2 1, 3) := by decide +kernel
theorem dJ7_fill_53178_17 : decode cJ7_fill_53178 17 = .ok (.goto (-12), 3) := by decide +kernel
theorem dJ7_fill_53178_20 : decode cJ7_fill_53178 20 = .ok (.return_, 1) := by decide +kernel
theorem dJ7_fill_49daa_0 : decode cJ7_fill_49daa 0 = .ok (.iconst 0, 1) := by decide +kernel
theorem dJ7_fill_49daa_1 : decode cJ7_fill_49daa 1 = .ok (.istore_n 2, 1) := by decide +kernel
theorem dJ7_fill_49daa_2 : decode cJ7_fill_49daa 2 = .ok (.aload_n 0, 1) := by decide +kernel
theorem dJ7_fill_49daa_3 : decode cJ7_fill_49daa 3 = .ok (.arraylength, 1) := by decide +kernel
theorem dJ7_fill_49daa_4 : decode cJ7_fill_49daa 4 = .ok (.istore_n 3, 1) := by decide +kernel
theorem dJ7_fill_49daa_5 : decode cJ7_fill_49daa 5 = .ok (.iload_n 2, 1) := by decide +kernel
theorem dJ7_fill_49daa_6 : decode cJ7_fill_49daa 6 = .ok (.iload_n 3, 1) := by decide +kernel
theorem dJ7_fill_49daa_7 : decode cJ7_fill_49daa 7 = .ok (.if_icmp .ge 13, 3) := by decide +kernel
theorem dJ7_fill_49daa_10 : decode cJ7_fill_49daa 10 = .ok (.aload_n 0, 1) := by decide +kernel
theorem dJ7_fill_49daa_11 : decode cJ7_fill_49daa 11 = .ok (.iload_n 2, 1) := by decide +kernel
theorem dJ7_fill_49daa_12 : decode cJ7_fill_49daa 12 = .ok (.iload_n 1, 1) := by decide +kernel
theorem dJ7_fill_49daa_13 : decode cJ7_fill_49daa 13 = .ok (.bastore, 1) := by decide +kernel
theorem dJ7_fill_49daa_14 : decode cJ7_fill_49daa 14 = .ok (.iinc 2 1, 3) := by decide +kernel
theorem dJ7_fill_49daa_17 : decode cJ7_fill_49daa 17 = .ok (.goto (-12), 3) := by decide +kernel
theorem dJ7_fill_49daa_20 : decode cJ7_fill_49daa 20 = .ok (.return_, 1) := by decide +kernel
end
section
theorem dX9_init_0 : decode cX9_init 0 = .ok (.aload_n 0, 1) := by decide +kernel
theorem dX9_init_1 : decode cX9_init 1 = .ok (.invokespecial 1, 3) := by decide +kernel
theorem dX9_init_4 : decode cX9_init 4 = .ok (.aload_n 0, 1) := by decide +kernel
theorem dX9_init_5 : decode cX9_init 5 = .ok (.bipush 6, 2) := by decide +kernel
theorem dX9_init_7 : decode cX9_init 7 = .ok (.newarray .int, 2) := by decide +kernel
theorem dX9_init_9 : decode cX9_init 9 = .ok (.putfield 7, 3) := by decide +kernel
theorem dX9_init_12 : decode cX9_init 12 = .ok (.aload_n 0, 1) := by decide +kernel
theorem dX9_init_13 : decode cX9_init 13 = .ok (.bipush 6, 2) := by decide +kernel
theorem dX9_init_15 : decode cX9_init 15 = .ok (.newarray .int, 2) := by decide +kernel
theorem dX9_init_17 : decode cX9_init 17 = .ok (.putfield 13, 3) := by decide +kernel
theorem dX9_init_20 : decode cX9_init 20 = .ok (.aload_n 0, 1) := by decide +kernel
theorem dX9_init_21 : decode cX9_init 21 = .ok (.bipush 6, 2) := by decide +kernel
theorem dX9_init_23 : decode cX9_init 23 = .ok (.newarray .int, 2) := by decide +kernel
theorem dX9_init_25 : decode cX9_init 25 = .ok (.putfield 16, 3) := by decide +kernel
theorem dX9_init_28 : decode cX9_init 28 = .ok (.aload_n 0, 1) := by decide +kernel
theorem dX9_init_29 : decode cX9_init 29 = .ok (.iconst 4, 1) := by decide +kernel
theorem dX9_init_30 : decode cX9_init 30 = .ok (.newarray .int, 2) := by decide +kernel
theorem dX9_init_32 : decode cX9_init 32 = .ok (.putfield 19, 3) := by decide +kernel
theorem dX9_init_35 : decode cX9_init 35 = .ok (.aload_n 0, 1) := by decide +kernel
theorem dX9_init_36 : decode cX9_init 36 = .ok (.iconst 4, 1) := by decide +kernel
theorem dX9_init_37 : decode cX9_init 37 = .ok (.newarray .int, 2) := by decide +kernel
theorem dX9_init_39 : decode cX9_init 39 = .ok (.putfield 22, 3) := by decide +kernel
theorem dX9_init_42 : decode cX9_init 42 = .ok (.aload_n 0, 1) := by decide +kernel
theorem dX9_init_43 : decode cX9_init 43 = .ok (.iconst 4, 1) := by decide +kernel
theorem dX9_init_44 : decode cX9_init 44 = .ok (.newarray .int, 2) := by decide +kernel
theorem dX9_init_46 : decode cX9_init 46 = .ok (.putfield 25, 3) := by decide +kernel
theorem dX9_init_49 : decode cX9_init 49 = .ok (.aload_n 0, 1) := by decide +kernel
theorem dX9_init_50 : decode cX9_init 50 = .ok (.sipush 210, 3) := by decide +kernel
theorem dX9_init_53 : decode cX9_init 53 = .ok (.newarray .int, 2) := by decide +kernel
theorem dX9_init_55 : decode cX9_init 55 = .ok (.putfield 28, 3) := by decide +kernel
theorem dX9_init_58 : decode cX9_init 58 = .ok (.aload_n 0, 1) := by decide +kernel
theorem dX9_init_59 : decode cX9_init 59 = .ok (.sipush 420, 3) := by decide +kernel
theorem dX9_init_62 : decode cX9_init 62 = .ok (.newarray .int, 2) := by decide +kernel
theorem dX9_init_64 : decode cX9_init 64 = .ok (.putfield 31, 3) := by decide +kernel
theorem dX9_init_67 : decode cX9_init 67 = .ok (.aload_n 0, 1) := by decide +kernel
theorem dX9_init_68 : decode cX9_init 68 = .ok (.iconst 2, 1) := by decide +kernel
theorem dX9_init_69 : decode cX9_init 69 = .ok (.newarray .boolean, 2) := by decide +kernel
theorem dX9_init_71 : decode cX9_init 71 = .ok (.putfield 34, 3) := by decide +kernel
theorem dX9_init_74 : decode cX9_init 74 = .ok (.aload_n 0, 1) := by decide +kernel
theorem dX9_init_75 : decode cX9_init 75 = .ok (.iconst 4, 1) := by decide +kernel
theorem dX9_init_76 : decode cX9_init 76 = .ok (.newarray .int, 2) := by decide +kernel
theorem dX9_init_78 : decode cX9_init 78 = .ok (.putfield 38, 3) := by decide +kernel
theorem dX9_init_81 : decode cX9_init 81 = .ok (.aload_n 0, 1) := by decide +kernel
theorem dX9_init_82 : decode cX9_init 82 = .ok (.iconst 4, 1) := by decide +kernel
theorem dX9_init_83 : decode cX9_init 83 = .ok (.newarray .int, 2) := by decide +kernel
theorem dX9_init_85 : decode cX9_init 85 = .ok (.putfield 41, 3) := by decide +kernel
theorem dX9_init_88 : decode cX9_init 88 = .ok (.aload_n 0, 1) := by decide +kernel
theorem dX9_init_89 : decode cX9_init 89 = .ok (.bipush 120, 2) := by decide +kernel
theorem dX9_init_91 : decode cX9_init 91 = .ok (.newarray .int, 2) := by decide +kernel
theorem dX9_init_93 : decode cX9_init 93 = .ok (.putfield 44, 3) := by decide +kernel
theorem dX9_init_96 : decode cX9_init 96 = .ok (.aload_n 0, 1) := by decide +kernel
theorem dX9_init_97 : decode cX9_init 97 = .ok (.bipush 42, 2) := by decide +kernel
theorem dX9_init_99 : decode cX9_init 99 = .ok (.newarray .int, 2) := by decide +kernel
theorem dX9_init_101 : decode cX9_init 101 = .ok (.putfield 47, 3) := by decide +kernel
theorem dX9_init_104 : decode cX9_init 104 = .ok (.aload_n 0, 1) := by decide +kernel
theorem dX9_init_105 : decode cX9_init 105 = .ok (.iconst 3, 1) := by decide +kernel
theorem dX9_init_106 : decode cX9_init 106 = .ok (.newarray .int, 2) := by decide +kernel
theorem dX9_init_108 : decode cX9_init 108 = .ok (.putfield 50, 3) := by decide +kernel
theorem dX9_init_111 : decode cX9_init 111 = .ok (.aload_n 0, 1) := by decide +kernel
theorem dX9_init_112 : decode cX9_init 112 = .ok (.bipush 6, 2) := by decide +kernel
theorem dX9_init_114 : decode cX9_init 114 = .ok (.newarray .int, 2) := by decide +kernel
theorem dX9_init_116 : decode cX9_init 116 = .ok (.putfield 53, 3) := by decide +kernel
theorem dX9_init_119 : decode cX9_init 119 = .ok (.aload_n 0, 1) := by decide +kernel
theorem dX9_init_120 : decode cX9_init 120 = .ok (.bipush 6, 2) := by decide +kernel
theorem dX9_init_122 : decode cX9_init 122 = .ok (.newarray .int, 2) := by decide +kernel
theorem dX9_init_124 : decode cX9_init 124 = .ok (.putfield 56, 3) := by decide +kernel
theorem dX9_init_127 : decode cX9_init 127 = .ok (.aload_n 0, 1) := by decide +kernel
theorem dX9_init_128 : decode cX9_init 128 = .ok (.iconst 5, 1) := by decide +kernel
theorem dX9_init_129 : decode cX9_init 129 = .ok (.newarray .int, 2) := by decide +kernel
theorem dX9_init_131 : decode cX9_init 131 = .ok (.putfield 59, 3) := by decide +kernel
theorem dX9_init_134 : decode cX9_init 134 = .ok (.aload_n 0, 1) := by decide +kernel
theorem dX9_init_135 : decode cX9_init 135 = .ok (.bipush 30, 2) := by decide +kernel
theorem dX9_init_137 : decode cX9_init 137 = .ok (.newarray .int, 2) := by decide +kernel
theorem dX9_init_139 : decode cX9_init 139 = .ok (.putfield 62, 3) := by decide +kernel
theorem dX9_init_142 : decode cX9_init 142 = .ok (.aload_n 0, 1) := by decide +kernel
theorem dX9_init_143 : decode cX9_init 143 = .ok (.bipush 6, 2) := by decide +kernel
theorem dX9_init_145 : decode cX9_init 145 = .ok (.newarray .int, 2) := by decide +kernel
theorem dX9_init_147 : decode cX9_init 147 = .ok (.putfield 65, 3) := by decide +kernel
theorem dX9_init_150 : decode cX9_init 150 = .ok (.aload_n 0, 1) := by decide +kernel
theorem dX9_init_151 : decode cX9_init 151 = .ok (.bipush 6, 2) := by decide +kernel
theorem dX9_init_153 : decode cX9_init 153 = .ok (.newarray .int, 2) := by decide +kernel
theorem dX9_init_155 : decode cX9_init 155 = .ok (.putfield 68, 3) := by decide +kernel
theorem dX9_init_158 : decode cX9_init 158 = .ok (.aload_n 0, 1) := by decide +kernel
theorem dX9_init_159 : decode cX9_init 159 = .ok (.getfield 28, 3) := by decide +kernel
theorem dX9_init_162 : decode cX9_init 162 = .ok (.bipush 19, 2) := by decide +kernel
theorem dX9_init_164 : decode cX9_init 164 = .ok (.iconst 0, 1) := by decide +kernel
theorem dX9_init_165 : decode cX9_init 165 = .ok (.iastore, 1) := by decide +kernel
theorem dX9_init_166 : decode cX9_init 166 = .ok (.return_, 1) := by decide +kernel
theorem dX9_in_0 : decode cX9_in 0 = .ok (.lload_n 0, 1) := by decide +kernel
theorem dX9_in_1 : decode cX9_in 1 = .ok (.lload_n 2, 1) := by decide +kernel
theorem dX9_in_2 : decode cX9_in 2 = .ok (.lcmp, 1) := by decide +kernel
theorem dX9_in_3 : decode cX9_in 3 = .ok (.ifCond .lt 14, 3) := by decide +kernel
theorem dX9_in_6 : decode cX9_in 6 = .ok (.lload_n 0, 1) := by decide +kernel
theorem dX9_in_7 : decode cX9_in 7 = .ok (.lload 4, 2) := by decide +kernel
theorem dX9_in_9 : decode cX9_in 9 = .ok (.lcmp, 1) := by decide +kernel
theorem dX9_in_10 : decode cX9_in 10 = .ok (.ifCond .gt 7, 3) := by decide +kernel
theorem dX9_in_13 : decode cX9_in 13 = .ok (.iconst 1, 1) := by decide +kernel
theorem dX9_in_14 : decode cX9_in 14 = .ok (.goto 4, 3) := by decide +kernel
theorem dX9_in_17 : decode cX9_in 17 = .ok (.iconst 0, 1) := by decide +kernel
theorem dX9_in_18 : decode cX9_in 18 = .ok (.ireturn, 1) := by decide +kernel
theorem dX9_has_0 : decode cX9_has 0 = .ok (.iload_n 0, 1) := by decide +kernel
theorem dX9_has_1 : decode cX9_has 1 = .ok (.iload_n 1, 1) := by decide +kernel
theorem dX9_has_2 : decode cX9_has 2 = .ok (.ishr, 1) := by decide +kernel
theorem dX9_has_3 : decode cX9_has 3 = .ok (.iconst 1, 1) := by decide +kernel
theorem dX9_has_4 : decode cX9_has 4 = .ok (.iand, 1) := by decide +kernel
theorem dX9_has_5 : decode cX9_has 5 = .ok (.iconst 1, 1) := by decide +kernel
theorem dX9_has_6 : decode cX9_has 6 = .ok (.if_icmp .ne 7, 3) := by decide +kernel
theorem dX9_has_9 : decode cX9_has 9 = .ok (.iconst 1, 1) := by decide +kernel
theorem dX9_has_10 : decode cX9_has 10 = .ok (.goto 4, 3) := by decide +kernel
theorem dX9_has_13 : decode cX9_has 13 = .ok (.iconst 0, 1) := by decide +kernel
theorem dX9_has_14 : decode cX9_has 14 = .ok (.ireturn, 1) := by decide +kernel
theorem dX9_bits_0 : decode cX9_bits 0 = .ok (.iconst 0, 1) := by decide +kernel
theorem dX9_bits_1 : decode cX9_bits 1 = .ok (.istore_n 1, 1) := by decide +kernel
theorem dX9_bits_2 : decode cX9_bits 2 = .ok (.iload_n 0, 1) := by decide +kernel
theorem dX9_bits_3 : decode cX9_bits 3 = .ok (.istore_n 2, 1) := by decide +kernel
theorem dX9_bits_4 : decode cX9_bits 4 = .ok (.iload_n 2, 1) := by decide +kernel
theorem dX9_bits_5 : decode cX9_bits 5 = .ok (.ifCond .le 16, 3) := by decide +kernel
theorem dX9_bits_8 : decode cX9_bits 8 = .ok (.iload_n 1, 1) := by decide +kernel
theorem dX9_bits_9 : decode cX9_bits 9 = .ok (.iload_n 2, 1) := by decide +kernel
theorem dX9_bits_10 : decode cX9_bits 10 = .ok (.iconst 1, 1) := by decide +kernel
theorem dX9_bits_11 : decode cX9_bits 11 = .ok (.iand, 1) := by decide +kernel
theorem dX9_bits_12 : decode cX9_bits 12 = .ok (.iadd, 1) := by decide +kernel
theorem dX9_bits_13 : decode cX9_bits 13 = .ok (.istore_n 1, 1) := by decide +kernel
theorem dX9_bits_14 : decode cX9_bits 14 = .ok (.iload_n 2, 1) := by decide +kernel
theorem dX9_bits_15 : decode cX9_bits 15 = .ok (.iconst 1, 1) := by decide +kernel
theorem dX9_bits_16 : decode cX9_bits 16 = .ok (.ishr, 1) := by decide +kernel
theorem dX9_bits_17 : decode cX9_bits 17 = .ok (.istore_n 2, 1) := by decide +kernel
theorem dX9_bits_18 : decode cX9_bits 18 = .ok (.goto (-14), 3) := by decide +kernel
theorem dX9_bits_21 : decode cX9_bits 21 = .ok (.iload_n 1, 1) := by decide +kernel
theorem dX9_bits_22 : decode cX9_bits 22 = .ok (.ireturn, 1) := by decide +kernel
theorem dX9_isTemper_0 : decode cX9_isTemper 0 = .ok (.iload_n 1, 1) := by decide +kernel
theorem dX9_isTemper_1 : decode cX9_isTemper 1 = .ok (.i2l, 1) := by decide +kernel
theorem dX9_isTemper_2 : decode cX9_isTemper 2 = .ok (.lconst 0, 1) := by decide +kernel
theorem dX9_isTemper_3 : decode cX9_isTemper 3 = .ok (.aload_n 0, 1) := by decide +kernel
theorem dX9_isTemper_4 : decode cX9_isTemper 4 = .ok (.getfield 71, 3) := by decide +kernel
theorem dX9_isTemper_7 : decode cX9_isTemper 7 = .ok (.iconst 1, 1) := by decide +kernel
theorem dX9_isTemper_8 : decode cX9_isTemper 8 = .ok (.isub, 1) := by decide +kernel
theorem dX9_isTemper_9 : decode cX9_isTemper 9 = .ok (.i2l, 1) := by decide +kernel
theorem dX9_isTemper_10 : decode cX9_isTemper 10 = .ok (.invokestatic 75, 3) := by decide +kernel
theorem dX9_isTemper_13 : decode cX9_isTemper 13 = .ok (.ireturn, 1) := by decide +kernel
theorem dX9_isNurse_0 : decode cX9_isNurse 0 = .ok (.iload_n 1, 1) := by decide +kernel
theorem dX9_isNurse_1 : decode cX9_isNurse 1 = .ok (.i2l, 1) := by decide +kernel
theorem dX9_isNurse_2 : decode cX9_isNurse 2 = .ok (.lconst 0, 1) := by decide +kernel
theorem dX9_isNurse_3 : decode cX9_isNurse 3 = .ok (.aload_n 0, 1) := by decide +kernel
theorem dX9_isNurse_4 : decode cX9_isNurse 4 = .ok (.getfield 79, 3) := by decide +kernel
theorem dX9_isNurse_7 : decode cX9_isNurse 7 = .ok (.iconst 1, 1) := by decide +kernel
theorem dX9_isNurse_8 : decode cX9_isNurse 8 = .ok (.isub, 1) := by decide +kernel
theorem dX9_isNurse_9 : decode cX9_isNurse 9 = .ok (.i2l, 1) := by decide +kernel
theorem dX9_isNurse_10 : decode cX9_isNurse 10 = .ok (.invokestatic 75, 3) := by decide +kernel
theorem dX9_isNurse_13 : decode cX9_isNurse 13 = .ok (.ireturn, 1) := by decide +kernel
theorem dX9_type_0 : decode cX9_type 0 = .ok (.iload_n 1, 1) := by decide +kernel
theorem dX9_type_1 : decode cX9_type 1 = .ok (.i2l, 1) := by decide +kernel
theorem dX9_type_2 : decode cX9_type 2 = .ok (.lconst 0, 1) := by decide +kernel
theorem dX9_type_3 : decode cX9_type 3 = .ok (.ldc2_w 82, 3) := by decide +kernel
theorem dX9_type_6 : decode cX9_type 6 = .ok (.invokestatic 75, 3) := by decide +kernel
theorem dX9_type_9 : decode cX9_type 9 = .ok (.ifCond .ne 5, 3) := by decide +kernel
theorem dX9_type_12 : decode cX9_type 12 = .ok (.iconst (-1), 1) := by decide +kernel
theorem dX9_type_13 : decode cX9_type 13 = .ok (.ireturn, 1) := by decide +kernel
theorem dX9_type_14 : decode cX9_type 14 = .ok (.aload_n 0, 1) := by decide +kernel
theorem dX9_type_15 : decode cX9_type 15 = .ok (.getfield 84, 3) := by decide +kernel
theorem dX9_type_18 : decode cX9_type 18 = .ok (.bipush 120, 2) := by decide +kernel
theorem dX9_type_20 : decode cX9_type 20 = .ok (.if_icmp .ne 6, 3) := by decide +kernel
theorem dX9_type_23 : decode cX9_type 23 = .ok (.bipush (-3), 2) := by decide +kernel
theorem dX9_type_25 : decode cX9_type 25 = .ok (.ireturn, 1) := by decide +kernel
theorem dX9_type_26 : decode cX9_type 26 = .ok (.aload_n 0, 1) := by decide +kernel
theorem dX9_type_27 : decode cX9_type 27 = .ok (.getfield 44, 3) := by decide +kernel
theorem dX9_type_30 : decode cX9_type 30 = .ok (.aload_n 0, 1) := by decide +kernel
theorem dX9_type_31 : decode cX9_type 31 = .ok (.getfield 84, 3) := by decide +kernel
theorem dX9_type_34 : decode cX9_type 34 = .ok (.iload_n 1, 1) := by decide +kernel
theorem dX9_type_35 : decode cX9_type 35 = .ok (.iastore, 1) := by decide +kernel
theorem dX9_type_36 : decode cX9_type 36 = .ok (.aload_n 0, 1) := by decide +kernel
theorem dX9_type_37 : decode cX9_type 37 = .ok (.dup, 1) := by decide +kernel
theorem dX9_type_38 : decode cX9_type 38 = .ok (.getfield 84, 3) := by decide +kernel
theorem dX9_type_41 : decode cX9_type 41 = .ok (.iconst 1, 1) := by decide +kernel
theorem dX9_type_42 : decode cX9_type 42 = .ok (.iadd, 1) := by decide +kernel
theorem dX9_type_43 : decode cX9_type 43 = .ok (.putfield 84, 3) := by decide +kernel
theorem dX9_type_46 : decode cX9_type 46 = .ok (.aload_n 0, 1) := by decide +kernel
theorem dX9_type_47 : decode cX9_type 47 = .ok (.getfield 84, 3) := by decide +kernel
theorem dX9_type_50 : decode cX9_type 50 = .ok (.ireturn, 1) := by decide +kernel
theorem dX9_clear_0 : decode cX9_clear 0 = .ok (.aload_n 0, 1) := by decide +kernel
theorem dX9_clear_1 : decode cX9_clear 1 = .ok (.getfield 84, 3) := by decide +kernel
theorem dX9_clear_4 : decode cX9_clear 4 = .ok (.istore_n 1, 1) := by decide +kernel
theorem dX9_clear_5 : decode cX9_clear 5 = .ok (.aload_n 0, 1) := by decide +kernel
theorem dX9_clear_6 : decode cX9_clear 6 = .ok (.iconst 0, 1) := by decide +kernel
theorem dX9_clear_7 : decode cX9_clear 7 = .ok (.putfield 84, 3) := by decide +kernel
theorem dX9_clear_10 : decode cX9_clear 10 = .ok (.iload_n 1, 1) := by decide +kernel
theorem dX9_clear_11 : decode cX9_clear 11 = .ok (.ireturn, 1) := by decide +kernel
theorem dX9_isBetween_0 : decode cX9_isBetween 0 = .ok (.iload_n 1, 1) := by decide +kernel
theorem dX9_isBetween_1 : decode cX9_isBetween 1 = .ok (.aload_n 0, 1) := by decide +kernel
theorem dX9_isBetween_2 : decode cX9_isBetween 2 = .ok (.getfield 84, 3) := by decide +kernel
theorem dX9_isBetween_5 : decode cX9_isBetween 5 = .ok (.if_icmp .ge 27, 3) := by decide +kernel
theorem dX9_isBetween_8 : decode cX9_isBetween 8 = .ok (.aload_n 0, 1) := by decide +kernel
theorem dX9_isBetween_9 : decode cX9_isBetween 9 = .ok (.getfield 44, 3) := by decide +kernel
theorem dX9_isBetween_12 : decode cX9_isBetween 12 = .ok (.iload_n 1, 1) := by decide +kernel
theorem dX9_isBetween_13 : decode cX9_isBetween 13 = .ok (.iaload, 1) := by decide +kernel
theorem dX9_isBetween_14 : decode cX9_isBetween 14 = .ok (.iload_n 2, 1) := by decide +kernel
theorem dX9_isBetween_15 : decode cX9_isBetween 15 = .ok (.if_icmp .lt 17, 3) := by decide +kernel
theorem dX9_isBetween_18 : decode cX9_isBetween 18 = .ok (.aload_n 0, 1) := by decide +kernel
theorem dX9_isBetween_19 : decode cX9_isBetween 19 = .ok (.getfield 44, 3) := by decide +kernel
theorem dX9_isBetween_22 : decode cX9_isBetween 22 = .ok (.iload_n 1, 1) := by decide +kernel
theorem dX9_isBetween_23 : decode cX9_isBetween 23 = .ok (.iaload, 1) := by decide +kernel
theorem dX9_isBetween_24 : decode cX9_isBetween 24 = .ok (.iload_n 3, 1) := by decide +kernel
theorem dX9_isBetween_25 : decode cX9_isBetween 25 = .ok (.if_icmp .gt 7, 3) := by decide +kernel
theorem dX9_isBetween_28 : decode cX9_isBetween 28 = .ok (.iconst 1, 1) := by decide +kernel
theorem dX9_isBetween_29 : decode cX9_isBetween 29 = .ok (.goto 4, 3) := by decide +kernel
theorem dX9_isBetween_32 : decode cX9_isBetween 32 = .ok (.iconst 0, 1) := by decide +kernel
theorem dX9_isBetween_33 : decode cX9_isBetween 33 = .ok (.ireturn, 1) := by decide +kernel
theorem dX9_lookAt_0 : decode cX9_lookAt 0 = .ok (.iload_n 1, 1) := by decide +kernel
theorem dX9_lookAt_1 : decode cX9_lookAt 1 = .ok (.istore_n 2, 1) := by decide +kernel
theorem dX9_lookAt_2 : decode cX9_lookAt 2 = .ok (.iload_n 2, 1) := by decide +kernel
theorem dX9_lookAt_3 : decode cX9_lookAt 3 = .ok (.aload_n 0, 1) := by decide +kernel
theorem dX9_lookAt_4 : decode cX9_lookAt 4 = .ok (.getfield 84, 3) := by decide +kernel
theorem dX9_lookAt_7 : decode cX9_lookAt 7 = .ok (.if_icmp .ge 20, 3) := by decide +kernel
theorem dX9_lookAt_10 : decode cX9_lookAt 10 = .ok (.aload_n 0, 1) := by decide +kernel
theorem dX9_lookAt_11 : decode cX9_lookAt 11 = .ok (.getfield 44, 3) := by decide +kernel
theorem dX9_lookAt_14 : decode cX9_lookAt 14 = .ok (.iload_n 2, 1) := by decide +kernel
theorem dX9_lookAt_15 : decode cX9_lookAt 15 = .ok (.iaload, 1) := by decide +kernel
theorem dX9_lookAt_16 : decode cX9_lookAt 16 = .ok (.bipush 32, 2) := by decide +kernel
theorem dX9_lookAt_18 : decode cX9_lookAt 18 = .ok (.if_icmp .ne 9, 3) := by decide +kernel
theorem dX9_lookAt_21 : decode cX9_lookAt 21 = .ok (.iinc 2 1, 3) := by decide +kernel
theorem dX9_lookAt_24 : decode cX9_lookAt 24 = .ok (.goto (-22), 3) := by decide +kernel
theorem dX9_lookAt_27 : decode cX9_lookAt 27 = .ok (.aload_n 0, 1) := by decide +kernel
theorem dX9_lookAt_28 : decode cX9_lookAt 28 = .ok (.iload_n 2, 1) := by decide +kernel
theorem dX9_lookAt_29 : decode cX9_lookAt 29 = .ok (.putfield 87, 3) := by decide +kernel
theorem dX9_lookAt_32 : decode cX9_lookAt 32 = .ok (.aload_n 0, 1) := by decide +kernel
theorem dX9_lookAt_33 : decode cX9_lookAt 33 = .ok (.iconst 0, 1) := by decide +kernel
theorem dX9_lookAt_34 : decode cX9_lookAt 34 = .ok (.putfield 90, 3) := by decide +kernel
theorem dX9_lookAt_37 : decode cX9_lookAt 37 = .ok (.aload_n 0, 1) := by decide +kernel
theorem dX9_lookAt_38 : decode cX9_lookAt 38 = .ok (.iload_n 2, 1) := by decide +kernel
theorem dX9_lookAt_39 : decode cX9_lookAt 39 = .ok (.aload_n 0, 1) := by decide +kernel
theorem dX9_lookAt_40 : decode cX9_lookAt 40 = .ok (.getfield 84, 3) := by decide +kernel
theorem dX9_lookAt_43 : decode cX9_lookAt 43 = .ok (.if_icmp .ne 7, 3) := by decide +kernel
theorem dX9_lookAt_46 : decode cX9_lookAt 46 = .ok (.iconst 0, 1) := by decide +kernel
theorem dX9_lookAt_47 : decode cX9_lookAt 47 = .ok (.goto 51, 3) := by decide +kernel
theorem dX9_lookAt_50 : decode cX9_lookAt 50 = .ok (.aload_n 0, 1) := by decide +kernel
theorem dX9_lookAt_51 : decode cX9_lookAt 51 = .ok (.iload_n 2, 1) := by decide +kernel
theorem dX9_lookAt_52 : decode cX9_lookAt 52 = .ok (.bipush 97, 2) := by decide +kernel
theorem dX9_lookAt_54 : decode cX9_lookAt 54 = .ok (.bipush 122, 2) := by decide +kernel
theorem dX9_lookAt_56 : decode cX9_lookAt 56 = .ok (.invokevirtual 93, 3) := by decide +kernel
theorem dX9_lookAt_59 : decode cX9_lookAt 59 = .ok (.ifCond .eq 7, 3) := by decide +kernel
theorem dX9_lookAt_62 : decode cX9_lookAt 62 = .ok (.iconst 1, 1) := by decide +kernel
theorem dX9_lookAt_63 : decode cX9_lookAt 63 = .ok (.goto 35, 3) := by decide +kernel
theorem dX9_lookAt_66 : decode cX9_lookAt 66 = .ok (.aload_n 0, 1) := by decide +kernel
theorem dX9_lookAt_67 : decode cX9_lookAt 67 = .ok (.iload_n 2, 1) := by decide +kernel
theorem dX9_lookAt_68 : decode cX9_lookAt 68 = .ok (.bipush 48, 2) := by decide +kernel
theorem dX9_lookAt_70 : decode cX9_lookAt 70 = .ok (.bipush 57, 2) := by decide +kernel
theorem dX9_lookAt_72 : decode cX9_lookAt 72 = .ok (.invokevirtual 93, 3) := by decide +kernel
theorem dX9_lookAt_75 : decode cX9_lookAt 75 = .ok (.ifCond .eq 7, 3) := by decide +kernel
theorem dX9_lookAt_78 : decode cX9_lookAt 78 = .ok (.iconst 2, 1) := by decide +kernel
theorem dX9_lookAt_79 : decode cX9_lookAt 79 = .ok (.goto 19, 3) := by decide +kernel
theorem dX9_lookAt_82 : decode cX9_lookAt 82 = .ok (.aload_n 0, 1) := by decide +kernel
theorem dX9_lookAt_83 : decode cX9_lookAt 83 = .ok (.getfield 44, 3) := by decide +kernel
theorem dX9_lookAt_86 : decode cX9_lookAt 86 = .ok (.iload_n 2, 1) := by decide +kernel
theorem dX9_lookAt_87 : decode cX9_lookAt 87 = .ok (.iaload, 1) := by decide +kernel
theorem dX9_lookAt_88 : decode cX9_lookAt 88 = .ok (.bipush 59, 2) := by decide +kernel
theorem dX9_lookAt_90 : decode cX9_lookAt 90 = .ok (.if_icmp .ne 7, 3) := by decide +kernel
theorem dX9_lookAt_93 : decode cX9_lookAt 93 = .ok (.iconst 3, 1) := by decide +kernel
theorem dX9_lookAt_94 : decode cX9_lookAt 94 = .ok (.goto 4, 3) := by decide +kernel
theorem dX9_lookAt_97 : decode cX9_lookAt 97 = .ok (.iconst 4, 1) := by decide +kernel
theorem dX9_lookAt_98 : decode cX9_lookAt 98 = .ok (.putfield 97, 3) := by decide +kernel
theorem dX9_lookAt_101 : decode cX9_lookAt 101 = .ok (.aload_n 0, 1) := by decide +kernel
theorem dX9_lookAt_102 : decode cX9_lookAt 102 = .ok (.iload_n 2, 1) := by decide +kernel
theorem dX9_lookAt_103 : decode cX9_lookAt 103 = .ok (.iconst 1, 1) := by decide +kernel
theorem dX9_lookAt_104 : decode cX9_lookAt 104 = .ok (.iadd, 1) := by decide +kernel
theorem dX9_lookAt_105 : decode cX9_lookAt 105 = .ok (.putfield 100, 3) := by decide +kernel
theorem dX9_lookAt_108 : decode cX9_lookAt 108 = .ok (.aload_n 0, 1) := by decide +kernel
theorem dX9_lookAt_109 : decode cX9_lookAt 109 = .ok (.getfield 97, 3) := by decide +kernel
theorem dX9_lookAt_112 : decode cX9_lookAt 112 = .ok (.iconst 1, 1) := by decide +kernel
theorem dX9_lookAt_113 : decode cX9_lookAt 113 = .ok (.if_icmp .ne 18, 3) := by decide +kernel
theorem dX9_lookAt_116 : decode cX9_lookAt 116 = .ok (.aload_n 0, 1) := by decide +kernel
theorem dX9_lookAt_117 : decode cX9_lookAt 117 = .ok (.aload_n 0, 1) := by decide +kernel
theorem dX9_lookAt_118 : decode cX9_lookAt 118 = .ok (.getfield 100, 3) := by decide +kernel
theorem dX9_lookAt_121 : decode cX9_lookAt 121 = .ok (.bipush 97, 2) := by decide +kernel
theorem dX9_lookAt_123 : decode cX9_lookAt 123 = .ok (.bipush 122, 2) := by decide +kernel
theorem dX9_lookAt_125 : decode cX9_lookAt 125 = .ok (.invokevirtual 93, 3) := by decide +kernel
theorem dX9_lookAt_128 : decode cX9_lookAt 128 = .ok (.ifCond .ne 26, 3) := by decide +kernel
theorem dX9_lookAt_131 : decode cX9_lookAt 131 = .ok (.aload_n 0, 1) := by decide +kernel
theorem dX9_lookAt_132 : decode cX9_lookAt 132 = .ok (.getfield 97, 3) := by decide +kernel
theorem dX9_lookAt_135 : decode cX9_lookAt 135 = .ok (.iconst 2, 1) := by decide +kernel
theorem dX9_lookAt_136 : decode cX9_lookAt 136 = .ok (.if_icmp .ne 31, 3) := by decide +kernel
theorem dX9_lookAt_139 : decode cX9_lookAt 139 = .ok (.aload_n 0, 1) := by decide +kernel
theorem dX9_lookAt_140 : decode cX9_lookAt 140 = .ok (.aload_n 0, 1) := by decide +kernel
theorem dX9_lookAt_141 : decode cX9_lookAt 141 = .ok (.getfield 100, 3) := by decide +kernel
theorem dX9_lookAt_144 : decode cX9_lookAt 144 = .ok (.bipush 48, 2) := by decide +kernel
theorem dX9_lookAt_146 : decode cX9_lookAt 146 = .ok (.bipush 57, 2) := by decide +kernel
theorem dX9_lookAt_148 : decode cX9_lookAt 148 = .ok (.invokevirtual 93, 3) := by decide +kernel
theorem dX9_lookAt_151 : decode cX9_lookAt 151 = .ok (.ifCond .eq 16, 3) := by decide +kernel
theorem dX9_lookAt_154 : decode cX9_lookAt 154 = .ok (.aload_n 0, 1) := by decide +kernel
theorem dX9_lookAt_155 : decode cX9_lookAt 155 = .ok (.dup, 1) := by decide +kernel
theorem dX9_lookAt_156 : decode cX9_lookAt 156 = .ok (.getfield 100, 3) := by decide +kernel
theorem dX9_lookAt_159 : decode cX9_lookAt 159 = .ok (.iconst 1, 1) := by decide +kernel
theorem dX9_lookAt_160 : decode cX9_lookAt 160 = .ok (.iadd, 1) := by decide +kernel
theorem dX9_lookAt_161 : decode cX9_lookAt 161 = .ok (.putfield 100, 3) := by decide +kernel
theorem dX9_lookAt_164 : decode cX9_lookAt 164 = .ok (.goto (-56), 3) := by decide +kernel
theorem dX9_lookAt_167 : decode cX9_lookAt 167 = .ok (.aload_n 0, 1) := by decide +kernel
theorem dX9_lookAt_168 : decode cX9_lookAt 168 = .ok (.getfield 87, 3) := by decide +kernel
theorem dX9_lookAt_171 : decode cX9_lookAt 171 = .ok (.istore_n 3, 1) := by decide +kernel
theorem dX9_lookAt_172 : decode cX9_lookAt 172 = .ok (.iload_n 3, 1) := by decide +kernel
theorem dX9_lookAt_173 : decode cX9_lookAt 173 = .ok (.aload_n 0, 1) := by decide +kernel
theorem dX9_lookAt_174 : decode cX9_lookAt 174 = .ok (.getfield 100, 3) := by decide +kernel
theorem dX9_lookAt_177 : decode cX9_lookAt 177 = .ok (.if_icmp .ge 54, 3) := by decide +kernel
theorem dX9_lookAt_180 : decode cX9_lookAt 180 = .ok (.aload_n 0, 1) := by decide +kernel
theorem dX9_lookAt_181 : decode cX9_lookAt 181 = .ok (.getfield 97, 3) := by decide +kernel
theorem dX9_lookAt_184 : decode cX9_lookAt 184 = .ok (.iconst 2, 1) := by decide +kernel
theorem dX9_lookAt_185 : decode cX9_lookAt 185 = .ok (.if_icmp .ne 46, 3) := by decide +kernel
theorem dX9_lookAt_188 : decode cX9_lookAt 188 = .ok (.aload_n 0, 1) := by decide +kernel
theorem dX9_lookAt_189 : decode cX9_lookAt 189 = .ok (.aload_n 0, 1) := by decide +kernel
theorem dX9_lookAt_190 : decode cX9_lookAt 190 = .ok (.getfield 90, 3) := by decide +kernel
theorem dX9_lookAt_193 : decode cX9_lookAt 193 = .ok (.bipush 99, 2) := by decide +kernel
theorem dX9_lookAt_195 : decode cX9_lookAt 195 = .ok (.if_icmp .le 10, 3) := by decide +kernel
theorem dX9_lookAt_198 : decode cX9_lookAt 198 = .ok (.aload_n 0, 1) := by decide +kernel
theorem dX9_lookAt_199 : decode cX9_lookAt 199 = .ok (.getfield 90, 3) := by decide +kernel
theorem dX9_lookAt_202 : decode cX9_lookAt 202 = .ok (.goto 20, 3) := by decide +kernel
theorem dX9_lookAt_205 : decode cX9_lookAt 205 = .ok (.bipush 10, 2) := by decide +kernel
theorem dX9_lookAt_207 : decode cX9_lookAt 207 = .ok (.aload_n 0, 1) := by decide +kernel
theorem dX9_lookAt_208 : decode cX9_lookAt 208 = .ok (.getfield 90, 3) := by decide +kernel
theorem dX9_lookAt_211 : decode cX9_lookAt 211 = .ok (.imul, 1) := by decide +kernel
theorem dX9_lookAt_212 : decode cX9_lookAt 212 = .ok (.aload_n 0, 1) := by decide +kernel
theorem dX9_lookAt_213 : decode cX9_lookAt 213 = .ok (.getfield 44, 3) := by decide +kernel
theorem dX9_lookAt_216 : decode cX9_lookAt 216 = .ok (.iload_n 3, 1) := by decide +kernel
theorem dX9_lookAt_217 : decode cX9_lookAt 217 = .ok (.iaload, 1) := by decide +kernel
theorem dX9_lookAt_218 : decode cX9_lookAt 218 = .ok (.iadd, 1) := by decide +kernel
theorem dX9_lookAt_219 : decode cX9_lookAt 219 = .ok (.bipush 48, 2) := by decide +kernel
theorem dX9_lookAt_221 : decode cX9_lookAt 221 = .ok (.isub, 1) := by decide +kernel
theorem dX9_lookAt_222 : decode cX9_lookAt 222 = .ok (.putfield 90, 3) := by decide +kernel
theorem dX9_lookAt_225 : decode cX9_lookAt 225 = .ok (.iinc 3 1, 3) := by decide +kernel
theorem dX9_lookAt_228 : decode cX9_lookAt 228 = .ok (.goto (-56), 3) := by decide +kernel
theorem dX9_lookAt_231 : decode cX9_lookAt 231 = .ok (.aload_n 0, 1) := by decide +kernel
theorem dX9_lookAt_232 : decode cX9_lookAt 232 = .ok (.getfield 97, 3) := by decide +kernel
theorem dX9_lookAt_235 : decode cX9_lookAt 235 = .ok (.iconst 2, 1) := by decide +kernel
theorem dX9_lookAt_236 : decode cX9_lookAt 236 = .ok (.if_icmp .ne 44, 3) := by decide +kernel
theorem dX9_lookAt_239 : decode cX9_lookAt 239 = .ok (.aload_n 0, 1) := by decide +kernel
theorem dX9_lookAt_240 : decode cX9_lookAt 240 = .ok (.getfield 90, 3) := by decide +kernel
theorem dX9_lookAt_243 : decode cX9_lookAt 243 = .ok (.bipush 99, 2) := by decide +kernel
theorem dX9_lookAt_245 : decode cX9_lookAt 245 = .ok (.if_icmp .gt 30, 3) := by decide +kernel
theorem dX9_lookAt_248 : decode cX9_lookAt 248 = .ok (.aload_n 0, 1) := by decide +kernel
theorem dX9_lookAt_249 : decode cX9_lookAt 249 = .ok (.getfield 100, 3) := by decide +kernel
theorem dX9_lookAt_252 : decode cX9_lookAt 252 = .ok (.aload_n 0, 1) := by decide +kernel
theorem dX9_lookAt_253 : decode cX9_lookAt 253 = .ok (.getfield 87, 3) := by decide +kernel
theorem dX9_lookAt_256 : decode cX9_lookAt 256 = .ok (.isub, 1) := by decide +kernel
theorem dX9_lookAt_257 : decode cX9_lookAt 257 = .ok (.iconst 1, 1) := by decide +kernel
theorem dX9_lookAt_258 : decode cX9_lookAt 258 = .ok (.if_icmp .le 22, 3) := by decide +kernel
theorem dX9_lookAt_261 : decode cX9_lookAt 261 = .ok (.aload_n 0, 1) := by decide +kernel
theorem dX9_lookAt_262 : decode cX9_lookAt 262 = .ok (.getfield 44, 3) := by decide +kernel
theorem dX9_lookAt_265 : decode cX9_lookAt 265 = .ok (.aload_n 0, 1) := by decide +kernel
theorem dX9_lookAt_266 : decode cX9_lookAt 266 = .ok (.getfield 87, 3) := by decide +kernel
theorem dX9_lookAt_269 : decode cX9_lookAt 269 = .ok (.iaload, 1) := by decide +kernel
theorem dX9_lookAt_270 : decode cX9_lookAt 270 = .ok (.bipush 48, 2) := by decide +kernel
theorem dX9_lookAt_272 : decode cX9_lookAt 272 = .ok (.if_icmp .ne 8, 3) := by decide +kernel
theorem dX9_lookAt_275 : decode cX9_lookAt 275 = .ok (.aload_n 0, 1) := by decide +kernel
theorem dX9_lookAt_276 : decode cX9_lookAt 276 = .ok (.iconst 4, 1) := by decide +kernel
theorem dX9_lookAt_277 : decode cX9_lookAt 277 = .ok (.putfield 97, 3) := by decide +kernel
theorem dX9_lookAt_280 : decode cX9_lookAt 280 = .ok (.return_, 1) := by decide +kernel
theorem dX9_isLetter_0 : decode cX9_isLetter 0 = .ok (.aload_n 0, 1) := by decide +kernel
theorem dX9_isLetter_1 : decode cX9_isLetter 1 = .ok (.getfield 97, 3) := by decide +kernel
theorem dX9_isLetter_4 : decode cX9_isLetter 4 = .ok (.iconst 1, 1) := by decide +kernel
theorem dX9_isLetter_5 : decode cX9_isLetter 5 = .ok (.if_icmp .ne 33, 3) := by decide +kernel
theorem dX9_isLetter_8 : decode cX9_isLetter 8 = .ok (.aload_n 0, 1) := by decide +kernel
theorem dX9_isLetter_9 : decode cX9_isLetter 9 = .ok (.getfield 100, 3) := by decide +kernel
theorem dX9_isLetter_12 : decode cX9_isLetter 12 = .ok (.aload_n 0, 1) := by decide +kernel
theorem dX9_isLetter_13 : decode cX9_isLetter 13 = .ok (.getfield 87, 3) := by decide +kernel
theorem dX9_isLetter_16 : decode cX9_isLetter 16 = .ok (.isub, 1) := by decide +kernel
theorem dX9_isLetter_17 : decode cX9_isLetter 17 = .ok (.iconst 1, 1) := by decide +kernel
theorem dX9_isLetter_18 : decode cX9_isLetter 18 = .ok (.if_icmp .ne 20, 3) := by decide +kernel
theorem dX9_isLetter_21 : decode cX9_isLetter 21 = .ok (.aload_n 0, 1) := by decide +kernel
theorem dX9_isLetter_22 : decode cX9_isLetter 22 = .ok (.getfield 44, 3) := by decide +kernel
theorem dX9_isLetter_25 : decode cX9_isLetter 25 = .ok (.aload_n 0, 1) := by decide +kernel
theorem dX9_isLetter_26 : decode cX9_isLetter 26 = .ok (.getfield 87, 3) := by decide +kernel
theorem dX9_isLetter_29 : decode cX9_isLetter 29 = .ok (.iaload, 1) := by decide +kernel
theorem dX9_isLetter_30 : decode cX9_isLetter 30 = .ok (.iload_n 1, 1) := by decide +kernel
theorem dX9_isLetter_31 : decode cX9_isLetter 31 = .ok (.if_icmp .ne 7, 3) := by decide +kernel
theorem dX9_isLetter_34 : decode cX9_isLetter 34 = .ok (.iconst 1, 1) := by decide +kernel
theorem dX9_isLetter_35 : decode cX9_isLetter 35 = .ok (.goto 4, 3) := by decide +kernel
theorem dX9_isLetter_38 : decode cX9_isLetter 38 = .ok (.iconst 0, 1) := by decide +kernel
theorem dX9_isLetter_39 : decode cX9_isLetter 39 = .ok (.ireturn, 1) := by decide +kernel
theorem dX9_takes_0 : decode cX9_takes 0 = .ok (.aload_n 0, 1) := by decide +kernel
theorem dX9_takes_1 : decode cX9_takes 1 = .ok (.getfield 97, 3) := by decide +kernel
theorem dX9_takes_4 : decode cX9_takes 4 = .ok (.iconst 2, 1) := by decide +kernel
theorem dX9_takes_5 : decode cX9_takes 5 = .ok (.if_icmp .ne 18, 3) := by decide +kernel
theorem dX9_takes_8 : decode cX9_takes 8 = .ok (.aload_n 0, 1) := by decide +kernel
theorem dX9_takes_9 : decode cX9_takes 9 = .ok (.getfield 90, 3) := by decide +kernel
theorem dX9_takes_12 : decode cX9_takes 12 = .ok (.i2l, 1) := by decide +kernel
theorem dX9_takes_13 : decode cX9_takes 13 = .ok (.iload_n 2, 1) := by decide +kernel
theorem dX9_takes_14 : decode cX9_takes 14 = .ok (.i2l, 1) := by decide +kernel
theorem dX9_takes_15 : decode cX9_takes 15 = .ok (.iload_n 3, 1) := by decide +kernel
theorem dX9_takes_16 : decode cX9_takes 16 = .ok (.i2l, 1) := by decide +kernel
theorem dX9_takes_17 : decode cX9_takes 17 = .ok (.invokestatic 75, 3) := by decide +kernel
theorem dX9_takes_20 : decode cX9_takes 20 = .ok (.ifCond .ne 5, 3) := by decide +kernel
theorem dX9_takes_23 : decode cX9_takes 23 = .ok (.iconst 0, 1) := by decide +kernel
theorem dX9_takes_24 : decode cX9_takes 24 = .ok (.ireturn, 1) := by decide +kernel
theorem dX9_takes_25 : decode cX9_takes 25 = .ok (.aload_n 0, 1) := by decide +kernel
theorem dX9_takes_26 : decode cX9_takes 26 = .ok (.getfield 50, 3) := by decide +kernel
theorem dX9_takes_29 : decode cX9_takes 29 = .ok (.iload_n 1, 1) := by decide +kernel
theorem dX9_takes_30 : decode cX9_takes 30 = .ok (.aload_n 0, 1) := by decide +kernel
theorem dX9_takes_31 : decode cX9_takes 31 = .ok (.getfield 90, 3) := by decide +kernel
theorem dX9_takes_34 : decode cX9_takes 34 = .ok (.iastore, 1) := by decide +kernel
theorem dX9_takes_35 : decode cX9_takes 35 = .ok (.aload_n 0, 1) := by decide +kernel
theorem dX9_takes_36 : decode cX9_takes 36 = .ok (.aload_n 0, 1) := by decide +kernel
theorem dX9_takes_37 : decode cX9_takes 37 = .ok (.getfield 100, 3) := by decide +kernel
theorem dX9_takes_40 : decode cX9_takes 40 = .ok (.invokevirtual 103, 3) := by decide +kernel
theorem dX9_takes_43 : decode cX9_takes 43 = .ok (.iconst 1, 1) := by decide +kernel
theorem dX9_takes_44 : decode cX9_takes 44 = .ok (.ireturn, 1) := by decide +kernel
theorem dX9_takesTemper_0 : decode cX9_takesTemper 0 = .ok (.aload_n 0, 1) := by decide +kernel
theorem dX9_takesTemper_1 : decode cX9_takesTemper 1 = .ok (.getfield 107, 3) := by decide +kernel
theorem dX9_takesTemper_4 : decode cX9_takesTemper 4 = .ok (.bipush 6, 2) := by decide +kernel
theorem dX9_takesTemper_6 : decode cX9_takesTemper 6 = .ok (.if_icmp .ne 5, 3) := by decide +kernel
theorem dX9_takesTemper_9 : decode cX9_takesTemper 9 = .ok (.iconst 0, 1) := by decide +kernel
theorem dX9_takesTemper_10 : decode cX9_takesTemper 10 = .ok (.ireturn, 1) := by decide +kernel
theorem dX9_takesTemper_11 : decode cX9_takesTemper 11 = .ok (.aload_n 0, 1) := by decide +kernel
theorem dX9_takesTemper_12 : decode cX9_takesTemper 12 = .ok (.aload_n 0, 1) := by decide +kernel
theorem dX9_takesTemper_13 : decode cX9_takesTemper 13 = .ok (.getfield 100, 3) := by decide +kernel
theorem dX9_takesTemper_16 : decode cX9_takesTemper 16 = .ok (.invokevirtual 103, 3) := by decide +kernel
theorem dX9_takesTemper_19 : decode cX9_takesTemper 19 = .ok (.aload_n 0, 1) := by decide +kernel
theorem dX9_takesTemper_20 : decode cX9_takesTemper 20 = .ok (.iconst 0, 1) := by decide +kernel
theorem dX9_takesTemper_21 : decode cX9_takesTemper 21 = .ok (.iconst 1, 1) := by decide +kernel
theorem dX9_takesTemper_22 : decode cX9_takesTemper 22 = .ok (.bipush 60, 2) := by decide +kernel
theorem dX9_takesTemper_24 : decode cX9_takesTemper 24 = .ok (.invokevirtual 110, 3) := by decide +kernel
theorem dX9_takesTemper_27 : decode cX9_takesTemper 27 = .ok (.ifCond .eq 24, 3) := by decide +kernel
theorem dX9_takesTemper_30 : decode cX9_takesTemper 30 = .ok (.aload_n 0, 1) := by decide +kernel
theorem dX9_takesTemper_31 : decode cX9_takesTemper 31 = .ok (.iconst 1, 1) := by decide +kernel
theorem dX9_takesTemper_32 : decode cX9_takesTemper 32 = .ok (.iconst 0, 1) := by decide +kernel
theorem dX9_takesTemper_33 : decode cX9_takesTemper 33 = .ok (.iconst 5, 1) := by decide +kernel
theorem dX9_takesTemper_34 : decode cX9_takesTemper 34 = .ok (.invokevirtual 110, 3) := by decide +kernel
theorem dX9_takesTemper_37 : decode cX9_takesTemper 37 = .ok (.ifCond .eq 14, 3) := by decide +kernel
theorem dX9_takesTemper_40 : decode cX9_takesTemper 40 = .ok (.aload_n 0, 1) := by decide +kernel
theorem dX9_takesTemper_41 : decode cX9_takesTemper 41 = .ok (.iconst 2, 1) := by decide +kernel
theorem dX9_takesTemper_42 : decode cX9_takesTemper 42 = .ok (.iconst 0, 1) := by decide +kernel
theorem dX9_takesTemper_43 : decode cX9_takesTemper 43 = .ok (.bipush 40, 2) := by decide +kernel
theorem dX9_takesTemper_45 : decode cX9_takesTemper 45 = .ok (.invokevirtual 110, 3) := by decide +kernel
theorem dX9_takesTemper_48 : decode cX9_takesTemper 48 = .ok (.ifCond .ne 5, 3) := by decide +kernel
theorem dX9_takesTemper_51 : decode cX9_takesTemper 51 = .ok (.iconst 0, 1) := by decide +kernel
theorem dX9_takesTemper_52 : decode cX9_takesTemper 52 = .ok (.ireturn, 1) := by decide +kernel
theorem dX9_takesTemper_53 : decode cX9_takesTemper 53 = .ok (.iconst 0, 1) := by decide +kernel
theorem dX9_takesTemper_54 : decode cX9_takesTemper 54 = .ok (.istore_n 1, 1) := by decide +kernel
theorem dX9_takesTemper_55 : decode cX9_takesTemper 55 = .ok (.iload_n 1, 1) := by decide +kernel
theorem dX9_takesTemper_56 : decode cX9_takesTemper 56 = .ok (.iconst 3, 1) := by decide +kernel
theorem dX9_takesTemper_57 : decode cX9_takesTemper 57 = .ok (.if_icmp .ge 28, 3) := by decide +kernel
theorem dX9_takesTemper_60 : decode cX9_takesTemper 60 = .ok (.aload_n 0, 1) := by decide +kernel
theorem dX9_takesTemper_61 : decode cX9_takesTemper 61 = .ok (.getfield 47, 3) := by decide +kernel
theorem dX9_takesTemper_64 : decode cX9_takesTemper 64 = .ok (.iconst 4, 1) := by decide +kernel
theorem dX9_takesTemper_65 : decode cX9_takesTemper 65 = .ok (.aload_n 0, 1) := by decide +kernel
theorem dX9_takesTemper_66 : decode cX9_takesTemper 66 = .ok (.getfield 107, 3) := by decide +kernel
theorem dX9_takesTemper_69 : decode cX9_takesTemper 69 = .ok (.imul, 1) := by decide +kernel
theorem dX9_takesTemper_70 : decode cX9_takesTemper 70 = .ok (.iload_n 1, 1) := by decide +kernel
theorem dX9_takesTemper_71 : decode cX9_takesTemper 71 = .ok (.iadd, 1) := by decide +kernel
theorem dX9_takesTemper_72 : decode cX9_takesTemper 72 = .ok (.aload_n 0, 1) := by decide +kernel
theorem dX9_takesTemper_73 : decode cX9_takesTemper 73 = .ok (.getfield 50, 3) := by decide +kernel
theorem dX9_takesTemper_76 : decode cX9_takesTemper 76 = .ok (.iload_n 1, 1) := by decide +kernel
theorem dX9_takesTemper_77 : decode cX9_takesTemper 77 = .ok (.iaload, 1) := by decide +kernel
theorem dX9_takesTemper_78 : decode cX9_takesTemper 78 = .ok (.iastore, 1) := by decide +kernel
theorem dX9_takesTemper_79 : decode cX9_takesTemper 79 = .ok (.iinc 1 1, 3) := by decide +kernel
theorem dX9_takesTemper_82 : decode cX9_takesTemper 82 = .ok (.goto (-27), 3) := by decide +kernel
theorem dX9_takesTemper_85 : decode cX9_takesTemper 85 = .ok (.aload_n 0, 1) := by decide +kernel
theorem dX9_takesTemper_86 : decode cX9_takesTemper 86 = .ok (.getfield 47, 3) := by decide +kernel
theorem dX9_takesTemper_89 : decode cX9_takesTemper 89 = .ok (.iconst 4, 1) := by decide +kernel
theorem dX9_takesTemper_90 : decode cX9_takesTemper 90 = .ok (.aload_n 0, 1) := by decide +kernel
theorem dX9_takesTemper_91 : decode cX9_takesTemper 91 = .ok (.getfield 107, 3) := by decide +kernel
theorem dX9_takesTemper_94 : decode cX9_takesTemper 94 = .ok (.imul, 1) := by decide +kernel
theorem dX9_takesTemper_95 : decode cX9_takesTemper 95 = .ok (.iconst 3, 1) := by decide +kernel
theorem dX9_takesTemper_96 : decode cX9_takesTemper 96 = .ok (.iadd, 1) := by decide +kernel
theorem dX9_takesTemper_97 : decode cX9_takesTemper 97 = .ok (.iconst 0, 1) := by decide +kernel
theorem dX9_takesTemper_98 : decode cX9_takesTemper 98 = .ok (.iastore, 1) := by decide +kernel
theorem dX9_takesTemper_99 : decode cX9_takesTemper 99 = .ok (.aload_n 0, 1) := by decide +kernel
theorem dX9_takesTemper_100 : decode cX9_takesTemper 100 = .ok (.dup, 1) := by decide +kernel
theorem dX9_takesTemper_101 : decode cX9_takesTemper 101 = .ok (.getfield 107, 3) := by decide +kernel
theorem dX9_takesTemper_104 : decode cX9_takesTemper 104 = .ok (.iconst 1, 1) := by decide +kernel
theorem dX9_takesTemper_105 : decode cX9_takesTemper 105 = .ok (.iadd, 1) := by decide +kernel
theorem dX9_takesTemper_106 : decode cX9_takesTemper 106 = .ok (.putfield 107, 3) := by decide +kernel
theorem dX9_takesTemper_109 : decode cX9_takesTemper 109 = .ok (.iconst 1, 1) := by decide +kernel
theorem dX9_takesTemper_110 : decode cX9_takesTemper 110 = .ok (.ireturn, 1) := by decide +kernel
theorem dX9_takesNurse_0 : decode cX9_takesNurse 0 = .ok (.aload_n 0, 1) := by decide +kernel
theorem dX9_takesNurse_1 : decode cX9_takesNurse 1 = .ok (.getfield 113, 3) := by decide +kernel
theorem dX9_takesNurse_4 : decode cX9_takesNurse 4 = .ok (.iconst 4, 1) := by decide +kernel
theorem dX9_takesNurse_5 : decode cX9_takesNurse 5 = .ok (.if_icmp .ne 5, 3) := by decide +kernel
theorem dX9_takesNurse_8 : decode cX9_takesNurse 8 = .ok (.iconst 0, 1) := by decide +kernel
theorem dX9_takesNurse_9 : decode cX9_takesNurse 9 = .ok (.ireturn, 1) := by decide +kernel
theorem dX9_takesNurse_10 : decode cX9_takesNurse 10 = .ok (.aload_n 0, 1) := by decide +kernel
theorem dX9_takesNurse_11 : decode cX9_takesNurse 11 = .ok (.aload_n 0, 1) := by decide +kernel
theorem dX9_takesNurse_12 : decode cX9_takesNurse 12 = .ok (.getfield 100, 3) := by decide +kernel
theorem dX9_takesNurse_15 : decode cX9_takesNurse 15 = .ok (.invokevirtual 103, 3) := by decide +kernel
theorem dX9_takesNurse_18 : decode cX9_takesNurse 18 = .ok (.aload_n 0, 1) := by decide +kernel
theorem dX9_takesNurse_19 : decode cX9_takesNurse 19 = .ok (.iconst 0, 1) := by decide +kernel
theorem dX9_takesNurse_20 : decode cX9_takesNurse 20 = .ok (.iconst 1, 1) := by decide +kernel
theorem dX9_takesNurse_21 : decode cX9_takesNurse 21 = .ok (.bipush 9, 2) := by decide +kernel
theorem dX9_takesNurse_23 : decode cX9_takesNurse 23 = .ok (.invokevirtual 110, 3) := by decide +kernel
theorem dX9_takesNurse_26 : decode cX9_takesNurse 26 = .ok (.ifCond .eq 24, 3) := by decide +kernel
theorem dX9_takesNurse_29 : decode cX9_takesNurse 29 = .ok (.aload_n 0, 1) := by decide +kernel
theorem dX9_takesNurse_30 : decode cX9_takesNurse 30 = .ok (.iconst 1, 1) := by decide +kernel
theorem dX9_takesNurse_31 : decode cX9_takesNurse 31 = .ok (.iconst 1, 1) := by decide +kernel
theorem dX9_takesNurse_32 : decode cX9_takesNurse 32 = .ok (.iconst 3, 1) := by decide +kernel
theorem dX9_takesNurse_33 : decode cX9_takesNurse 33 = .ok (.invokevirtual 110, 3) := by decide +kernel
theorem dX9_takesNurse_36 : decode cX9_takesNurse 36 = .ok (.ifCond .eq 14, 3) := by decide +kernel
theorem dX9_takesNurse_39 : decode cX9_takesNurse 39 = .ok (.aload_n 0, 1) := by decide +kernel
theorem dX9_takesNurse_40 : decode cX9_takesNurse 40 = .ok (.iconst 2, 1) := by decide +kernel
theorem dX9_takesNurse_41 : decode cX9_takesNurse 41 = .ok (.iconst 1, 1) := by decide +kernel
theorem dX9_takesNurse_42 : decode cX9_takesNurse 42 = .ok (.bipush 99, 2) := by decide +kernel
theorem dX9_takesNurse_44 : decode cX9_takesNurse 44 = .ok (.invokevirtual 110, 3) := by decide +kernel
theorem dX9_takesNurse_47 : decode cX9_takesNurse 47 = .ok (.ifCond .ne 5, 3) := by decide +kernel
theorem dX9_takesNurse_50 : decode cX9_takesNurse 50 = .ok (.iconst 0, 1) := by decide +kernel
theorem dX9_takesNurse_51 : decode cX9_takesNurse 51 = .ok (.ireturn, 1) := by decide +kernel
theorem dX9_takesNurse_52 : decode cX9_takesNurse 52 = .ok (.iconst 0, 1) := by decide +kernel
theorem dX9_takesNurse_53 : decode cX9_takesNurse 53 = .ok (.istore_n 1, 1) := by decide +kernel
theorem dX9_takesNurse_54 : decode cX9_takesNurse 54 = .ok (.iload_n 1, 1) := by decide +kernel
theorem dX9_takesNurse_55 : decode cX9_takesNurse 55 = .ok (.iconst 3, 1) := by decide +kernel
theorem dX9_takesNurse_56 : decode cX9_takesNurse 56 = .ok (.if_icmp .ge 31, 3) := by decide +kernel
theorem dX9_takesNurse_59 : decode cX9_takesNurse 59 = .ok (.aload_n 0, 1) := by decide +kernel
theorem dX9_takesNurse_60 : decode cX9_takesNurse 60 = .ok (.getfield 47, 3) := by decide +kernel
theorem dX9_takesNurse_63 : decode cX9_takesNurse 63 = .ok (.bipush 24, 2) := by decide +kernel
theorem dX9_takesNurse_65 : decode cX9_takesNurse 65 = .ok (.iconst 3, 1) := by decide +kernel
theorem dX9_takesNurse_66 : decode cX9_takesNurse 66 = .ok (.aload_n 0, 1) := by decide +kernel
theorem dX9_takesNurse_67 : decode cX9_takesNurse 67 = .ok (.getfield 113, 3) := by decide +kernel
theorem dX9_takesNurse_70 : decode cX9_takesNurse 70 = .ok (.imul, 1) := by decide +kernel
theorem dX9_takesNurse_71 : decode cX9_takesNurse 71 = .ok (.iadd, 1) := by decide +kernel
theorem dX9_takesNurse_72 : decode cX9_takesNurse 72 = .ok (.iload_n 1, 1) := by decide +kernel
theorem dX9_takesNurse_73 : decode cX9_takesNurse 73 = .ok (.iadd, 1) := by decide +kernel
theorem dX9_takesNurse_74 : decode cX9_takesNurse 74 = .ok (.aload_n 0, 1) := by decide +kernel
theorem dX9_takesNurse_75 : decode cX9_takesNurse 75 = .ok (.getfield 50, 3) := by decide +kernel
theorem dX9_takesNurse_78 : decode cX9_takesNurse 78 = .ok (.iload_n 1, 1) := by decide +kernel
theorem dX9_takesNurse_79 : decode cX9_takesNurse 79 = .ok (.iaload, 1) := by decide +kernel
theorem dX9_takesNurse_80 : decode cX9_takesNurse 80 = .ok (.iastore, 1) := by decide +kernel
theorem dX9_takesNurse_81 : decode cX9_takesNurse 81 = .ok (.iinc 1 1, 3) := by decide +kernel
theorem dX9_takesNurse_84 : decode cX9_takesNurse 84 = .ok (.goto (-30), 3) := by decide +kernel
theorem dX9_takesNurse_87 : decode cX9_takesNurse 87 = .ok (.aload_n 0, 1) := by decide +kernel
theorem dX9_takesNurse_88 : decode cX9_takesNurse 88 = .ok (.dup, 1) := by decide +kernel
theorem dX9_takesNurse_89 : decode cX9_takesNurse 89 = .ok (.getfield 113, 3) := by decide +kernel
theorem dX9_takesNurse_92 : decode cX9_takesNurse 92 = .ok (.iconst 1, 1) := by decide +kernel
theorem dX9_takesNurse_93 : decode cX9_takesNurse 93 = .ok (.iadd, 1) := by decide +kernel
theorem dX9_takesNurse_94 : decode cX9_takesNurse 94 = .ok (.putfield 113, 3) := by decide +kernel
theorem dX9_takesNurse_97 : decode cX9_takesNurse 97 = .ok (.iconst 1, 1) := by decide +kernel
theorem dX9_takesNurse_98 : decode cX9_takesNurse 98 = .ok (.ireturn, 1) := by decide +kernel
theorem dX9_takesClash_0 : decode cX9_takesClash 0 = .ok (.aload_n 0, 1) := by decide +kernel
theorem dX9_takesClash_1 : decode cX9_takesClash 1 = .ok (.aload_n 0, 1) := by decide +kernel
theorem dX9_takesClash_2 : decode cX9_takesClash 2 = .ok (.getfield 100, 3) := by decide +kernel
theorem dX9_takesClash_5 : decode cX9_takesClash 5 = .ok (.invokevirtual 103, 3) := by decide +kernel
theorem dX9_takesClash_8 : decode cX9_takesClash 8 = .ok (.aload_n 0, 1) := by decide +kernel
theorem dX9_takesClash_9 : decode cX9_takesClash 9 = .ok (.iconst 0, 1) := by decide +kernel
theorem dX9_takesClash_10 : decode cX9_takesClash 10 = .ok (.iconst 0, 1) := by decide +kernel
theorem dX9_takesClash_11 : decode cX9_takesClash 11 = .ok (.aload_n 0, 1) := by decide +kernel
theorem dX9_takesClash_12 : decode cX9_takesClash 12 = .ok (.getfield 107, 3) := by decide +kernel
theorem dX9_takesClash_15 : decode cX9_takesClash 15 = .ok (.iconst 1, 1) := by decide +kernel
theorem dX9_takesClash_16 : decode cX9_takesClash 16 = .ok (.isub, 1) := by decide +kernel
theorem dX9_takesClash_17 : decode cX9_takesClash 17 = .ok (.invokevirtual 110, 3) := by decide +kernel
theorem dX9_takesClash_20 : decode cX9_takesClash 20 = .ok (.ifCond .eq 39, 3) := by decide +kernel
theorem dX9_takesClash_23 : decode cX9_takesClash 23 = .ok (.aload_n 0, 1) := by decide +kernel
theorem dX9_takesClash_24 : decode cX9_takesClash 24 = .ok (.getfield 97, 3) := by decide +kernel
theorem dX9_takesClash_27 : decode cX9_takesClash 27 = .ok (.iconst 2, 1) := by decide +kernel
theorem dX9_takesClash_28 : decode cX9_takesClash 28 = .ok (.if_icmp .ne 31, 3) := by decide +kernel
theorem dX9_takesClash_31 : decode cX9_takesClash 31 = .ok (.aload_n 0, 1) := by decide +kernel
theorem dX9_takesClash_32 : decode cX9_takesClash 32 = .ok (.getfield 90, 3) := by decide +kernel
theorem dX9_takesClash_35 : decode cX9_takesClash 35 = .ok (.aload_n 0, 1) := by decide +kernel
theorem dX9_takesClash_36 : decode cX9_takesClash 36 = .ok (.getfield 50, 3) := by decide +kernel
theorem dX9_takesClash_39 : decode cX9_takesClash 39 = .ok (.iconst 0, 1) := by decide +kernel
theorem dX9_takesClash_40 : decode cX9_takesClash 40 = .ok (.iaload, 1) := by decide +kernel
theorem dX9_takesClash_41 : decode cX9_takesClash 41 = .ok (.if_icmp .eq 18, 3) := by decide +kernel
theorem dX9_takesClash_44 : decode cX9_takesClash 44 = .ok (.aload_n 0, 1) := by decide +kernel
theorem dX9_takesClash_45 : decode cX9_takesClash 45 = .ok (.iconst 1, 1) := by decide +kernel
theorem dX9_takesClash_46 : decode cX9_takesClash 46 = .ok (.iconst 0, 1) := by decide +kernel
theorem dX9_takesClash_47 : decode cX9_takesClash 47 = .ok (.aload_n 0, 1) := by decide +kernel
theorem dX9_takesClash_48 : decode cX9_takesClash 48 = .ok (.getfield 107, 3) := by decide +kernel
theorem dX9_takesClash_51 : decode cX9_takesClash 51 = .ok (.iconst 1, 1) := by decide +kernel
theorem dX9_takesClash_52 : decode cX9_takesClash 52 = .ok (.isub, 1) := by decide +kernel
theorem dX9_takesClash_53 : decode cX9_takesClash 53 = .ok (.invokevirtual 110, 3) := by decide +kernel
theorem dX9_takesClash_56 : decode cX9_takesClash 56 = .ok (.ifCond .ne 5, 3) := by decide +kernel
theorem dX9_takesClash_59 : decode cX9_takesClash 59 = .ok (.iconst 0, 1) := by decide +kernel
theorem dX9_takesClash_60 : decode cX9_takesClash 60 = .ok (.ireturn, 1) := by decide +kernel
theorem dX9_takesClash_61 : decode cX9_takesClash 61 = .ok (.aload_n 0, 1) := by decide +kernel
theorem dX9_takesClash_62 : decode cX9_takesClash 62 = .ok (.getfield 47, 3) := by decide +kernel
theorem dX9_takesClash_65 : decode cX9_takesClash 65 = .ok (.iconst 4, 1) := by decide +kernel
theorem dX9_takesClash_66 : decode cX9_takesClash 66 = .ok (.aload_n 0, 1) := by decide +kernel
theorem dX9_takesClash_67 : decode cX9_takesClash 67 = .ok (.getfield 50, 3) := by decide +kernel
theorem dX9_takesClash_70 : decode cX9_takesClash 70 = .ok (.iconst 0, 1) := by decide +kernel
theorem dX9_takesClash_71 : decode cX9_takesClash 71 = .ok (.iaload, 1) := by decide +kernel
theorem dX9_takesClash_72 : decode cX9_takesClash 72 = .ok (.imul, 1) := by decide +kernel
theorem dX9_takesClash_73 : decode cX9_takesClash 73 = .ok (.iconst 3, 1) := by decide +kernel
theorem dX9_takesClash_74 : decode cX9_takesClash 74 = .ok (.iadd, 1) := by decide +kernel
theorem dX9_takesClash_75 : decode cX9_takesClash 75 = .ok (.dup2, 1) := by decide +kernel
theorem dX9_takesClash_76 : decode cX9_takesClash 76 = .ok (.iaload, 1) := by decide +kernel
theorem dX9_takesClash_77 : decode cX9_takesClash 77 = .ok (.iconst 1, 1) := by decide +kernel
theorem dX9_takesClash_78 : decode cX9_takesClash 78 = .ok (.aload_n 0, 1) := by decide +kernel
theorem dX9_takesClash_79 : decode cX9_takesClash 79 = .ok (.getfield 50, 3) := by decide +kernel
theorem dX9_takesClash_82 : decode cX9_takesClash 82 = .ok (.iconst 1, 1) := by decide +kernel
theorem dX9_takesClash_83 : decode cX9_takesClash 83 = .ok (.iaload, 1) := by decide +kernel
theorem dX9_takesClash_84 : decode cX9_takesClash 84 = .ok (.ishl, 1) := by decide +kernel
theorem dX9_takesClash_85 : decode cX9_takesClash 85 = .ok (.ior, 1) := by decide +kernel
theorem dX9_takesClash_86 : decode cX9_takesClash 86 = .ok (.iastore, 1) := by decide +kernel
theorem dX9_takesClash_87 : decode cX9_takesClash 87 = .ok (.aload_n 0, 1) := by decide +kernel
theorem dX9_takesClash_88 : decode cX9_takesClash 88 = .ok (.getfield 47, 3) := by decide +kernel
theorem dX9_takesClash_91 : decode cX9_takesClash 91 = .ok (.iconst 4, 1) := by decide +kernel
theorem dX9_takesClash_92 : decode cX9_takesClash 92 = .ok (.aload_n 0, 1) := by decide +kernel
theorem dX9_takesClash_93 : decode cX9_takesClash 93 = .ok (.getfield 50, 3) := by decide +kernel
theorem dX9_takesClash_96 : decode cX9_takesClash 96 = .ok (.iconst 1, 1) := by decide +kernel
theorem dX9_takesClash_97 : decode cX9_takesClash 97 = .ok (.iaload, 1) := by decide +kernel
theorem dX9_takesClash_98 : decode cX9_takesClash 98 = .ok (.imul, 1) := by decide +kernel
theorem dX9_takesClash_99 : decode cX9_takesClash 99 = .ok (.iconst 3, 1) := by decide +kernel
theorem dX9_takesClash_100 : decode cX9_takesClash 100 = .ok (.iadd, 1) := by decide +kernel
theorem dX9_takesClash_101 : decode cX9_takesClash 101 = .ok (.dup2, 1) := by decide +kernel
theorem dX9_takesClash_102 : decode cX9_takesClash 102 = .ok (.iaload, 1) := by decide +kernel
theorem dX9_takesClash_103 : decode cX9_takesClash 103 = .ok (.iconst 1, 1) := by decide +kernel
theorem dX9_takesClash_104 : decode cX9_takesClash 104 = .ok (.aload_n 0, 1) := by decide +kernel
theorem dX9_takesClash_105 : decode cX9_takesClash 105 = .ok (.getfield 50, 3) := by decide +kernel
theorem dX9_takesClash_108 : decode cX9_takesClash 108 = .ok (.iconst 0, 1) := by decide +kernel
theorem dX9_takesClash_109 : decode cX9_takesClash 109 = .ok (.iaload, 1) := by decide +kernel
theorem dX9_takesClash_110 : decode cX9_takesClash 110 = .ok (.ishl, 1) := by decide +kernel
theorem dX9_takesClash_111 : decode cX9_takesClash 111 = .ok (.ior, 1) := by decide +kernel
theorem dX9_takesClash_112 : decode cX9_takesClash 112 = .ok (.iastore, 1) := by decide +kernel
theorem dX9_takesClash_113 : decode cX9_takesClash 113 = .ok (.iconst 1, 1) := by decide +kernel
theorem dX9_takesClash_114 : decode cX9_takesClash 114 = .ok (.ireturn, 1) := by decide +kernel
theorem dX9_takesItem_0 : decode cX9_takesItem 0 = .ok (.aload_n 0, 1) := by decide +kernel
theorem dX9_takesItem_1 : decode cX9_takesItem 1 = .ok (.bipush 116, 2) := by decide +kernel
theorem dX9_takesItem_3 : decode cX9_takesItem 3 = .ok (.invokevirtual 116, 3) := by decide +kernel
theorem dX9_takesItem_6 : decode cX9_takesItem 6 = .ok (.ifCond .eq 10, 3) := by decide +kernel
theorem dX9_takesItem_9 : decode cX9_takesItem 9 = .ok (.aload_n 0, 1) := by decide +kernel
theorem dX9_takesItem_10 : decode cX9_takesItem 10 = .ok (.invokevirtual 120, 3) := by decide +kernel
theorem dX9_takesItem_13 : decode cX9_takesItem 13 = .ok (.goto 40, 3) := by decide +kernel
theorem dX9_takesItem_16 : decode cX9_takesItem 16 = .ok (.aload_n 0, 1) := by decide +kernel
theorem dX9_takesItem_17 : decode cX9_takesItem 17 = .ok (.bipush 110, 2) := by decide +kernel
theorem dX9_takesItem_19 : decode cX9_takesItem 19 = .ok (.invokevirtual 116, 3) := by decide +kernel
theorem dX9_takesItem_22 : decode cX9_takesItem 22 = .ok (.ifCond .eq 10, 3) := by decide +kernel
theorem dX9_takesItem_25 : decode cX9_takesItem 25 = .ok (.aload_n 0, 1) := by decide +kernel
theorem dX9_takesItem_26 : decode cX9_takesItem 26 = .ok (.invokevirtual 124, 3) := by decide +kernel
theorem dX9_takesItem_29 : decode cX9_takesItem 29 = .ok (.goto 24, 3) := by decide +kernel
theorem dX9_takesItem_32 : decode cX9_takesItem 32 = .ok (.aload_n 0, 1) := by decide +kernel
theorem dX9_takesItem_33 : decode cX9_takesItem 33 = .ok (.bipush 120, 2) := by decide +kernel
theorem dX9_takesItem_35 : decode cX9_takesItem 35 = .ok (.invokevirtual 116, 3) := by decide +kernel
theorem dX9_takesItem_38 : decode cX9_takesItem 38 = .ok (.ifCond .eq 14, 3) := by decide +kernel
theorem dX9_takesItem_41 : decode cX9_takesItem 41 = .ok (.aload_n 0, 1) := by decide +kernel
theorem dX9_takesItem_42 : decode cX9_takesItem 42 = .ok (.invokevirtual 127, 3) := by decide +kernel
theorem dX9_takesItem_45 : decode cX9_takesItem 45 = .ok (.ifCond .eq 7, 3) := by decide +kernel
theorem dX9_takesItem_48 : decode cX9_takesItem 48 = .ok (.iconst 1, 1) := by decide +kernel
theorem dX9_takesItem_49 : decode cX9_takesItem 49 = .ok (.goto 4, 3) := by decide +kernel
theorem dX9_takesItem_52 : decode cX9_takesItem 52 = .ok (.iconst 0, 1) := by decide +kernel
theorem dX9_takesItem_53 : decode cX9_takesItem 53 = .ok (.ireturn, 1) := by decide +kernel
theorem dX9_takeAll_0 : decode cX9_takeAll 0 = .ok (.aload_n 0, 1) := by decide +kernel
theorem dX9_takeAll_1 : decode cX9_takeAll 1 = .ok (.aload_n 0, 1) := by decide +kernel
theorem dX9_takeAll_2 : decode cX9_takeAll 2 = .ok (.getfield 107, 3) := by decide +kernel
theorem dX9_takeAll_5 : decode cX9_takeAll 5 = .ok (.putfield 71, 3) := by decide +kernel
theorem dX9_takeAll_8 : decode cX9_takeAll 8 = .ok (.aload_n 0, 1) := by decide +kernel
theorem dX9_takeAll_9 : decode cX9_takeAll 9 = .ok (.aload_n 0, 1) := by decide +kernel
theorem dX9_takeAll_10 : decode cX9_takeAll 10 = .ok (.getfield 113, 3) := by decide +kernel
theorem dX9_takeAll_13 : decode cX9_takeAll 13 = .ok (.putfield 79, 3) := by decide +kernel
theorem dX9_takeAll_16 : decode cX9_takeAll 16 = .ok (.iconst 0, 1) := by decide +kernel
theorem dX9_takeAll_17 : decode cX9_takeAll 17 = .ok (.istore_n 1, 1) := by decide +kernel
theorem dX9_takeAll_18 : decode cX9_takeAll 18 = .ok (.iload_n 1, 1) := by decide +kernel
theorem dX9_takeAll_19 : decode cX9_takeAll 19 = .ok (.sipush 210, 3) := by decide +kernel
theorem dX9_takeAll_22 : decode cX9_takeAll 22 = .ok (.if_icmp .ge 16, 3) := by decide +kernel
theorem dX9_takeAll_25 : decode cX9_takeAll 25 = .ok (.aload_n 0, 1) := by decide +kernel
theorem dX9_takeAll_26 : decode cX9_takeAll 26 = .ok (.getfield 28, 3) := by decide +kernel
theorem dX9_takeAll_29 : decode cX9_takeAll 29 = .ok (.iload_n 1, 1) := by decide +kernel
theorem dX9_takeAll_30 : decode cX9_takeAll 30 = .ok (.iconst 0, 1) := by decide +kernel
theorem dX9_takeAll_31 : decode cX9_takeAll 31 = .ok (.iastore, 1) := by decide +kernel
theorem dX9_takeAll_32 : decode cX9_takeAll 32 = .ok (.iinc 1 1, 3) := by decide +kernel
theorem dX9_takeAll_35 : decode cX9_takeAll 35 = .ok (.goto (-17), 3) := by decide +kernel
theorem dX9_takeAll_38 : decode cX9_takeAll 38 = .ok (.iconst 0, 1) := by decide +kernel
theorem dX9_takeAll_39 : decode cX9_takeAll 39 = .ok (.istore_n 1, 1) := by decide +kernel
theorem dX9_takeAll_40 : decode cX9_takeAll 40 = .ok (.iload_n 1, 1) := by decide +kernel
theorem dX9_takeAll_41 : decode cX9_takeAll 41 = .ok (.aload_n 0, 1) := by decide +kernel
theorem dX9_takeAll_42 : decode cX9_takeAll 42 = .ok (.getfield 71, 3) := by decide +kernel
theorem dX9_takeAll_45 : decode cX9_takeAll 45 = .ok (.if_icmp .ge 94, 3) := by decide +kernel
theorem dX9_takeAll_48 : decode cX9_takeAll 48 = .ok (.aload_n 0, 1) := by decide +kernel
theorem dX9_takeAll_49 : decode cX9_takeAll 49 = .ok (.getfield 28, 3) := by decide +kernel
theorem dX9_takeAll_52 : decode cX9_takeAll 52 = .ok (.iconst 1, 1) := by decide +kernel
theorem dX9_takeAll_53 : decode cX9_takeAll 53 = .ok (.iload_n 1, 1) := by decide +kernel
theorem dX9_takeAll_54 : decode cX9_takeAll 54 = .ok (.iadd, 1) := by decide +kernel
theorem dX9_takeAll_55 : decode cX9_takeAll 55 = .ok (.aload_n 0, 1) := by decide +kernel
theorem dX9_takeAll_56 : decode cX9_takeAll 56 = .ok (.getfield 47, 3) := by decide +kernel
theorem dX9_takeAll_59 : decode cX9_takeAll 59 = .ok (.iconst 4, 1) := by decide +kernel
theorem dX9_takeAll_60 : decode cX9_takeAll 60 = .ok (.iload_n 1, 1) := by decide +kernel
theorem dX9_takeAll_61 : decode cX9_takeAll 61 = .ok (.imul, 1) := by decide +kernel
theorem dX9_takeAll_62 : decode cX9_takeAll 62 = .ok (.iaload, 1) := by decide +kernel
theorem dX9_takeAll_63 : decode cX9_takeAll 63 = .ok (.iastore, 1) := by decide +kernel
theorem dX9_takeAll_64 : decode cX9_takeAll 64 = .ok (.aload_n 0, 1) := by decide +kernel
theorem dX9_takeAll_65 : decode cX9_takeAll 65 = .ok (.getfield 28, 3) := by decide +kernel
theorem dX9_takeAll_68 : decode cX9_takeAll 68 = .ok (.bipush 7, 2) := by decide +kernel
theorem dX9_takeAll_70 : decode cX9_takeAll 70 = .ok (.iload_n 1, 1) := by decide +kernel
theorem dX9_takeAll_71 : decode cX9_takeAll 71 = .ok (.iadd, 1) := by decide +kernel
theorem dX9_takeAll_72 : decode cX9_takeAll 72 = .ok (.bipush (-9), 2) := by decide +kernel
theorem dX9_takeAll_74 : decode cX9_takeAll 74 = .ok (.iastore, 1) := by decide +kernel
theorem dX9_takeAll_75 : decode cX9_takeAll 75 = .ok (.aload_n 0, 1) := by decide +kernel
theorem dX9_takeAll_76 : decode cX9_takeAll 76 = .ok (.getfield 28, 3) := by decide +kernel
theorem dX9_takeAll_79 : decode cX9_takeAll 79 = .ok (.bipush 13, 2) := by decide +kernel
theorem dX9_takeAll_81 : decode cX9_takeAll 81 = .ok (.iload_n 1, 1) := by decide +kernel
theorem dX9_takeAll_82 : decode cX9_takeAll 82 = .ok (.iadd, 1) := by decide +kernel
theorem dX9_takeAll_83 : decode cX9_takeAll 83 = .ok (.iload_n 1, 1) := by decide +kernel
theorem dX9_takeAll_84 : decode cX9_takeAll 84 = .ok (.iastore, 1) := by decide +kernel
theorem dX9_takeAll_85 : decode cX9_takeAll 85 = .ok (.aload_n 0, 1) := by decide +kernel
theorem dX9_takeAll_86 : decode cX9_takeAll 86 = .ok (.getfield 7, 3) := by decide +kernel
theorem dX9_takeAll_89 : decode cX9_takeAll 89 = .ok (.iload_n 1, 1) := by decide +kernel
theorem dX9_takeAll_90 : decode cX9_takeAll 90 = .ok (.aload_n 0, 1) := by decide +kernel
theorem dX9_takeAll_91 : decode cX9_takeAll 91 = .ok (.getfield 47, 3) := by decide +kernel
theorem dX9_takeAll_94 : decode cX9_takeAll 94 = .ok (.iconst 4, 1) := by decide +kernel
theorem dX9_takeAll_95 : decode cX9_takeAll 95 = .ok (.iload_n 1, 1) := by decide +kernel
theorem dX9_takeAll_96 : decode cX9_takeAll 96 = .ok (.imul, 1) := by decide +kernel
theorem dX9_takeAll_97 : decode cX9_takeAll 97 = .ok (.iconst 1, 1) := by decide +kernel
theorem dX9_takeAll_98 : decode cX9_takeAll 98 = .ok (.iadd, 1) := by decide +kernel
theorem dX9_takeAll_99 : decode cX9_takeAll 99 = .ok (.iaload, 1) := by decide +kernel
theorem dX9_takeAll_100 : decode cX9_takeAll 100 = .ok (.iastore, 1) := by decide +kernel
theorem dX9_takeAll_101 : decode cX9_takeAll 101 = .ok (.aload_n 0, 1) := by decide +kernel
theorem dX9_takeAll_102 : decode cX9_takeAll 102 = .ok (.getfield 13, 3) := by decide +kernel
theorem dX9_takeAll_105 : decode cX9_takeAll 105 = .ok (.iload_n 1, 1) := by decide +kernel
theorem dX9_takeAll_106 : decode cX9_takeAll 106 = .ok (.aload_n 0, 1) := by decide +kernel
theorem dX9_takeAll_107 : decode cX9_takeAll 107 = .ok (.getfield 47, 3) := by decide +kernel
theorem dX9_takeAll_110 : decode cX9_takeAll 110 = .ok (.iconst 4, 1) := by decide +kernel
theorem dX9_takeAll_111 : decode cX9_takeAll 111 = .ok (.iload_n 1, 1) := by decide +kernel
theorem dX9_takeAll_112 : decode cX9_takeAll 112 = .ok (.imul, 1) := by decide +kernel
theorem dX9_takeAll_113 : decode cX9_takeAll 113 = .ok (.iconst 2, 1) := by decide +kernel
theorem dX9_takeAll_114 : decode cX9_takeAll 114 = .ok (.iadd, 1) := by decide +kernel
theorem dX9_takeAll_115 : decode cX9_takeAll 115 = .ok (.iaload, 1) := by decide +kernel
theorem dX9_takeAll_116 : decode cX9_takeAll 116 = .ok (.iastore, 1) := by decide +kernel
theorem dX9_takeAll_117 : decode cX9_takeAll 117 = .ok (.aload_n 0, 1) := by decide +kernel
theorem dX9_takeAll_118 : decode cX9_takeAll 118 = .ok (.getfield 16, 3) := by decide +kernel
theorem dX9_takeAll_121 : decode cX9_takeAll 121 = .ok (.iload_n 1, 1) := by decide +kernel
theorem dX9_takeAll_122 : decode cX9_takeAll 122 = .ok (.aload_n 0, 1) := by decide +kernel
theorem dX9_takeAll_123 : decode cX9_takeAll 123 = .ok (.getfield 47, 3) := by decide +kernel
theorem dX9_takeAll_126 : decode cX9_takeAll 126 = .ok (.iconst 4, 1) := by decide +kernel
theorem dX9_takeAll_127 : decode cX9_takeAll 127 = .ok (.iload_n 1, 1) := by decide +kernel
theorem dX9_takeAll_128 : decode cX9_takeAll 128 = .ok (.imul, 1) := by decide +kernel
theorem dX9_takeAll_129 : decode cX9_takeAll 129 = .ok (.iconst 3, 1) := by decide +kernel
theorem dX9_takeAll_130 : decode cX9_takeAll 130 = .ok (.iadd, 1) := by decide +kernel
theorem dX9_takeAll_131 : decode cX9_takeAll 131 = .ok (.iaload, 1) := by decide +kernel
theorem dX9_takeAll_132 : decode cX9_takeAll 132 = .ok (.iastore, 1) := by decide +kernel
theorem dX9_takeAll_133 : decode cX9_takeAll 133 = .ok (.iinc 1 1, 3) := by decide +kernel
theorem dX9_takeAll_136 : decode cX9_takeAll 136 = .ok (.goto (-96), 3) := by decide +kernel
theorem dX9_takeAll_139 : decode cX9_takeAll 139 = .ok (.iconst 0, 1) := by decide +kernel
theorem dX9_takeAll_140 : decode cX9_takeAll 140 = .ok (.istore_n 1, 1) := by decide +kernel
theorem dX9_takeAll_141 : decode cX9_takeAll 141 = .ok (.iload_n 1, 1) := by decide +kernel
theorem dX9_takeAll_142 : decode cX9_takeAll 142 = .ok (.aload_n 0, 1) := by decide +kernel
theorem dX9_takeAll_143 : decode cX9_takeAll 143 = .ok (.getfield 79, 3) := by decide +kernel
theorem dX9_takeAll_146 : decode cX9_takeAll 146 = .ok (.if_icmp .ge 60, 3) := by decide +kernel
theorem dX9_takeAll_149 : decode cX9_takeAll 149 = .ok (.aload_n 0, 1) := by decide +kernel
theorem dX9_takeAll_150 : decode cX9_takeAll 150 = .ok (.getfield 19, 3) := by decide +kernel
theorem dX9_takeAll_153 : decode cX9_takeAll 153 = .ok (.iload_n 1, 1) := by decide +kernel
theorem dX9_takeAll_154 : decode cX9_takeAll 154 = .ok (.aload_n 0, 1) := by decide +kernel
theorem dX9_takeAll_155 : decode cX9_takeAll 155 = .ok (.getfield 47, 3) := by decide +kernel
theorem dX9_takeAll_158 : decode cX9_takeAll 158 = .ok (.bipush 24, 2) := by decide +kernel
theorem dX9_takeAll_160 : decode cX9_takeAll 160 = .ok (.iconst 3, 1) := by decide +kernel
theorem dX9_takeAll_161 : decode cX9_takeAll 161 = .ok (.iload_n 1, 1) := by decide +kernel
theorem dX9_takeAll_162 : decode cX9_takeAll 162 = .ok (.imul, 1) := by decide +kernel
theorem dX9_takeAll_163 : decode cX9_takeAll 163 = .ok (.iadd, 1) := by decide +kernel
theorem dX9_takeAll_164 : decode cX9_takeAll 164 = .ok (.iaload, 1) := by decide +kernel
theorem dX9_takeAll_165 : decode cX9_takeAll 165 = .ok (.iastore, 1) := by decide +kernel
theorem dX9_takeAll_166 : decode cX9_takeAll 166 = .ok (.aload_n 0, 1) := by decide +kernel
theorem dX9_takeAll_167 : decode cX9_takeAll 167 = .ok (.getfield 22, 3) := by decide +kernel
theorem dX9_takeAll_170 : decode cX9_takeAll 170 = .ok (.iload_n 1, 1) := by decide +kernel
theorem dX9_takeAll_171 : decode cX9_takeAll 171 = .ok (.aload_n 0, 1) := by decide +kernel
theorem dX9_takeAll_172 : decode cX9_takeAll 172 = .ok (.getfield 47, 3) := by decide +kernel
theorem dX9_takeAll_175 : decode cX9_takeAll 175 = .ok (.bipush 25, 2) := by decide +kernel
theorem dX9_takeAll_177 : decode cX9_takeAll 177 = .ok (.iconst 3, 1) := by decide +kernel
theorem dX9_takeAll_178 : decode cX9_takeAll 178 = .ok (.iload_n 1, 1) := by decide +kernel
theorem dX9_takeAll_179 : decode cX9_takeAll 179 = .ok (.imul, 1) := by decide +kernel
theorem dX9_takeAll_180 : decode cX9_takeAll 180 = .ok (.iadd, 1) := by decide +kernel
theorem dX9_takeAll_181 : decode cX9_takeAll 181 = .ok (.iaload, 1) := by decide +kernel
theorem dX9_takeAll_182 : decode cX9_takeAll 182 = .ok (.iastore, 1) := by decide +kernel
theorem dX9_takeAll_183 : decode cX9_takeAll 183 = .ok (.aload_n 0, 1) := by decide +kernel
theorem dX9_takeAll_184 : decode cX9_takeAll 184 = .ok (.getfield 25, 3) := by decide +kernel
theorem dX9_takeAll_187 : decode cX9_takeAll 187 = .ok (.iload_n 1, 1) := by decide +kernel
theorem dX9_takeAll_188 : decode cX9_takeAll 188 = .ok (.aload_n 0, 1) := by decide +kernel
theorem dX9_takeAll_189 : decode cX9_takeAll 189 = .ok (.getfield 47, 3) := by decide +kernel
theorem dX9_takeAll_192 : decode cX9_takeAll 192 = .ok (.bipush 26, 2) := by decide +kernel
theorem dX9_takeAll_194 : decode cX9_takeAll 194 = .ok (.iconst 3, 1) := by decide +kernel
theorem dX9_takeAll_195 : decode cX9_takeAll 195 = .ok (.iload_n 1, 1) := by decide +kernel
theorem dX9_takeAll_196 : decode cX9_takeAll 196 = .ok (.imul, 1) := by decide +kernel
theorem dX9_takeAll_197 : decode cX9_takeAll 197 = .ok (.iadd, 1) := by decide +kernel
theorem dX9_takeAll_198 : decode cX9_takeAll 198 = .ok (.iaload, 1) := by decide +kernel
theorem dX9_takeAll_199 : decode cX9_takeAll 199 = .ok (.iastore, 1) := by decide +kernel
theorem dX9_takeAll_200 : decode cX9_takeAll 200 = .ok (.iinc 1 1, 3) := by decide +kernel
theorem dX9_takeAll_203 : decode cX9_takeAll 203 = .ok (.goto (-62), 3) := by decide +kernel
theorem dX9_takeAll_206 : decode cX9_takeAll 206 = .ok (.aload_n 0, 1) := by decide +kernel
theorem dX9_takeAll_207 : decode cX9_takeAll 207 = .ok (.iconst 0, 1) := by decide +kernel
theorem dX9_takeAll_208 : decode cX9_takeAll 208 = .ok (.putfield 130, 3) := by decide +kernel
theorem dX9_takeAll_211 : decode cX9_takeAll 211 = .ok (.aload_n 0, 1) := by decide +kernel
theorem dX9_takeAll_212 : decode cX9_takeAll 212 = .ok (.getfield 34, 3) := by decide +kernel
theorem dX9_takeAll_215 : decode cX9_takeAll 215 = .ok (.iconst 0, 1) := by decide +kernel
theorem dX9_takeAll_216 : decode cX9_takeAll 216 = .ok (.iconst 0, 1) := by decide +kernel
theorem dX9_takeAll_217 : decode cX9_takeAll 217 = .ok (.bastore, 1) := by decide +kernel
theorem dX9_takeAll_218 : decode cX9_takeAll 218 = .ok (.aload_n 0, 1) := by decide +kernel
theorem dX9_takeAll_219 : decode cX9_takeAll 219 = .ok (.getfield 34, 3) := by decide +kernel
theorem dX9_takeAll_222 : decode cX9_takeAll 222 = .ok (.iconst 1, 1) := by decide +kernel
theorem dX9_takeAll_223 : decode cX9_takeAll 223 = .ok (.iconst 0, 1) := by decide +kernel
theorem dX9_takeAll_224 : decode cX9_takeAll 224 = .ok (.bastore, 1) := by decide +kernel
theorem dX9_takeAll_225 : decode cX9_takeAll 225 = .ok (.aload_n 0, 1) := by decide +kernel
theorem dX9_takeAll_226 : decode cX9_takeAll 226 = .ok (.iconst 0, 1) := by decide +kernel
theorem dX9_takeAll_227 : decode cX9_takeAll 227 = .ok (.putfield 84, 3) := by decide +kernel
theorem dX9_takeAll_230 : decode cX9_takeAll 230 = .ok (.return_, 1) := by decide +kernel
theorem dX9_hill_0 : decode cX9_hill 0 = .ok (.iconst 0, 1) := by decide +kernel
theorem dX9_hill_1 : decode cX9_hill 1 = .ok (.istore_n 1, 1) := by decide +kernel
theorem dX9_hill_2 : decode cX9_hill 2 = .ok (.aload_n 0, 1) := by decide +kernel
theorem dX9_hill_3 : decode cX9_hill 3 = .ok (.iconst 0, 1) := by decide +kernel
theorem dX9_hill_4 : decode cX9_hill 4 = .ok (.putfield 107, 3) := by decide +kernel
theorem dX9_hill_7 : decode cX9_hill 7 = .ok (.aload_n 0, 1) := by decide +kernel
theorem dX9_hill_8 : decode cX9_hill 8 = .ok (.iconst 0, 1) := by decide +kernel
theorem dX9_hill_9 : decode cX9_hill 9 = .ok (.putfield 113, 3) := by decide +kernel
theorem dX9_hill_12 : decode cX9_hill 12 = .ok (.aload_n 0, 1) := by decide +kernel
theorem dX9_hill_13 : decode cX9_hill 13 = .ok (.iconst 0, 1) := by decide +kernel
theorem dX9_hill_14 : decode cX9_hill 14 = .ok (.invokevirtual 103, 3) := by decide +kernel
theorem dX9_hill_17 : decode cX9_hill 17 = .ok (.aload_n 0, 1) := by decide +kernel
theorem dX9_hill_18 : decode cX9_hill 18 = .ok (.getfield 97, 3) := by decide +kernel
theorem dX9_hill_21 : decode cX9_hill 21 = .ok (.ifCond .eq 40, 3) := by decide +kernel
theorem dX9_hill_24 : decode cX9_hill 24 = .ok (.aload_n 0, 1) := by decide +kernel
theorem dX9_hill_25 : decode cX9_hill 25 = .ok (.invokevirtual 133, 3) := by decide +kernel
theorem dX9_hill_28 : decode cX9_hill 28 = .ok (.ifCond .eq 11, 3) := by decide +kernel
theorem dX9_hill_31 : decode cX9_hill 31 = .ok (.aload_n 0, 1) := by decide +kernel
theorem dX9_hill_32 : decode cX9_hill 32 = .ok (.getfield 97, 3) := by decide +kernel
theorem dX9_hill_35 : decode cX9_hill 35 = .ok (.iconst 3, 1) := by decide +kernel
theorem dX9_hill_36 : decode cX9_hill 36 = .ok (.if_icmp .eq 11, 3) := by decide +kernel
theorem dX9_hill_39 : decode cX9_hill 39 = .ok (.bipush (-10), 2) := by decide +kernel
theorem dX9_hill_41 : decode cX9_hill 41 = .ok (.aload_n 0, 1) := by decide +kernel
theorem dX9_hill_42 : decode cX9_hill 42 = .ok (.getfield 87, 3) := by decide +kernel
theorem dX9_hill_45 : decode cX9_hill 45 = .ok (.isub, 1) := by decide +kernel
theorem dX9_hill_46 : decode cX9_hill 46 = .ok (.ireturn, 1) := by decide +kernel
theorem dX9_hill_47 : decode cX9_hill 47 = .ok (.aload_n 0, 1) := by decide +kernel
theorem dX9_hill_48 : decode cX9_hill 48 = .ok (.aload_n 0, 1) := by decide +kernel
theorem dX9_hill_49 : decode cX9_hill 49 = .ok (.getfield 100, 3) := by decide +kernel
theorem dX9_hill_52 : decode cX9_hill 52 = .ok (.invokevirtual 103, 3) := by decide +kernel
theorem dX9_hill_55 : decode cX9_hill 55 = .ok (.iinc 1 1, 3) := by decide +kernel
theorem dX9_hill_58 : decode cX9_hill 58 = .ok (.goto (-41), 3) := by decide +kernel
theorem dX9_hill_61 : decode cX9_hill 61 = .ok (.aload_n 0, 1) := by decide +kernel
theorem dX9_hill_62 : decode cX9_hill 62 = .ok (.invokevirtual 136, 3) := by decide +kernel
theorem dX9_hill_65 : decode cX9_hill 65 = .ok (.iload_n 1, 1) := by decide +kernel
theorem dX9_hill_66 : decode cX9_hill 66 = .ok (.ireturn, 1) := by decide +kernel
theorem dX9_heat_0 : decode cX9_heat 0 = .ok (.aload_n 0, 1) := by decide +kernel
theorem dX9_heat_1 : decode cX9_heat 1 = .ok (.getfield 28, 3) := by decide +kernel
theorem dX9_heat_4 : decode cX9_heat 4 = .ok (.iconst 1, 1) := by decide +kernel
theorem dX9_heat_5 : decode cX9_heat 5 = .ok (.iload_n 1, 1) := by decide +kernel
theorem dX9_heat_6 : decode cX9_heat 6 = .ok (.iadd, 1) := by decide +kernel
theorem dX9_heat_7 : decode cX9_heat 7 = .ok (.iaload, 1) := by decide +kernel
theorem dX9_heat_8 : decode cX9_heat 8 = .ok (.ireturn, 1) := by decide +kernel
theorem dX9_whom_0 : decode cX9_whom 0 = .ok (.iconst 0, 1) := by decide +kernel
theorem dX9_whom_1 : decode cX9_whom 1 = .ok (.istore_n 2, 1) := by decide +kernel
theorem dX9_whom_2 : decode cX9_whom 2 = .ok (.iconst 0, 1) := by decide +kernel
theorem dX9_whom_3 : decode cX9_whom 3 = .ok (.istore_n 3, 1) := by decide +kernel
theorem dX9_whom_4 : decode cX9_whom 4 = .ok (.iload_n 3, 1) := by decide +kernel
theorem dX9_whom_5 : decode cX9_whom 5 = .ok (.aload_n 0, 1) := by decide +kernel
theorem dX9_whom_6 : decode cX9_whom 6 = .ok (.getfield 71, 3) := by decide +kernel
theorem dX9_whom_9 : decode cX9_whom 9 = .ok (.if_icmp .ge 32, 3) := by decide +kernel
theorem dX9_whom_12 : decode cX9_whom 12 = .ok (.iload_n 2, 1) := by decide +kernel
theorem dX9_whom_13 : decode cX9_whom 13 = .ok (.aload_n 0, 1) := by decide +kernel
theorem dX9_whom_14 : decode cX9_whom 14 = .ok (.getfield 28, 3) := by decide +kernel
theorem dX9_whom_17 : decode cX9_whom 17 = .ok (.bipush 7, 2) := by decide +kernel
theorem dX9_whom_19 : decode cX9_whom 19 = .ok (.iload_n 3, 1) := by decide +kernel
theorem dX9_whom_20 : decode cX9_whom 20 = .ok (.iadd, 1) := by decide +kernel
theorem dX9_whom_21 : decode cX9_whom 21 = .ok (.iaload, 1) := by decide +kernel
theorem dX9_whom_22 : decode cX9_whom 22 = .ok (.iload_n 1, 1) := by decide +kernel
theorem dX9_whom_23 : decode cX9_whom 23 = .ok (.if_icmp .ne 9, 3) := by decide +kernel
theorem dX9_whom_26 : decode cX9_whom 26 = .ok (.iconst 1, 1) := by decide +kernel
theorem dX9_whom_27 : decode cX9_whom 27 = .ok (.iload_n 3, 1) := by decide +kernel
theorem dX9_whom_28 : decode cX9_whom 28 = .ok (.ishl, 1) := by decide +kernel
theorem dX9_whom_29 : decode cX9_whom 29 = .ok (.goto 4, 3) := by decide +kernel
theorem dX9_whom_32 : decode cX9_whom 32 = .ok (.iconst 0, 1) := by decide +kernel
theorem dX9_whom_33 : decode cX9_whom 33 = .ok (.ior, 1) := by decide +kernel
theorem dX9_whom_34 : decode cX9_whom 34 = .ok (.istore_n 2, 1) := by decide +kernel
theorem dX9_whom_35 : decode cX9_whom 35 = .ok (.iinc 3 1, 3) := by decide +kernel
theorem dX9_whom_38 : decode cX9_whom 38 = .ok (.goto (-34), 3) := by decide +kernel
theorem dX9_whom_41 : decode cX9_whom 41 = .ok (.iload_n 2, 1) := by decide +kernel
theorem dX9_whom_42 : decode cX9_whom 42 = .ok (.ireturn, 1) := by decide +kernel
theorem dX9_maySend_0 : decode cX9_maySend 0 = .ok (.aload_n 0, 1) := by decide +kernel
theorem dX9_maySend_1 : decode cX9_maySend 1 = .ok (.iload_n 2, 1) := by decide +kernel
theorem dX9_maySend_2 : decode cX9_maySend 2 = .ok (.invokevirtual 139, 3) := by decide +kernel
theorem dX9_maySend_5 : decode cX9_maySend 5 = .ok (.iconst 1, 1) := by decide +kernel
theorem dX9_maySend_6 : decode cX9_maySend 6 = .ok (.iload_n 1, 1) := by decide +kernel
theorem dX9_maySend_7 : decode cX9_maySend 7 = .ok (.ishl, 1) := by decide +kernel
theorem dX9_maySend_8 : decode cX9_maySend 8 = .ok (.iconst (-1), 1) := by decide +kernel
theorem dX9_maySend_9 : decode cX9_maySend 9 = .ok (.ixor, 1) := by decide +kernel
theorem dX9_maySend_10 : decode cX9_maySend 10 = .ok (.iand, 1) := by decide +kernel
theorem dX9_maySend_11 : decode cX9_maySend 11 = .ok (.istore_n 3, 1) := by decide +kernel
theorem dX9_maySend_12 : decode cX9_maySend 12 = .ok (.aload_n 0, 1) := by decide +kernel
theorem dX9_maySend_13 : decode cX9_maySend 13 = .ok (.iload_n 1, 1) := by decide +kernel
theorem dX9_maySend_14 : decode cX9_maySend 14 = .ok (.invokevirtual 143, 3) := by decide +kernel
theorem dX9_maySend_17 : decode cX9_maySend 17 = .ok (.aload_n 0, 1) := by decide +kernel
theorem dX9_maySend_18 : decode cX9_maySend 18 = .ok (.getfield 25, 3) := by decide +kernel
theorem dX9_maySend_21 : decode cX9_maySend 21 = .ok (.iload_n 2, 1) := by decide +kernel
theorem dX9_maySend_22 : decode cX9_maySend 22 = .ok (.iaload, 1) := by decide +kernel
theorem dX9_maySend_23 : decode cX9_maySend 23 = .ok (.if_icmp .gt 31, 3) := by decide +kernel
theorem dX9_maySend_26 : decode cX9_maySend 26 = .ok (.iload_n 3, 1) := by decide +kernel
theorem dX9_maySend_27 : decode cX9_maySend 27 = .ok (.invokestatic 146, 3) := by decide +kernel
theorem dX9_maySend_30 : decode cX9_maySend 30 = .ok (.aload_n 0, 1) := by decide +kernel
theorem dX9_maySend_31 : decode cX9_maySend 31 = .ok (.getfield 22, 3) := by decide +kernel
theorem dX9_maySend_34 : decode cX9_maySend 34 = .ok (.iload_n 2, 1) := by decide +kernel
theorem dX9_maySend_35 : decode cX9_maySend 35 = .ok (.iaload, 1) := by decide +kernel
theorem dX9_maySend_36 : decode cX9_maySend 36 = .ok (.if_icmp .ge 18, 3) := by decide +kernel
theorem dX9_maySend_39 : decode cX9_maySend 39 = .ok (.iload_n 3, 1) := by decide +kernel
theorem dX9_maySend_40 : decode cX9_maySend 40 = .ok (.aload_n 0, 1) := by decide +kernel
theorem dX9_maySend_41 : decode cX9_maySend 41 = .ok (.getfield 16, 3) := by decide +kernel
theorem dX9_maySend_44 : decode cX9_maySend 44 = .ok (.iload_n 1, 1) := by decide +kernel
theorem dX9_maySend_45 : decode cX9_maySend 45 = .ok (.iaload, 1) := by decide +kernel
theorem dX9_maySend_46 : decode cX9_maySend 46 = .ok (.iand, 1) := by decide +kernel
theorem dX9_maySend_47 : decode cX9_maySend 47 = .ok (.ifCond .ne 7, 3) := by decide +kernel
theorem dX9_maySend_50 : decode cX9_maySend 50 = .ok (.iconst 1, 1) := by decide +kernel
theorem dX9_maySend_51 : decode cX9_maySend 51 = .ok (.goto 4, 3) := by decide +kernel
theorem dX9_maySend_54 : decode cX9_maySend 54 = .ok (.iconst 0, 1) := by decide +kernel
theorem dX9_maySend_55 : decode cX9_maySend 55 = .ok (.ireturn, 1) := by decide +kernel
theorem dX9_ring_0 : decode cX9_ring 0 = .ok (.iconst 1, 1) := by decide +kernel
theorem dX9_ring_1 : decode cX9_ring 1 = .ok (.istore_n 2, 1) := by decide +kernel
theorem dX9_ring_2 : decode cX9_ring 2 = .ok (.aload_n 0, 1) := by decide +kernel
theorem dX9_ring_3 : decode cX9_ring 3 = .ok (.getfield 28, 3) := by decide +kernel
theorem dX9_ring_6 : decode cX9_ring 6 = .ok (.bipush 13, 2) := by decide +kernel
theorem dX9_ring_8 : decode cX9_ring 8 = .ok (.iload_n 1, 1) := by decide +kernel
theorem dX9_ring_9 : decode cX9_ring 9 = .ok (.iadd, 1) := by decide +kernel
theorem dX9_ring_10 : decode cX9_ring 10 = .ok (.iaload, 1) := by decide +kernel
theorem dX9_ring_11 : decode cX9_ring 11 = .ok (.istore_n 3, 1) := by decide +kernel
theorem dX9_ring_12 : decode cX9_ring 12 = .ok (.iload_n 3, 1) := by decide +kernel
theorem dX9_ring_13 : decode cX9_ring 13 = .ok (.iload_n 1, 1) := by decide +kernel
theorem dX9_ring_14 : decode cX9_ring 14 = .ok (.if_icmp .eq 19, 3) := by decide +kernel
theorem dX9_ring_17 : decode cX9_ring 17 = .ok (.aload_n 0, 1) := by decide +kernel
theorem dX9_ring_18 : decode cX9_ring 18 = .ok (.getfield 28, 3) := by decide +kernel
theorem dX9_ring_21 : decode cX9_ring 21 = .ok (.bipush 13, 2) := by decide +kernel
theorem dX9_ring_23 : decode cX9_ring 23 = .ok (.iload_n 3, 1) := by decide +kernel
theorem dX9_ring_24 : decode cX9_ring 24 = .ok (.iadd, 1) := by decide +kernel
theorem dX9_ring_25 : decode cX9_ring 25 = .ok (.iaload, 1) := by decide +kernel
theorem dX9_ring_26 : decode cX9_ring 26 = .ok (.istore_n 3, 1) := by decide +kernel
theorem dX9_ring_27 : decode cX9_ring 27 = .ok (.iinc 2 1, 3) := by decide +kernel
theorem dX9_ring_30 : decode cX9_ring 30 = .ok (.goto (-18), 3) := by decide +kernel
theorem dX9_ring_33 : decode cX9_ring 33 = .ok (.iload_n 2, 1) := by decide +kernel
theorem dX9_ring_34 : decode cX9_ring 34 = .ok (.ireturn, 1) := by decide +kernel
theorem dX9_temper_0 : decode cX9_temper 0 = .ok (.aload_n 0, 1) := by decide +kernel
theorem dX9_temper_1 : decode cX9_temper 1 = .ok (.iload_n 1, 1) := by decide +kernel
theorem dX9_temper_2 : decode cX9_temper 2 = .ok (.invokevirtual 149, 3) := by decide +kernel
theorem dX9_temper_5 : decode cX9_temper 5 = .ok (.ifCond .eq 15, 3) := by decide +kernel
theorem dX9_temper_8 : decode cX9_temper 8 = .ok (.iload_n 2, 1) := by decide +kernel
theorem dX9_temper_9 : decode cX9_temper 9 = .ok (.i2l, 1) := by decide +kernel
theorem dX9_temper_10 : decode cX9_temper 10 = .ok (.lconst 0, 1) := by decide +kernel
theorem dX9_temper_11 : decode cX9_temper 11 = .ok (.ldc2_w 152, 3) := by decide +kernel
theorem dX9_temper_14 : decode cX9_temper 14 = .ok (.invokestatic 75, 3) := by decide +kernel
theorem dX9_temper_17 : decode cX9_temper 17 = .ok (.ifCond .ne 5, 3) := by decide +kernel
theorem dX9_temper_20 : decode cX9_temper 20 = .ok (.iconst (-1), 1) := by decide +kernel
theorem dX9_temper_21 : decode cX9_temper 21 = .ok (.ireturn, 1) := by decide +kernel
theorem dX9_temper_22 : decode cX9_temper 22 = .ok (.iload_n 2, 1) := by decide +kernel
theorem dX9_temper_23 : decode cX9_temper 23 = .ok (.tableswitch 84 0 5 #[37, 43, 50, 57, 67, 77], 37) := by decide +kernel
theorem dX9_temper_60 : decode cX9_temper 60 = .ok (.aload_n 0, 1) := by decide +kernel
theorem dX9_temper_61 : decode cX9_temper 61 = .ok (.iload_n 1, 1) := by decide +kernel
theorem dX9_temper_62 : decode cX9_temper 62 = .ok (.invokevirtual 143, 3) := by decide +kernel
theorem dX9_temper_65 : decode cX9_temper 65 = .ok (.ireturn, 1) := by decide +kernel
theorem dX9_temper_66 : decode cX9_temper 66 = .ok (.aload_n 0, 1) := by decide +kernel
theorem dX9_temper_67 : decode cX9_temper 67 = .ok (.getfield 7, 3) := by decide +kernel
theorem dX9_temper_70 : decode cX9_temper 70 = .ok (.iload_n 1, 1) := by decide +kernel
theorem dX9_temper_71 : decode cX9_temper 71 = .ok (.iaload, 1) := by decide +kernel
theorem dX9_temper_72 : decode cX9_temper 72 = .ok (.ireturn, 1) := by decide +kernel
theorem dX9_temper_73 : decode cX9_temper 73 = .ok (.aload_n 0, 1) := by decide +kernel
theorem dX9_temper_74 : decode cX9_temper 74 = .ok (.getfield 13, 3) := by decide +kernel
theorem dX9_temper_77 : decode cX9_temper 77 = .ok (.iload_n 1, 1) := by decide +kernel
theorem dX9_temper_78 : decode cX9_temper 78 = .ok (.iaload, 1) := by decide +kernel
theorem dX9_temper_79 : decode cX9_temper 79 = .ok (.ireturn, 1) := by decide +kernel
theorem dX9_temper_80 : decode cX9_temper 80 = .ok (.aload_n 0, 1) := by decide +kernel
theorem dX9_temper_81 : decode cX9_temper 81 = .ok (.getfield 28, 3) := by decide +kernel
theorem dX9_temper_84 : decode cX9_temper 84 = .ok (.bipush 7, 2) := by decide +kernel
theorem dX9_temper_86 : decode cX9_temper 86 = .ok (.iload_n 1, 1) := by decide +kernel
theorem dX9_temper_87 : decode cX9_temper 87 = .ok (.iadd, 1) := by decide +kernel
theorem dX9_temper_88 : decode cX9_temper 88 = .ok (.iaload, 1) := by decide +kernel
theorem dX9_temper_89 : decode cX9_temper 89 = .ok (.ireturn, 1) := by decide +kernel
theorem dX9_temper_90 : decode cX9_temper 90 = .ok (.aload_n 0, 1) := by decide +kernel
theorem dX9_temper_91 : decode cX9_temper 91 = .ok (.getfield 28, 3) := by decide +kernel
theorem dX9_temper_94 : decode cX9_temper 94 = .ok (.bipush 13, 2) := by decide +kernel
theorem dX9_temper_96 : decode cX9_temper 96 = .ok (.iload_n 1, 1) := by decide +kernel
theorem dX9_temper_97 : decode cX9_temper 97 = .ok (.iadd, 1) := by decide +kernel
theorem dX9_temper_98 : decode cX9_temper 98 = .ok (.iaload, 1) := by decide +kernel
theorem dX9_temper_99 : decode cX9_temper 99 = .ok (.ireturn, 1) := by decide +kernel
theorem dX9_temper_100 : decode cX9_temper 100 = .ok (.aload_n 0, 1) := by decide +kernel
theorem dX9_temper_101 : decode cX9_temper 101 = .ok (.getfield 16, 3) := by decide +kernel
theorem dX9_temper_104 : decode cX9_temper 104 = .ok (.iload_n 1, 1) := by decide +kernel
theorem dX9_temper_105 : decode cX9_temper 105 = .ok (.iaload, 1) := by decide +kernel
theorem dX9_temper_106 : decode cX9_temper 106 = .ok (.ireturn, 1) := by decide +kernel
theorem dX9_temper_107 : decode cX9_temper 107 = .ok (.aload_n 0, 1) := by decide +kernel
theorem dX9_temper_108 : decode cX9_temper 108 = .ok (.iload_n 1, 1) := by decide +kernel
theorem dX9_temper_109 : decode cX9_temper 109 = .ok (.invokevirtual 154, 3) := by decide +kernel
theorem dX9_temper_112 : decode cX9_temper 112 = .ok (.ireturn, 1) := by decide +kernel
theorem dX9_nurse_0 : decode cX9_nurse 0 = .ok (.aload_n 0, 1) := by decide +kernel
theorem dX9_nurse_1 : decode cX9_nurse 1 = .ok (.iload_n 1, 1) := by decide +kernel
theorem dX9_nurse_2 : decode cX9_nurse 2 = .ok (.invokevirtual 157, 3) := by decide +kernel
theorem dX9_nurse_5 : decode cX9_nurse 5 = .ok (.ifCond .eq 15, 3) := by decide +kernel
theorem dX9_nurse_8 : decode cX9_nurse 8 = .ok (.iload_n 2, 1) := by decide +kernel
theorem dX9_nurse_9 : decode cX9_nurse 9 = .ok (.i2l, 1) := by decide +kernel
theorem dX9_nurse_10 : decode cX9_nurse 10 = .ok (.lconst 0, 1) := by decide +kernel
theorem dX9_nurse_11 : decode cX9_nurse 11 = .ok (.ldc2_w 160, 3) := by decide +kernel
theorem dX9_nurse_14 : decode cX9_nurse 14 = .ok (.invokestatic 75, 3) := by decide +kernel
theorem dX9_nurse_17 : decode cX9_nurse 17 = .ok (.ifCond .ne 5, 3) := by decide +kernel
theorem dX9_nurse_20 : decode cX9_nurse 20 = .ok (.iconst (-1), 1) := by decide +kernel
theorem dX9_nurse_21 : decode cX9_nurse 21 = .ok (.ireturn, 1) := by decide +kernel
theorem dX9_nurse_22 : decode cX9_nurse 22 = .ok (.iconst 0, 1) := by decide +kernel
theorem dX9_nurse_23 : decode cX9_nurse 23 = .ok (.istore_n 3, 1) := by decide +kernel
theorem dX9_nurse_24 : decode cX9_nurse 24 = .ok (.iconst 0, 1) := by decide +kernel
theorem dX9_nurse_25 : decode cX9_nurse 25 = .ok (.istore 4, 2) := by decide +kernel
theorem dX9_nurse_27 : decode cX9_nurse 27 = .ok (.iload 4, 2) := by decide +kernel
theorem dX9_nurse_29 : decode cX9_nurse 29 = .ok (.aload_n 0, 1) := by decide +kernel
theorem dX9_nurse_30 : decode cX9_nurse 30 = .ok (.getfield 71, 3) := by decide +kernel
theorem dX9_nurse_33 : decode cX9_nurse 33 = .ok (.if_icmp .ge 44, 3) := by decide +kernel
theorem dX9_nurse_36 : decode cX9_nurse 36 = .ok (.iload_n 3, 1) := by decide +kernel
theorem dX9_nurse_37 : decode cX9_nurse 37 = .ok (.aload_n 0, 1) := by decide +kernel
theorem dX9_nurse_38 : decode cX9_nurse 38 = .ok (.getfield 28, 3) := by decide +kernel
theorem dX9_nurse_41 : decode cX9_nurse 41 = .ok (.bipush 7, 2) := by decide +kernel
theorem dX9_nurse_43 : decode cX9_nurse 43 = .ok (.iload 4, 2) := by decide +kernel
theorem dX9_nurse_45 : decode cX9_nurse 45 = .ok (.iadd, 1) := by decide +kernel
theorem dX9_nurse_46 : decode cX9_nurse 46 = .ok (.iaload, 1) := by decide +kernel
theorem dX9_nurse_47 : decode cX9_nurse 47 = .ok (.iload_n 1, 1) := by decide +kernel
theorem dX9_nurse_48 : decode cX9_nurse 48 = .ok (.if_icmp .eq 20, 3) := by decide +kernel
theorem dX9_nurse_51 : decode cX9_nurse 51 = .ok (.aload_n 0, 1) := by decide +kernel
theorem dX9_nurse_52 : decode cX9_nurse 52 = .ok (.iload 4, 2) := by decide +kernel
theorem dX9_nurse_54 : decode cX9_nurse 54 = .ok (.iload_n 1, 1) := by decide +kernel
theorem dX9_nurse_55 : decode cX9_nurse 55 = .ok (.invokevirtual 162, 3) := by decide +kernel
theorem dX9_nurse_58 : decode cX9_nurse 58 = .ok (.ifCond .eq 10, 3) := by decide +kernel
theorem dX9_nurse_61 : decode cX9_nurse 61 = .ok (.iconst 1, 1) := by decide +kernel
theorem dX9_nurse_62 : decode cX9_nurse 62 = .ok (.iload 4, 2) := by decide +kernel
theorem dX9_nurse_64 : decode cX9_nurse 64 = .ok (.ishl, 1) := by decide +kernel
theorem dX9_nurse_65 : decode cX9_nurse 65 = .ok (.goto 4, 3) := by decide +kernel
theorem dX9_nurse_68 : decode cX9_nurse 68 = .ok (.iconst 0, 1) := by decide +kernel
theorem dX9_nurse_69 : decode cX9_nurse 69 = .ok (.ior, 1) := by decide +kernel
theorem dX9_nurse_70 : decode cX9_nurse 70 = .ok (.istore_n 3, 1) := by decide +kernel
theorem dX9_nurse_71 : decode cX9_nurse 71 = .ok (.iinc 4 1, 3) := by decide +kernel
theorem dX9_nurse_74 : decode cX9_nurse 74 = .ok (.goto (-47), 3) := by decide +kernel
theorem dX9_nurse_77 : decode cX9_nurse 77 = .ok (.iload_n 2, 1) := by decide +kernel
theorem dX9_nurse_78 : decode cX9_nurse 78 = .ok (.tableswitch 57 0 3 #[30, 37, 44, 51], 30) := by decide +kernel
theorem dX9_nurse_108 : decode cX9_nurse 108 = .ok (.aload_n 0, 1) := by decide +kernel
theorem dX9_nurse_109 : decode cX9_nurse 109 = .ok (.getfield 19, 3) := by decide +kernel
theorem dX9_nurse_112 : decode cX9_nurse 112 = .ok (.iload_n 1, 1) := by decide +kernel
theorem dX9_nurse_113 : decode cX9_nurse 113 = .ok (.iaload, 1) := by decide +kernel
theorem dX9_nurse_114 : decode cX9_nurse 114 = .ok (.ireturn, 1) := by decide +kernel
theorem dX9_nurse_115 : decode cX9_nurse 115 = .ok (.aload_n 0, 1) := by decide +kernel
theorem dX9_nurse_116 : decode cX9_nurse 116 = .ok (.getfield 22, 3) := by decide +kernel
theorem dX9_nurse_119 : decode cX9_nurse 119 = .ok (.iload_n 1, 1) := by decide +kernel
theorem dX9_nurse_120 : decode cX9_nurse 120 = .ok (.iaload, 1) := by decide +kernel
theorem dX9_nurse_121 : decode cX9_nurse 121 = .ok (.ireturn, 1) := by decide +kernel
theorem dX9_nurse_122 : decode cX9_nurse 122 = .ok (.aload_n 0, 1) := by decide +kernel
theorem dX9_nurse_123 : decode cX9_nurse 123 = .ok (.getfield 25, 3) := by decide +kernel
theorem dX9_nurse_126 : decode cX9_nurse 126 = .ok (.iload_n 1, 1) := by decide +kernel
theorem dX9_nurse_127 : decode cX9_nurse 127 = .ok (.iaload, 1) := by decide +kernel
theorem dX9_nurse_128 : decode cX9_nurse 128 = .ok (.ireturn, 1) := by decide +kernel
theorem dX9_nurse_129 : decode cX9_nurse 129 = .ok (.aload_n 0, 1) := by decide +kernel
theorem dX9_nurse_130 : decode cX9_nurse 130 = .ok (.iload_n 1, 1) := by decide +kernel
theorem dX9_nurse_131 : decode cX9_nurse 131 = .ok (.invokevirtual 139, 3) := by decide +kernel
theorem dX9_nurse_134 : decode cX9_nurse 134 = .ok (.ireturn, 1) := by decide +kernel
theorem dX9_nurse_135 : decode cX9_nurse 135 = .ok (.iload_n 3, 1) := by decide +kernel
theorem dX9_nurse_136 : decode cX9_nurse 136 = .ok (.ireturn, 1) := by decide +kernel
theorem dX9_save_0 : decode cX9_save 0 = .ok (.aload_n 0, 1) := by decide +kernel
theorem dX9_save_1 : decode cX9_save 1 = .ok (.getfield 28, 3) := by decide +kernel
theorem dX9_save_4 : decode cX9_save 4 = .ok (.bipush 19, 2) := by decide +kernel
theorem dX9_save_6 : decode cX9_save 6 = .ok (.iaload, 1) := by decide +kernel
theorem dX9_save_7 : decode cX9_save 7 = .ok (.bipush 10, 2) := by decide +kernel
theorem dX9_save_9 : decode cX9_save 9 = .ok (.if_icmp .ne 45, 3) := by decide +kernel
theorem dX9_save_12 : decode cX9_save 12 = .ok (.iconst 0, 1) := by decide +kernel
theorem dX9_save_13 : decode cX9_save 13 = .ok (.istore_n 1, 1) := by decide +kernel
theorem dX9_save_14 : decode cX9_save 14 = .ok (.iload_n 1, 1) := by decide +kernel
theorem dX9_save_15 : decode cX9_save 15 = .ok (.sipush 171, 3) := by decide +kernel
theorem dX9_save_18 : decode cX9_save 18 = .ok (.if_icmp .ge 27, 3) := by decide +kernel
theorem dX9_save_21 : decode cX9_save 21 = .ok (.aload_n 0, 1) := by decide +kernel
theorem dX9_save_22 : decode cX9_save 22 = .ok (.getfield 28, 3) := by decide +kernel
theorem dX9_save_25 : decode cX9_save 25 = .ok (.bipush 20, 2) := by decide +kernel
theorem dX9_save_27 : decode cX9_save 27 = .ok (.iload_n 1, 1) := by decide +kernel
theorem dX9_save_28 : decode cX9_save 28 = .ok (.iadd, 1) := by decide +kernel
theorem dX9_save_29 : decode cX9_save 29 = .ok (.aload_n 0, 1) := by decide +kernel
theorem dX9_save_30 : decode cX9_save 30 = .ok (.getfield 28, 3) := by decide +kernel
theorem dX9_save_33 : decode cX9_save 33 = .ok (.bipush 39, 2) := by decide +kernel
theorem dX9_save_35 : decode cX9_save 35 = .ok (.iload_n 1, 1) := by decide +kernel
theorem dX9_save_36 : decode cX9_save 36 = .ok (.iadd, 1) := by decide +kernel
theorem dX9_save_37 : decode cX9_save 37 = .ok (.iaload, 1) := by decide +kernel
theorem dX9_save_38 : decode cX9_save 38 = .ok (.iastore, 1) := by decide +kernel
theorem dX9_save_39 : decode cX9_save 39 = .ok (.iinc 1 1, 3) := by decide +kernel
theorem dX9_save_42 : decode cX9_save 42 = .ok (.goto (-28), 3) := by decide +kernel
theorem dX9_save_45 : decode cX9_save 45 = .ok (.aload_n 0, 1) := by decide +kernel
theorem dX9_save_46 : decode cX9_save 46 = .ok (.getfield 28, 3) := by decide +kernel
theorem dX9_save_49 : decode cX9_save 49 = .ok (.bipush 19, 2) := by decide +kernel
theorem dX9_save_51 : decode cX9_save 51 = .ok (.bipush 9, 2) := by decide +kernel
theorem dX9_save_53 : decode cX9_save 53 = .ok (.iastore, 1) := by decide +kernel
theorem dX9_save_54 : decode cX9_save 54 = .ok (.iconst 0, 1) := by decide +kernel
theorem dX9_save_55 : decode cX9_save 55 = .ok (.istore_n 1, 1) := by decide +kernel
theorem dX9_save_56 : decode cX9_save 56 = .ok (.iload_n 1, 1) := by decide +kernel
theorem dX9_save_57 : decode cX9_save 57 = .ok (.bipush 19, 2) := by decide +kernel
theorem dX9_save_59 : decode cX9_save 59 = .ok (.if_icmp .ge 35, 3) := by decide +kernel
theorem dX9_save_62 : decode cX9_save 62 = .ok (.aload_n 0, 1) := by decide +kernel
theorem dX9_save_63 : decode cX9_save 63 = .ok (.getfield 28, 3) := by decide +kernel
theorem dX9_save_66 : decode cX9_save 66 = .ok (.bipush 20, 2) := by decide +kernel
theorem dX9_save_68 : decode cX9_save 68 = .ok (.bipush 19, 2) := by decide +kernel
theorem dX9_save_70 : decode cX9_save 70 = .ok (.aload_n 0, 1) := by decide +kernel
theorem dX9_save_71 : decode cX9_save 71 = .ok (.getfield 28, 3) := by decide +kernel
theorem dX9_save_74 : decode cX9_save 74 = .ok (.bipush 19, 2) := by decide +kernel
theorem dX9_save_76 : decode cX9_save 76 = .ok (.iaload, 1) := by decide +kernel
theorem dX9_save_77 : decode cX9_save 77 = .ok (.imul, 1) := by decide +kernel
theorem dX9_save_78 : decode cX9_save 78 = .ok (.iadd, 1) := by decide +kernel
theorem dX9_save_79 : decode cX9_save 79 = .ok (.iload_n 1, 1) := by decide +kernel
theorem dX9_save_80 : decode cX9_save 80 = .ok (.iadd, 1) := by decide +kernel
theorem dX9_save_81 : decode cX9_save 81 = .ok (.aload_n 0, 1) := by decide +kernel
theorem dX9_save_82 : decode cX9_save 82 = .ok (.getfield 28, 3) := by decide +kernel
theorem dX9_save_85 : decode cX9_save 85 = .ok (.iload_n 1, 1) := by decide +kernel
theorem dX9_save_86 : decode cX9_save 86 = .ok (.iaload, 1) := by decide +kernel
theorem dX9_save_87 : decode cX9_save 87 = .ok (.iastore, 1) := by decide +kernel
theorem dX9_save_88 : decode cX9_save 88 = .ok (.iinc 1 1, 3) := by decide +kernel
theorem dX9_save_91 : decode cX9_save 91 = .ok (.goto (-35), 3) := by decide +kernel
theorem dX9_save_94 : decode cX9_save 94 = .ok (.aload_n 0, 1) := by decide +kernel
theorem dX9_save_95 : decode cX9_save 95 = .ok (.getfield 28, 3) := by decide +kernel
theorem dX9_save_98 : decode cX9_save 98 = .ok (.bipush 19, 2) := by decide +kernel
theorem dX9_save_100 : decode cX9_save 100 = .ok (.dup2, 1) := by decide +kernel
theorem dX9_save_101 : decode cX9_save 101 = .ok (.iaload, 1) := by decide +kernel
theorem dX9_save_102 : decode cX9_save 102 = .ok (.iconst 1, 1) := by decide +kernel
theorem dX9_save_103 : decode cX9_save 103 = .ok (.iadd, 1) := by decide +kernel
theorem dX9_save_104 : decode cX9_save 104 = .ok (.iastore, 1) := by decide +kernel
theorem dX9_save_105 : decode cX9_save 105 = .ok (.return_, 1) := by decide +kernel
theorem dX9_sends_0 : decode cX9_sends 0 = .ok (.aload_n 0, 1) := by decide +kernel
theorem dX9_sends_1 : decode cX9_sends 1 = .ok (.iload_n 1, 1) := by decide +kernel
theorem dX9_sends_2 : decode cX9_sends 2 = .ok (.invokevirtual 149, 3) := by decide +kernel
theorem dX9_sends_5 : decode cX9_sends 5 = .ok (.ifCond .eq 11, 3) := by decide +kernel
theorem dX9_sends_8 : decode cX9_sends 8 = .ok (.aload_n 0, 1) := by decide +kernel
theorem dX9_sends_9 : decode cX9_sends 9 = .ok (.iload_n 2, 1) := by decide +kernel
theorem dX9_sends_10 : decode cX9_sends 10 = .ok (.invokevirtual 157, 3) := by decide +kernel
theorem dX9_sends_13 : decode cX9_sends 13 = .ok (.ifCond .ne 5, 3) := by decide +kernel
theorem dX9_sends_16 : decode cX9_sends 16 = .ok (.iconst (-1), 1) := by decide +kernel
theorem dX9_sends_17 : decode cX9_sends 17 = .ok (.ireturn, 1) := by decide +kernel
theorem dX9_sends_18 : decode cX9_sends 18 = .ok (.aload_n 0, 1) := by decide +kernel
theorem dX9_sends_19 : decode cX9_sends 19 = .ok (.getfield 28, 3) := by decide +kernel
theorem dX9_sends_22 : decode cX9_sends 22 = .ok (.bipush 7, 2) := by decide +kernel
theorem dX9_sends_24 : decode cX9_sends 24 = .ok (.iload_n 1, 1) := by decide +kernel
theorem dX9_sends_25 : decode cX9_sends 25 = .ok (.iadd, 1) := by decide +kernel
theorem dX9_sends_26 : decode cX9_sends 26 = .ok (.iaload, 1) := by decide +kernel
theorem dX9_sends_27 : decode cX9_sends 27 = .ok (.iload_n 2, 1) := by decide +kernel
theorem dX9_sends_28 : decode cX9_sends 28 = .ok (.if_icmp .eq 12, 3) := by decide +kernel
theorem dX9_sends_31 : decode cX9_sends 31 = .ok (.aload_n 0, 1) := by decide +kernel
theorem dX9_sends_32 : decode cX9_sends 32 = .ok (.iload_n 1, 1) := by decide +kernel
theorem dX9_sends_33 : decode cX9_sends 33 = .ok (.iload_n 2, 1) := by decide +kernel
theorem dX9_sends_34 : decode cX9_sends 34 = .ok (.invokevirtual 162, 3) := by decide +kernel
theorem dX9_sends_37 : decode cX9_sends 37 = .ok (.ifCond .ne 6, 3) := by decide +kernel
theorem dX9_sends_40 : decode cX9_sends 40 = .ok (.bipush (-2), 2) := by decide +kernel
theorem dX9_sends_42 : decode cX9_sends 42 = .ok (.ireturn, 1) := by decide +kernel
theorem dX9_sends_43 : decode cX9_sends 43 = .ok (.aload_n 0, 1) := by decide +kernel
theorem dX9_sends_44 : decode cX9_sends 44 = .ok (.invokevirtual 166, 3) := by decide +kernel
theorem dX9_sends_47 : decode cX9_sends 47 = .ok (.aload_n 0, 1) := by decide +kernel
theorem dX9_sends_48 : decode cX9_sends 48 = .ok (.getfield 28, 3) := by decide +kernel
theorem dX9_sends_51 : decode cX9_sends 51 = .ok (.bipush 7, 2) := by decide +kernel
theorem dX9_sends_53 : decode cX9_sends 53 = .ok (.iload_n 1, 1) := by decide +kernel
theorem dX9_sends_54 : decode cX9_sends 54 = .ok (.iadd, 1) := by decide +kernel
theorem dX9_sends_55 : decode cX9_sends 55 = .ok (.iload_n 2, 1) := by decide +kernel
theorem dX9_sends_56 : decode cX9_sends 56 = .ok (.iastore, 1) := by decide +kernel
theorem dX9_sends_57 : decode cX9_sends 57 = .ok (.aload_n 0, 1) := by decide +kernel
theorem dX9_sends_58 : decode cX9_sends 58 = .ok (.iload_n 2, 1) := by decide +kernel
theorem dX9_sends_59 : decode cX9_sends 59 = .ok (.invokevirtual 139, 3) := by decide +kernel
theorem dX9_sends_62 : decode cX9_sends 62 = .ok (.invokestatic 146, 3) := by decide +kernel
theorem dX9_sends_65 : decode cX9_sends 65 = .ok (.ireturn, 1) := by decide +kernel
theorem dX9_fetches_0 : decode cX9_fetches 0 = .ok (.aload_n 0, 1) := by decide +kernel
theorem dX9_fetches_1 : decode cX9_fetches 1 = .ok (.iload_n 1, 1) := by decide +kernel
theorem dX9_fetches_2 : decode cX9_fetches 2 = .ok (.invokevirtual 149, 3) := by decide +kernel
theorem dX9_fetches_5 : decode cX9_fetches 5 = .ok (.ifCond .ne 5, 3) := by decide +kernel
theorem dX9_fetches_8 : decode cX9_fetches 8 = .ok (.iconst (-1), 1) := by decide +kernel
theorem dX9_fetches_9 : decode cX9_fetches 9 = .ok (.ireturn, 1) := by decide +kernel
theorem dX9_fetches_10 : decode cX9_fetches 10 = .ok (.aload_n 0, 1) := by decide +kernel
theorem dX9_fetches_11 : decode cX9_fetches 11 = .ok (.getfield 28, 3) := by decide +kernel
theorem dX9_fetches_14 : decode cX9_fetches 14 = .ok (.bipush 7, 2) := by decide +kernel
theorem dX9_fetches_16 : decode cX9_fetches 16 = .ok (.iload_n 1, 1) := by decide +kernel
theorem dX9_fetches_17 : decode cX9_fetches 17 = .ok (.iadd, 1) := by decide +kernel
theorem dX9_fetches_18 : decode cX9_fetches 18 = .ok (.iaload, 1) := by decide +kernel
theorem dX9_fetches_19 : decode cX9_fetches 19 = .ok (.istore_n 2, 1) := by decide +kernel
theorem dX9_fetches_20 : decode cX9_fetches 20 = .ok (.iload_n 2, 1) := by decide +kernel
theorem dX9_fetches_21 : decode cX9_fetches 21 = .ok (.bipush (-9), 2) := by decide +kernel
theorem dX9_fetches_23 : decode cX9_fetches 23 = .ok (.if_icmp .ne 6, 3) := by decide +kernel
theorem dX9_fetches_26 : decode cX9_fetches 26 = .ok (.bipush (-2), 2) := by decide +kernel
theorem dX9_fetches_28 : decode cX9_fetches 28 = .ok (.ireturn, 1) := by decide +kernel
theorem dX9_fetches_29 : decode cX9_fetches 29 = .ok (.aload_n 0, 1) := by decide +kernel
theorem dX9_fetches_30 : decode cX9_fetches 30 = .ok (.invokevirtual 166, 3) := by decide +kernel
theorem dX9_fetches_33 : decode cX9_fetches 33 = .ok (.aload_n 0, 1) := by decide +kernel
theorem dX9_fetches_34 : decode cX9_fetches 34 = .ok (.getfield 28, 3) := by decide +kernel
theorem dX9_fetches_37 : decode cX9_fetches 37 = .ok (.bipush 7, 2) := by decide +kernel
theorem dX9_fetches_39 : decode cX9_fetches 39 = .ok (.iload_n 1, 1) := by decide +kernel
theorem dX9_fetches_40 : decode cX9_fetches 40 = .ok (.iadd, 1) := by decide +kernel
theorem dX9_fetches_41 : decode cX9_fetches 41 = .ok (.bipush (-9), 2) := by decide +kernel
theorem dX9_fetches_43 : decode cX9_fetches 43 = .ok (.iastore, 1) := by decide +kernel
theorem dX9_fetches_44 : decode cX9_fetches 44 = .ok (.iload_n 2, 1) := by decide +kernel
theorem dX9_fetches_45 : decode cX9_fetches 45 = .ok (.ireturn, 1) := by decide +kernel
theorem dX9_visits_0 : decode cX9_visits 0 = .ok (.aload_n 0, 1) := by decide +kernel
theorem dX9_visits_1 : decode cX9_visits 1 = .ok (.iload_n 1, 1) := by decide +kernel
theorem dX9_visits_2 : decode cX9_visits 2 = .ok (.invokevirtual 149, 3) := by decide +kernel
theorem dX9_visits_5 : decode cX9_visits 5 = .ok (.ifCond .ne 5, 3) := by decide +kernel
theorem dX9_visits_8 : decode cX9_visits 8 = .ok (.iconst (-1), 1) := by decide +kernel
theorem dX9_visits_9 : decode cX9_visits 9 = .ok (.ireturn, 1) := by decide +kernel
theorem dX9_visits_10 : decode cX9_visits 10 = .ok (.aload_n 0, 1) := by decide +kernel
theorem dX9_visits_11 : decode cX9_visits 11 = .ok (.getfield 28, 3) := by decide +kernel
theorem dX9_visits_14 : decode cX9_visits 14 = .ok (.bipush 7, 2) := by decide +kernel
theorem dX9_visits_16 : decode cX9_visits 16 = .ok (.iload_n 1, 1) := by decide +kernel
theorem dX9_visits_17 : decode cX9_visits 17 = .ok (.iadd, 1) := by decide +kernel
theorem dX9_visits_18 : decode cX9_visits 18 = .ok (.iaload, 1) := by decide +kernel
theorem dX9_visits_19 : decode cX9_visits 19 = .ok (.bipush (-9), 2) := by decide +kernel
theorem dX9_visits_21 : decode cX9_visits 21 = .ok (.if_icmp .eq 11, 3) := by decide +kernel
theorem dX9_visits_24 : decode cX9_visits 24 = .ok (.aload_n 0, 1) := by decide +kernel
theorem dX9_visits_25 : decode cX9_visits 25 = .ok (.iload_n 1, 1) := by decide +kernel
theorem dX9_visits_26 : decode cX9_visits 26 = .ok (.invokevirtual 143, 3) := by decide +kernel
theorem dX9_visits_29 : decode cX9_visits 29 = .ok (.ifCond .ne 6, 3) := by decide +kernel
theorem dX9_visits_32 : decode cX9_visits 32 = .ok (.bipush (-2), 2) := by decide +kernel
theorem dX9_visits_34 : decode cX9_visits 34 = .ok (.ireturn, 1) := by decide +kernel
theorem dX9_visits_35 : decode cX9_visits 35 = .ok (.aload_n 0, 1) := by decide +kernel
theorem dX9_visits_36 : decode cX9_visits 36 = .ok (.invokevirtual 166, 3) := by decide +kernel
theorem dX9_visits_39 : decode cX9_visits 39 = .ok (.aload_n 0, 1) := by decide +kernel
theorem dX9_visits_40 : decode cX9_visits 40 = .ok (.getfield 28, 3) := by decide +kernel
theorem dX9_visits_43 : decode cX9_visits 43 = .ok (.iconst 1, 1) := by decide +kernel
theorem dX9_visits_44 : decode cX9_visits 44 = .ok (.iload_n 1, 1) := by decide +kernel
theorem dX9_visits_45 : decode cX9_visits 45 = .ok (.iadd, 1) := by decide +kernel
theorem dX9_visits_46 : decode cX9_visits 46 = .ok (.dup2, 1) := by decide +kernel
theorem dX9_visits_47 : decode cX9_visits 47 = .ok (.iaload, 1) := by decide +kernel
theorem dX9_visits_48 : decode cX9_visits 48 = .ok (.iconst 1, 1) := by decide +kernel
theorem dX9_visits_49 : decode cX9_visits 49 = .ok (.isub, 1) := by decide +kernel
theorem dX9_visits_50 : decode cX9_visits 50 = .ok (.iastore, 1) := by decide +kernel
theorem dX9_visits_51 : decode cX9_visits 51 = .ok (.aload_n 0, 1) := by decide +kernel
theorem dX9_visits_52 : decode cX9_visits 52 = .ok (.iload_n 1, 1) := by decide +kernel
theorem dX9_visits_53 : decode cX9_visits 53 = .ok (.invokevirtual 143, 3) := by decide +kernel
theorem dX9_visits_56 : decode cX9_visits 56 = .ok (.ireturn, 1) := by decide +kernel
theorem dX9_right_0 : decode cX9_right 0 = .ok (.iconst 0, 1) := by decide +kernel
theorem dX9_right_1 : decode cX9_right 1 = .ok (.istore_n 1, 1) := by decide +kernel
theorem dX9_right_2 : decode cX9_right 2 = .ok (.iconst 0, 1) := by decide +kernel
theorem dX9_right_3 : decode cX9_right 3 = .ok (.istore_n 2, 1) := by decide +kernel
theorem dX9_right_4 : decode cX9_right 4 = .ok (.iload_n 2, 1) := by decide +kernel
theorem dX9_right_5 : decode cX9_right 5 = .ok (.aload_n 0, 1) := by decide +kernel
theorem dX9_right_6 : decode cX9_right 6 = .ok (.getfield 71, 3) := by decide +kernel
theorem dX9_right_9 : decode cX9_right 9 = .ok (.if_icmp .ge 50, 3) := by decide +kernel
theorem dX9_right_12 : decode cX9_right 12 = .ok (.aload_n 0, 1) := by decide +kernel
theorem dX9_right_13 : decode cX9_right 13 = .ok (.getfield 28, 3) := by decide +kernel
theorem dX9_right_16 : decode cX9_right 16 = .ok (.bipush 13, 2) := by decide +kernel
theorem dX9_right_18 : decode cX9_right 18 = .ok (.iload_n 2, 1) := by decide +kernel
theorem dX9_right_19 : decode cX9_right 19 = .ok (.iadd, 1) := by decide +kernel
theorem dX9_right_20 : decode cX9_right 20 = .ok (.iaload, 1) := by decide +kernel
theorem dX9_right_21 : decode cX9_right 21 = .ok (.istore_n 3, 1) := by decide +kernel
theorem dX9_right_22 : decode cX9_right 22 = .ok (.iload_n 3, 1) := by decide +kernel
theorem dX9_right_23 : decode cX9_right 23 = .ok (.iload_n 2, 1) := by decide +kernel
theorem dX9_right_24 : decode cX9_right 24 = .ok (.if_icmp .le 16, 3) := by decide +kernel
theorem dX9_right_27 : decode cX9_right 27 = .ok (.aload_n 0, 1) := by decide +kernel
theorem dX9_right_28 : decode cX9_right 28 = .ok (.getfield 28, 3) := by decide +kernel
theorem dX9_right_31 : decode cX9_right 31 = .ok (.bipush 13, 2) := by decide +kernel
theorem dX9_right_33 : decode cX9_right 33 = .ok (.iload_n 3, 1) := by decide +kernel
theorem dX9_right_34 : decode cX9_right 34 = .ok (.iadd, 1) := by decide +kernel
theorem dX9_right_35 : decode cX9_right 35 = .ok (.iaload, 1) := by decide +kernel
theorem dX9_right_36 : decode cX9_right 36 = .ok (.istore_n 3, 1) := by decide +kernel
theorem dX9_right_37 : decode cX9_right 37 = .ok (.goto (-15), 3) := by decide +kernel
theorem dX9_right_40 : decode cX9_right 40 = .ok (.iload_n 1, 1) := by decide +kernel
theorem dX9_right_41 : decode cX9_right 41 = .ok (.iload_n 3, 1) := by decide +kernel
theorem dX9_right_42 : decode cX9_right 42 = .ok (.iload_n 2, 1) := by decide +kernel
theorem dX9_right_43 : decode cX9_right 43 = .ok (.if_icmp .ne 7, 3) := by decide +kernel
theorem dX9_right_46 : decode cX9_right 46 = .ok (.iconst 1, 1) := by decide +kernel
theorem dX9_right_47 : decode cX9_right 47 = .ok (.goto 4, 3) := by decide +kernel
theorem dX9_right_50 : decode cX9_right 50 = .ok (.iconst 0, 1) := by decide +kernel
theorem dX9_right_51 : decode cX9_right 51 = .ok (.iadd, 1) := by decide +kernel
theorem dX9_right_52 : decode cX9_right 52 = .ok (.istore_n 1, 1) := by decide +kernel
theorem dX9_right_53 : decode cX9_right 53 = .ok (.iinc 2 1, 3) := by decide +kernel
theorem dX9_right_56 : decode cX9_right 56 = .ok (.goto (-52), 3) := by decide +kernel
theorem dX9_right_59 : decode cX9_right 59 = .ok (.aload_n 0, 1) := by decide +kernel
theorem dX9_right_60 : decode cX9_right 60 = .ok (.getfield 71, 3) := by decide +kernel
theorem dX9_right_63 : decode cX9_right 63 = .ok (.iload_n 1, 1) := by decide +kernel
theorem dX9_right_64 : decode cX9_right 64 = .ok (.isub, 1) := by decide +kernel
theorem dX9_right_65 : decode cX9_right 65 = .ok (.ireturn, 1) := by decide +kernel
theorem dX9_mixes_0 : decode cX9_mixes 0 = .ok (.aload_n 0, 1) := by decide +kernel
theorem dX9_mixes_1 : decode cX9_mixes 1 = .ok (.iload_n 1, 1) := by decide +kernel
theorem dX9_mixes_2 : decode cX9_mixes 2 = .ok (.invokevirtual 149, 3) := by decide +kernel
theorem dX9_mixes_5 : decode cX9_mixes 5 = .ok (.ifCond .eq 16, 3) := by decide +kernel
theorem dX9_mixes_8 : decode cX9_mixes 8 = .ok (.aload_n 0, 1) := by decide +kernel
theorem dX9_mixes_9 : decode cX9_mixes 9 = .ok (.iload_n 2, 1) := by decide +kernel
theorem dX9_mixes_10 : decode cX9_mixes 10 = .ok (.invokevirtual 149, 3) := by decide +kernel
theorem dX9_mixes_13 : decode cX9_mixes 13 = .ok (.ifCond .eq 8, 3) := by decide +kernel
theorem dX9_mixes_16 : decode cX9_mixes 16 = .ok (.iload_n 1, 1) := by decide +kernel
theorem dX9_mixes_17 : decode cX9_mixes 17 = .ok (.iload_n 2, 1) := by decide +kernel
theorem dX9_mixes_18 : decode cX9_mixes 18 = .ok (.if_icmp .ne 5, 3) := by decide +kernel
theorem dX9_mixes_21 : decode cX9_mixes 21 = .ok (.iconst (-1), 1) := by decide +kernel
theorem dX9_mixes_22 : decode cX9_mixes 22 = .ok (.ireturn, 1) := by decide +kernel
theorem dX9_mixes_23 : decode cX9_mixes 23 = .ok (.aload_n 0, 1) := by decide +kernel
theorem dX9_mixes_24 : decode cX9_mixes 24 = .ok (.invokevirtual 166, 3) := by decide +kernel
theorem dX9_mixes_27 : decode cX9_mixes 27 = .ok (.aload_n 0, 1) := by decide +kernel
theorem dX9_mixes_28 : decode cX9_mixes 28 = .ok (.getfield 28, 3) := by decide +kernel
theorem dX9_mixes_31 : decode cX9_mixes 31 = .ok (.bipush 13, 2) := by decide +kernel
theorem dX9_mixes_33 : decode cX9_mixes 33 = .ok (.iload_n 1, 1) := by decide +kernel
theorem dX9_mixes_34 : decode cX9_mixes 34 = .ok (.iadd, 1) := by decide +kernel
theorem dX9_mixes_35 : decode cX9_mixes 35 = .ok (.iaload, 1) := by decide +kernel
theorem dX9_mixes_36 : decode cX9_mixes 36 = .ok (.istore_n 3, 1) := by decide +kernel
theorem dX9_mixes_37 : decode cX9_mixes 37 = .ok (.aload_n 0, 1) := by decide +kernel
theorem dX9_mixes_38 : decode cX9_mixes 38 = .ok (.getfield 28, 3) := by decide +kernel
theorem dX9_mixes_41 : decode cX9_mixes 41 = .ok (.bipush 13, 2) := by decide +kernel
theorem dX9_mixes_43 : decode cX9_mixes 43 = .ok (.iload_n 1, 1) := by decide +kernel
theorem dX9_mixes_44 : decode cX9_mixes 44 = .ok (.iadd, 1) := by decide +kernel
theorem dX9_mixes_45 : decode cX9_mixes 45 = .ok (.aload_n 0, 1) := by decide +kernel
theorem dX9_mixes_46 : decode cX9_mixes 46 = .ok (.getfield 28, 3) := by decide +kernel
theorem dX9_mixes_49 : decode cX9_mixes 49 = .ok (.bipush 13, 2) := by decide +kernel
theorem dX9_mixes_51 : decode cX9_mixes 51 = .ok (.iload_n 2, 1) := by decide +kernel
theorem dX9_mixes_52 : decode cX9_mixes 52 = .ok (.iadd, 1) := by decide +kernel
theorem dX9_mixes_53 : decode cX9_mixes 53 = .ok (.iaload, 1) := by decide +kernel
theorem dX9_mixes_54 : decode cX9_mixes 54 = .ok (.iastore, 1) := by decide +kernel
theorem dX9_mixes_55 : decode cX9_mixes 55 = .ok (.aload_n 0, 1) := by decide +kernel
theorem dX9_mixes_56 : decode cX9_mixes 56 = .ok (.getfield 28, 3) := by decide +kernel
theorem dX9_mixes_59 : decode cX9_mixes 59 = .ok (.bipush 13, 2) := by decide +kernel
theorem dX9_mixes_61 : decode cX9_mixes 61 = .ok (.iload_n 2, 1) := by decide +kernel
theorem dX9_mixes_62 : decode cX9_mixes 62 = .ok (.iadd, 1) := by decide +kernel
theorem dX9_mixes_63 : decode cX9_mixes 63 = .ok (.iload_n 3, 1) := by decide +kernel
theorem dX9_mixes_64 : decode cX9_mixes 64 = .ok (.iastore, 1) := by decide +kernel
theorem dX9_mixes_65 : decode cX9_mixes 65 = .ok (.aload_n 0, 1) := by decide +kernel
theorem dX9_mixes_66 : decode cX9_mixes 66 = .ok (.invokevirtual 169, 3) := by decide +kernel
theorem dX9_mixes_69 : decode cX9_mixes 69 = .ok (.ireturn, 1) := by decide +kernel
theorem dX9_aged_0 : decode cX9_aged 0 = .ok (.iload_n 2, 1) := by decide +kernel
theorem dX9_aged_1 : decode cX9_aged 1 = .ok (.ifCond .ne 5, 3) := by decide +kernel
theorem dX9_aged_4 : decode cX9_aged 4 = .ok (.iconst 0, 1) := by decide +kernel
theorem dX9_aged_5 : decode cX9_aged 5 = .ok (.ireturn, 1) := by decide +kernel
theorem dX9_aged_6 : decode cX9_aged 6 = .ok (.iload_n 2, 1) := by decide +kernel
theorem dX9_aged_7 : decode cX9_aged 7 = .ok (.aload_n 0, 1) := by decide +kernel
theorem dX9_aged_8 : decode cX9_aged 8 = .ok (.getfield 7, 3) := by decide +kernel
theorem dX9_aged_11 : decode cX9_aged 11 = .ok (.iload_n 1, 1) := by decide +kernel
theorem dX9_aged_12 : decode cX9_aged 12 = .ok (.iaload, 1) := by decide +kernel
theorem dX9_aged_13 : decode cX9_aged 13 = .ok (.iadd, 1) := by decide +kernel
theorem dX9_aged_14 : decode cX9_aged 14 = .ok (.bipush 99, 2) := by decide +kernel
theorem dX9_aged_16 : decode cX9_aged 16 = .ok (.if_icmp .le 8, 3) := by decide +kernel
theorem dX9_aged_19 : decode cX9_aged 19 = .ok (.bipush 99, 2) := by decide +kernel
theorem dX9_aged_21 : decode cX9_aged 21 = .ok (.goto 11, 3) := by decide +kernel
theorem dX9_aged_24 : decode cX9_aged 24 = .ok (.iload_n 2, 1) := by decide +kernel
theorem dX9_aged_25 : decode cX9_aged 25 = .ok (.aload_n 0, 1) := by decide +kernel
theorem dX9_aged_26 : decode cX9_aged 26 = .ok (.getfield 7, 3) := by decide +kernel
theorem dX9_aged_29 : decode cX9_aged 29 = .ok (.iload_n 1, 1) := by decide +kernel
theorem dX9_aged_30 : decode cX9_aged 30 = .ok (.iaload, 1) := by decide +kernel
theorem dX9_aged_31 : decode cX9_aged 31 = .ok (.iadd, 1) := by decide +kernel
theorem dX9_aged_32 : decode cX9_aged 32 = .ok (.istore 4, 2) := by decide +kernel
theorem dX9_aged_34 : decode cX9_aged 34 = .ok (.iload_n 3, 1) := by decide +kernel
theorem dX9_aged_35 : decode cX9_aged 35 = .ok (.bipush (-9), 2) := by decide +kernel
theorem dX9_aged_37 : decode cX9_aged 37 = .ok (.if_icmp .ne 7, 3) := by decide +kernel
theorem dX9_aged_40 : decode cX9_aged 40 = .ok (.iconst 0, 1) := by decide +kernel
theorem dX9_aged_41 : decode cX9_aged 41 = .ok (.goto 9, 3) := by decide +kernel
theorem dX9_aged_44 : decode cX9_aged 44 = .ok (.aload_n 0, 1) := by decide +kernel
theorem dX9_aged_45 : decode cX9_aged 45 = .ok (.getfield 19, 3) := by decide +kernel
theorem dX9_aged_48 : decode cX9_aged 48 = .ok (.iload_n 3, 1) := by decide +kernel
theorem dX9_aged_49 : decode cX9_aged 49 = .ok (.iaload, 1) := by decide +kernel
theorem dX9_aged_50 : decode cX9_aged 50 = .ok (.istore 5, 2) := by decide +kernel
theorem dX9_aged_52 : decode cX9_aged 52 = .ok (.iload 4, 2) := by decide +kernel
theorem dX9_aged_54 : decode cX9_aged 54 = .ok (.iload 5, 2) := by decide +kernel
theorem dX9_aged_56 : decode cX9_aged 56 = .ok (.if_icmp .le 11, 3) := by decide +kernel
theorem dX9_aged_59 : decode cX9_aged 59 = .ok (.iload 4, 2) := by decide +kernel
theorem dX9_aged_61 : decode cX9_aged 61 = .ok (.iload 5, 2) := by decide +kernel
theorem dX9_aged_63 : decode cX9_aged 63 = .ok (.isub, 1) := by decide +kernel
theorem dX9_aged_64 : decode cX9_aged 64 = .ok (.goto 4, 3) := by decide +kernel
theorem dX9_aged_67 : decode cX9_aged 67 = .ok (.iconst 0, 1) := by decide +kernel
theorem dX9_aged_68 : decode cX9_aged 68 = .ok (.ireturn, 1) := by decide +kernel
theorem dX9_broken_0 : decode cX9_broken 0 = .ok (.iconst 0, 1) := by decide +kernel
theorem dX9_broken_1 : decode cX9_broken 1 = .ok (.istore_n 1, 1) := by decide +kernel
theorem dX9_broken_2 : decode cX9_broken 2 = .ok (.iconst 0, 1) := by decide +kernel
theorem dX9_broken_3 : decode cX9_broken 3 = .ok (.istore_n 2, 1) := by decide +kernel
theorem dX9_broken_4 : decode cX9_broken 4 = .ok (.iload_n 2, 1) := by decide +kernel
theorem dX9_broken_5 : decode cX9_broken 5 = .ok (.aload_n 0, 1) := by decide +kernel
theorem dX9_broken_6 : decode cX9_broken 6 = .ok (.getfield 71, 3) := by decide +kernel
theorem dX9_broken_9 : decode cX9_broken 9 = .ok (.if_icmp .ge 27, 3) := by decide +kernel
theorem dX9_broken_12 : decode cX9_broken 12 = .ok (.iload_n 1, 1) := by decide +kernel
theorem dX9_broken_13 : decode cX9_broken 13 = .ok (.aload_n 0, 1) := by decide +kernel
theorem dX9_broken_14 : decode cX9_broken 14 = .ok (.iload_n 2, 1) := by decide +kernel
theorem dX9_broken_15 : decode cX9_broken 15 = .ok (.invokevirtual 143, 3) := by decide +kernel
theorem dX9_broken_18 : decode cX9_broken 18 = .ok (.ifCond .ne 9, 3) := by decide +kernel
theorem dX9_broken_21 : decode cX9_broken 21 = .ok (.iconst 1, 1) := by decide +kernel
theorem dX9_broken_22 : decode cX9_broken 22 = .ok (.iload_n 2, 1) := by decide +kernel
theorem dX9_broken_23 : decode cX9_broken 23 = .ok (.ishl, 1) := by decide +kernel
theorem dX9_broken_24 : decode cX9_broken 24 = .ok (.goto 4, 3) := by decide +kernel
theorem dX9_broken_27 : decode cX9_broken 27 = .ok (.iconst 0, 1) := by decide +kernel
theorem dX9_broken_28 : decode cX9_broken 28 = .ok (.ior, 1) := by decide +kernel
theorem dX9_broken_29 : decode cX9_broken 29 = .ok (.istore_n 1, 1) := by decide +kernel
theorem dX9_broken_30 : decode cX9_broken 30 = .ok (.iinc 2 1, 3) := by decide +kernel
theorem dX9_broken_33 : decode cX9_broken 33 = .ok (.goto (-29), 3) := by decide +kernel
theorem dX9_broken_36 : decode cX9_broken 36 = .ok (.iload_n 1, 1) := by decide +kernel
theorem dX9_broken_37 : decode cX9_broken 37 = .ok (.ireturn, 1) := by decide +kernel
theorem dX9_years_0 : decode cX9_years 0 = .ok (.iload_n 1, 1) := by decide +kernel
theorem dX9_years_1 : decode cX9_years 1 = .ok (.i2l, 1) := by decide +kernel
theorem dX9_years_2 : decode cX9_years 2 = .ok (.lconst 1, 1) := by decide +kernel
theorem dX9_years_3 : decode cX9_years 3 = .ok (.ldc2_w 173, 3) := by decide +kernel
theorem dX9_years_6 : decode cX9_years 6 = .ok (.invokestatic 75, 3) := by decide +kernel
theorem dX9_years_9 : decode cX9_years 9 = .ok (.ifCond .ne 5, 3) := by decide +kernel
theorem dX9_years_12 : decode cX9_years 12 = .ok (.iconst (-1), 1) := by decide +kernel
theorem dX9_years_13 : decode cX9_years 13 = .ok (.ireturn, 1) := by decide +kernel
theorem dX9_years_14 : decode cX9_years 14 = .ok (.aload_n 0, 1) := by decide +kernel
theorem dX9_years_15 : decode cX9_years 15 = .ok (.getfield 28, 3) := by decide +kernel
theorem dX9_years_18 : decode cX9_years 18 = .ok (.iconst 0, 1) := by decide +kernel
theorem dX9_years_19 : decode cX9_years 19 = .ok (.iaload, 1) := by decide +kernel
theorem dX9_years_20 : decode cX9_years 20 = .ok (.iload_n 1, 1) := by decide +kernel
theorem dX9_years_21 : decode cX9_years 21 = .ok (.iadd, 1) := by decide +kernel
theorem dX9_years_22 : decode cX9_years 22 = .ok (.bipush 99, 2) := by decide +kernel
theorem dX9_years_24 : decode cX9_years 24 = .ok (.if_icmp .le 6, 3) := by decide +kernel
theorem dX9_years_27 : decode cX9_years 27 = .ok (.bipush (-2), 2) := by decide +kernel
theorem dX9_years_29 : decode cX9_years 29 = .ok (.ireturn, 1) := by decide +kernel
theorem dX9_years_30 : decode cX9_years 30 = .ok (.aload_n 0, 1) := by decide +kernel
theorem dX9_years_31 : decode cX9_years 31 = .ok (.invokevirtual 166, 3) := by decide +kernel
theorem dX9_years_34 : decode cX9_years 34 = .ok (.iconst 0, 1) := by decide +kernel
theorem dX9_years_35 : decode cX9_years 35 = .ok (.istore_n 2, 1) := by decide +kernel
theorem dX9_years_36 : decode cX9_years 36 = .ok (.iload_n 2, 1) := by decide +kernel
theorem dX9_years_37 : decode cX9_years 37 = .ok (.iload_n 1, 1) := by decide +kernel
theorem dX9_years_38 : decode cX9_years 38 = .ok (.if_icmp .ge 52, 3) := by decide +kernel
theorem dX9_years_41 : decode cX9_years 41 = .ok (.iconst 0, 1) := by decide +kernel
theorem dX9_years_42 : decode cX9_years 42 = .ok (.istore_n 3, 1) := by decide +kernel
theorem dX9_years_43 : decode cX9_years 43 = .ok (.iload_n 3, 1) := by decide +kernel
theorem dX9_years_44 : decode cX9_years 44 = .ok (.aload_n 0, 1) := by decide +kernel
theorem dX9_years_45 : decode cX9_years 45 = .ok (.getfield 71, 3) := by decide +kernel
theorem dX9_years_48 : decode cX9_years 48 = .ok (.if_icmp .ge 36, 3) := by decide +kernel
theorem dX9_years_51 : decode cX9_years 51 = .ok (.aload_n 0, 1) := by decide +kernel
theorem dX9_years_52 : decode cX9_years 52 = .ok (.getfield 28, 3) := by decide +kernel
theorem dX9_years_55 : decode cX9_years 55 = .ok (.iconst 1, 1) := by decide +kernel
theorem dX9_years_56 : decode cX9_years 56 = .ok (.iload_n 3, 1) := by decide +kernel
theorem dX9_years_57 : decode cX9_years 57 = .ok (.iadd, 1) := by decide +kernel
theorem dX9_years_58 : decode cX9_years 58 = .ok (.aload_n 0, 1) := by decide +kernel
theorem dX9_years_59 : decode cX9_years 59 = .ok (.iload_n 3, 1) := by decide +kernel
theorem dX9_years_60 : decode cX9_years 60 = .ok (.aload_n 0, 1) := by decide +kernel
theorem dX9_years_61 : decode cX9_years 61 = .ok (.iload_n 3, 1) := by decide +kernel
theorem dX9_years_62 : decode cX9_years 62 = .ok (.invokevirtual 143, 3) := by decide +kernel
theorem dX9_years_65 : decode cX9_years 65 = .ok (.aload_n 0, 1) := by decide +kernel
theorem dX9_years_66 : decode cX9_years 66 = .ok (.getfield 28, 3) := by decide +kernel
theorem dX9_years_69 : decode cX9_years 69 = .ok (.bipush 7, 2) := by decide +kernel
theorem dX9_years_71 : decode cX9_years 71 = .ok (.iload_n 3, 1) := by decide +kernel
theorem dX9_years_72 : decode cX9_years 72 = .ok (.iadd, 1) := by decide +kernel
theorem dX9_years_73 : decode cX9_years 73 = .ok (.iaload, 1) := by decide +kernel
theorem dX9_years_74 : decode cX9_years 74 = .ok (.invokevirtual 175, 3) := by decide +kernel
theorem dX9_years_77 : decode cX9_years 77 = .ok (.iastore, 1) := by decide +kernel
theorem dX9_years_78 : decode cX9_years 78 = .ok (.iinc 3 1, 3) := by decide +kernel
theorem dX9_years_81 : decode cX9_years 81 = .ok (.goto (-38), 3) := by decide +kernel
theorem dX9_years_84 : decode cX9_years 84 = .ok (.iinc 2 1, 3) := by decide +kernel
theorem dX9_years_87 : decode cX9_years 87 = .ok (.goto (-51), 3) := by decide +kernel
theorem dX9_years_90 : decode cX9_years 90 = .ok (.aload_n 0, 1) := by decide +kernel
theorem dX9_years_91 : decode cX9_years 91 = .ok (.getfield 28, 3) := by decide +kernel
theorem dX9_years_94 : decode cX9_years 94 = .ok (.iconst 0, 1) := by decide +kernel
theorem dX9_years_95 : decode cX9_years 95 = .ok (.dup2, 1) := by decide +kernel
theorem dX9_years_96 : decode cX9_years 96 = .ok (.iaload, 1) := by decide +kernel
theorem dX9_years_97 : decode cX9_years 97 = .ok (.iload_n 1, 1) := by decide +kernel
theorem dX9_years_98 : decode cX9_years 98 = .ok (.iadd, 1) := by decide +kernel
theorem dX9_years_99 : decode cX9_years 99 = .ok (.iastore, 1) := by decide +kernel
theorem dX9_years_100 : decode cX9_years 100 = .ok (.aload_n 0, 1) := by decide +kernel
theorem dX9_years_101 : decode cX9_years 101 = .ok (.invokevirtual 179, 3) := by decide +kernel
theorem dX9_years_104 : decode cX9_years 104 = .ok (.invokestatic 146, 3) := by decide +kernel
theorem dX9_years_107 : decode cX9_years 107 = .ok (.ireturn, 1) := by decide +kernel
theorem dX9_undo_0 : decode cX9_undo 0 = .ok (.aload_n 0, 1) := by decide +kernel
theorem dX9_undo_1 : decode cX9_undo 1 = .ok (.getfield 28, 3) := by decide +kernel
theorem dX9_undo_4 : decode cX9_undo 4 = .ok (.bipush 19, 2) := by decide +kernel
theorem dX9_undo_6 : decode cX9_undo 6 = .ok (.iaload, 1) := by decide +kernel
theorem dX9_undo_7 : decode cX9_undo 7 = .ok (.ifCond .ne 6, 3) := by decide +kernel
theorem dX9_undo_10 : decode cX9_undo 10 = .ok (.bipush (-2), 2) := by decide +kernel
theorem dX9_undo_12 : decode cX9_undo 12 = .ok (.ireturn, 1) := by decide +kernel
theorem dX9_undo_13 : decode cX9_undo 13 = .ok (.aload_n 0, 1) := by decide +kernel
theorem dX9_undo_14 : decode cX9_undo 14 = .ok (.getfield 28, 3) := by decide +kernel
theorem dX9_undo_17 : decode cX9_undo 17 = .ok (.bipush 19, 2) := by decide +kernel
theorem dX9_undo_19 : decode cX9_undo 19 = .ok (.dup2, 1) := by decide +kernel
theorem dX9_undo_20 : decode cX9_undo 20 = .ok (.iaload, 1) := by decide +kernel
theorem dX9_undo_21 : decode cX9_undo 21 = .ok (.iconst 1, 1) := by decide +kernel
theorem dX9_undo_22 : decode cX9_undo 22 = .ok (.isub, 1) := by decide +kernel
theorem dX9_undo_23 : decode cX9_undo 23 = .ok (.iastore, 1) := by decide +kernel
theorem dX9_undo_24 : decode cX9_undo 24 = .ok (.iconst 0, 1) := by decide +kernel
theorem dX9_undo_25 : decode cX9_undo 25 = .ok (.istore_n 1, 1) := by decide +kernel
theorem dX9_undo_26 : decode cX9_undo 26 = .ok (.iload_n 1, 1) := by decide +kernel
theorem dX9_undo_27 : decode cX9_undo 27 = .ok (.bipush 19, 2) := by decide +kernel
theorem dX9_undo_29 : decode cX9_undo 29 = .ok (.if_icmp .ge 35, 3) := by decide +kernel
theorem dX9_undo_32 : decode cX9_undo 32 = .ok (.aload_n 0, 1) := by decide +kernel
theorem dX9_undo_33 : decode cX9_undo 33 = .ok (.getfield 28, 3) := by decide +kernel
theorem dX9_undo_36 : decode cX9_undo 36 = .ok (.iload_n 1, 1) := by decide +kernel
theorem dX9_undo_37 : decode cX9_undo 37 = .ok (.aload_n 0, 1) := by decide +kernel
theorem dX9_undo_38 : decode cX9_undo 38 = .ok (.getfield 28, 3) := by decide +kernel
theorem dX9_undo_41 : decode cX9_undo 41 = .ok (.bipush 20, 2) := by decide +kernel
theorem dX9_undo_43 : decode cX9_undo 43 = .ok (.bipush 19, 2) := by decide +kernel
theorem dX9_undo_45 : decode cX9_undo 45 = .ok (.aload_n 0, 1) := by decide +kernel
theorem dX9_undo_46 : decode cX9_undo 46 = .ok (.getfield 28, 3) := by decide +kernel
theorem dX9_undo_49 : decode cX9_undo 49 = .ok (.bipush 19, 2) := by decide +kernel
theorem dX9_undo_51 : decode cX9_undo 51 = .ok (.iaload, 1) := by decide +kernel
theorem dX9_undo_52 : decode cX9_undo 52 = .ok (.imul, 1) := by decide +kernel
theorem dX9_undo_53 : decode cX9_undo 53 = .ok (.iadd, 1) := by decide +kernel
theorem dX9_undo_54 : decode cX9_undo 54 = .ok (.iload_n 1, 1) := by decide +kernel
theorem dX9_undo_55 : decode cX9_undo 55 = .ok (.iadd, 1) := by decide +kernel
theorem dX9_undo_56 : decode cX9_undo 56 = .ok (.iaload, 1) := by decide +kernel
theorem dX9_undo_57 : decode cX9_undo 57 = .ok (.iastore, 1) := by decide +kernel
theorem dX9_undo_58 : decode cX9_undo 58 = .ok (.iinc 1 1, 3) := by decide +kernel
theorem dX9_undo_61 : decode cX9_undo 61 = .ok (.goto (-35), 3) := by decide +kernel
theorem dX9_undo_64 : decode cX9_undo 64 = .ok (.aload_n 0, 1) := by decide +kernel
theorem dX9_undo_65 : decode cX9_undo 65 = .ok (.getfield 28, 3) := by decide +kernel
theorem dX9_undo_68 : decode cX9_undo 68 = .ok (.bipush 19, 2) := by decide +kernel
theorem dX9_undo_70 : decode cX9_undo 70 = .ok (.iaload, 1) := by decide +kernel
theorem dX9_undo_71 : decode cX9_undo 71 = .ok (.ireturn, 1) := by decide +kernel
theorem dX9_now_0 : decode cX9_now 0 = .ok (.iconst 0, 1) := by decide +kernel
theorem dX9_now_1 : decode cX9_now 1 = .ok (.istore_n 2, 1) := by decide +kernel
theorem dX9_now_2 : decode cX9_now 2 = .ok (.iconst 0, 1) := by decide +kernel
theorem dX9_now_3 : decode cX9_now 3 = .ok (.istore_n 3, 1) := by decide +kernel
theorem dX9_now_4 : decode cX9_now 4 = .ok (.iload_n 3, 1) := by decide +kernel
theorem dX9_now_5 : decode cX9_now 5 = .ok (.aload_n 0, 1) := by decide +kernel
theorem dX9_now_6 : decode cX9_now 6 = .ok (.getfield 71, 3) := by decide +kernel
theorem dX9_now_9 : decode cX9_now 9 = .ok (.if_icmp .ge 17, 3) := by decide +kernel
theorem dX9_now_12 : decode cX9_now 12 = .ok (.iload_n 2, 1) := by decide +kernel
theorem dX9_now_13 : decode cX9_now 13 = .ok (.aload_n 0, 1) := by decide +kernel
theorem dX9_now_14 : decode cX9_now 14 = .ok (.iload_n 3, 1) := by decide +kernel
theorem dX9_now_15 : decode cX9_now 15 = .ok (.invokevirtual 143, 3) := by decide +kernel
theorem dX9_now_18 : decode cX9_now 18 = .ok (.iadd, 1) := by decide +kernel
theorem dX9_now_19 : decode cX9_now 19 = .ok (.istore_n 2, 1) := by decide +kernel
theorem dX9_now_20 : decode cX9_now 20 = .ok (.iinc 3 1, 3) := by decide +kernel
theorem dX9_now_23 : decode cX9_now 23 = .ok (.goto (-19), 3) := by decide +kernel
theorem dX9_now_26 : decode cX9_now 26 = .ok (.iload_n 1, 1) := by decide +kernel
theorem dX9_now_27 : decode cX9_now 27 = .ok (.tableswitch 57 0 4 #[33, 40, 45, 50, 55], 33) := by decide +kernel
theorem dX9_now_60 : decode cX9_now 60 = .ok (.aload_n 0, 1) := by decide +kernel
theorem dX9_now_61 : decode cX9_now 61 = .ok (.getfield 28, 3) := by decide +kernel
theorem dX9_now_64 : decode cX9_now 64 = .ok (.iconst 0, 1) := by decide +kernel
theorem dX9_now_65 : decode cX9_now 65 = .ok (.iaload, 1) := by decide +kernel
theorem dX9_now_66 : decode cX9_now 66 = .ok (.ireturn, 1) := by decide +kernel
theorem dX9_now_67 : decode cX9_now 67 = .ok (.aload_n 0, 1) := by decide +kernel
theorem dX9_now_68 : decode cX9_now 68 = .ok (.invokevirtual 179, 3) := by decide +kernel
theorem dX9_now_71 : decode cX9_now 71 = .ok (.ireturn, 1) := by decide +kernel
theorem dX9_now_72 : decode cX9_now 72 = .ok (.aload_n 0, 1) := by decide +kernel
theorem dX9_now_73 : decode cX9_now 73 = .ok (.invokevirtual 169, 3) := by decide +kernel
theorem dX9_now_76 : decode cX9_now 76 = .ok (.ireturn, 1) := by decide +kernel
theorem dX9_now_77 : decode cX9_now 77 = .ok (.aload_n 0, 1) := by decide +kernel
theorem dX9_now_78 : decode cX9_now 78 = .ok (.invokevirtual 182, 3) := by decide +kernel
theorem dX9_now_81 : decode cX9_now 81 = .ok (.ireturn, 1) := by decide +kernel
theorem dX9_now_82 : decode cX9_now 82 = .ok (.iload_n 2, 1) := by decide +kernel
theorem dX9_now_83 : decode cX9_now 83 = .ok (.ireturn, 1) := by decide +kernel
theorem dX9_now_84 : decode cX9_now 84 = .ok (.iconst (-1), 1) := by decide +kernel
theorem dX9_now_85 : decode cX9_now 85 = .ok (.ireturn, 1) := by decide +kernel
theorem dX9_whenBroken_0 : decode cX9_whenBroken 0 = .ok (.aload_n 0, 1) := by decide +kernel
theorem dX9_whenBroken_1 : decode cX9_whenBroken 1 = .ok (.iload_n 1, 1) := by decide +kernel
theorem dX9_whenBroken_2 : decode cX9_whenBroken 2 = .ok (.invokevirtual 143, 3) := by decide +kernel
theorem dX9_whenBroken_5 : decode cX9_whenBroken 5 = .ok (.istore_n 3, 1) := by decide +kernel
theorem dX9_whenBroken_6 : decode cX9_whenBroken 6 = .ok (.iconst 0, 1) := by decide +kernel
theorem dX9_whenBroken_7 : decode cX9_whenBroken 7 = .ok (.istore 4, 2) := by decide +kernel
theorem dX9_whenBroken_9 : decode cX9_whenBroken 9 = .ok (.iload 4, 2) := by decide +kernel
theorem dX9_whenBroken_11 : decode cX9_whenBroken 11 = .ok (.bipush 99, 2) := by decide +kernel
theorem dX9_whenBroken_13 : decode cX9_whenBroken 13 = .ok (.if_icmp .gt 24, 3) := by decide +kernel
theorem dX9_whenBroken_16 : decode cX9_whenBroken 16 = .ok (.iload_n 3, 1) := by decide +kernel
theorem dX9_whenBroken_17 : decode cX9_whenBroken 17 = .ok (.ifCond .ne 6, 3) := by decide +kernel
theorem dX9_whenBroken_20 : decode cX9_whenBroken 20 = .ok (.iload 4, 2) := by decide +kernel
theorem dX9_whenBroken_22 : decode cX9_whenBroken 22 = .ok (.ireturn, 1) := by decide +kernel
theorem dX9_whenBroken_23 : decode cX9_whenBroken 23 = .ok (.aload_n 0, 1) := by decide +kernel
theorem dX9_whenBroken_24 : decode cX9_whenBroken 24 = .ok (.iload_n 1, 1) := by decide +kernel
theorem dX9_whenBroken_25 : decode cX9_whenBroken 25 = .ok (.iload_n 3, 1) := by decide +kernel
theorem dX9_whenBroken_26 : decode cX9_whenBroken 26 = .ok (.iload_n 2, 1) := by decide +kernel
theorem dX9_whenBroken_27 : decode cX9_whenBroken 27 = .ok (.invokevirtual 175, 3) := by decide +kernel
theorem dX9_whenBroken_30 : decode cX9_whenBroken 30 = .ok (.istore_n 3, 1) := by decide +kernel
theorem dX9_whenBroken_31 : decode cX9_whenBroken 31 = .ok (.iinc 4 1, 3) := by decide +kernel
theorem dX9_whenBroken_34 : decode cX9_whenBroken 34 = .ok (.goto (-25), 3) := by decide +kernel
theorem dX9_whenBroken_37 : decode cX9_whenBroken 37 = .ok (.bipush (-9), 2) := by decide +kernel
theorem dX9_whenBroken_39 : decode cX9_whenBroken 39 = .ok (.ireturn, 1) := by decide +kernel
theorem dX9_when_0 : decode cX9_when 0 = .ok (.aload_n 0, 1) := by decide +kernel
theorem dX9_when_1 : decode cX9_when 1 = .ok (.iload_n 1, 1) := by decide +kernel
theorem dX9_when_2 : decode cX9_when 2 = .ok (.invokevirtual 149, 3) := by decide +kernel
theorem dX9_when_5 : decode cX9_when 5 = .ok (.ifCond .eq 20, 3) := by decide +kernel
theorem dX9_when_8 : decode cX9_when 8 = .ok (.aload_n 0, 1) := by decide +kernel
theorem dX9_when_9 : decode cX9_when 9 = .ok (.iload_n 2, 1) := by decide +kernel
theorem dX9_when_10 : decode cX9_when 10 = .ok (.invokevirtual 157, 3) := by decide +kernel
theorem dX9_when_13 : decode cX9_when 13 = .ok (.ifCond .eq 12, 3) := by decide +kernel
theorem dX9_when_16 : decode cX9_when 16 = .ok (.aload_n 0, 1) := by decide +kernel
theorem dX9_when_17 : decode cX9_when 17 = .ok (.iload_n 1, 1) := by decide +kernel
theorem dX9_when_18 : decode cX9_when 18 = .ok (.iload_n 2, 1) := by decide +kernel
theorem dX9_when_19 : decode cX9_when 19 = .ok (.invokevirtual 185, 3) := by decide +kernel
theorem dX9_when_22 : decode cX9_when 22 = .ok (.goto 4, 3) := by decide +kernel
theorem dX9_when_25 : decode cX9_when 25 = .ok (.iconst (-1), 1) := by decide +kernel
theorem dX9_when_26 : decode cX9_when 26 = .ok (.ireturn, 1) := by decide +kernel
theorem dX9_hotIn_0 : decode cX9_hotIn 0 = .ok (.aload_n 0, 1) := by decide +kernel
theorem dX9_hotIn_1 : decode cX9_hotIn 1 = .ok (.iload_n 1, 1) := by decide +kernel
theorem dX9_hotIn_2 : decode cX9_hotIn 2 = .ok (.invokevirtual 143, 3) := by decide +kernel
theorem dX9_hotIn_5 : decode cX9_hotIn 5 = .ok (.istore_n 3, 1) := by decide +kernel
theorem dX9_hotIn_6 : decode cX9_hotIn 6 = .ok (.iconst 0, 1) := by decide +kernel
theorem dX9_hotIn_7 : decode cX9_hotIn 7 = .ok (.istore 4, 2) := by decide +kernel
theorem dX9_hotIn_9 : decode cX9_hotIn 9 = .ok (.iload 4, 2) := by decide +kernel
theorem dX9_hotIn_11 : decode cX9_hotIn 11 = .ok (.iload_n 2, 1) := by decide +kernel
theorem dX9_hotIn_12 : decode cX9_hotIn 12 = .ok (.if_icmp .ge 25, 3) := by decide +kernel
theorem dX9_hotIn_15 : decode cX9_hotIn 15 = .ok (.aload_n 0, 1) := by decide +kernel
theorem dX9_hotIn_16 : decode cX9_hotIn 16 = .ok (.iload_n 1, 1) := by decide +kernel
theorem dX9_hotIn_17 : decode cX9_hotIn 17 = .ok (.iload_n 3, 1) := by decide +kernel
theorem dX9_hotIn_18 : decode cX9_hotIn 18 = .ok (.aload_n 0, 1) := by decide +kernel
theorem dX9_hotIn_19 : decode cX9_hotIn 19 = .ok (.getfield 28, 3) := by decide +kernel
theorem dX9_hotIn_22 : decode cX9_hotIn 22 = .ok (.bipush 7, 2) := by decide +kernel
theorem dX9_hotIn_24 : decode cX9_hotIn 24 = .ok (.iload_n 1, 1) := by decide +kernel
theorem dX9_hotIn_25 : decode cX9_hotIn 25 = .ok (.iadd, 1) := by decide +kernel
theorem dX9_hotIn_26 : decode cX9_hotIn 26 = .ok (.iaload, 1) := by decide +kernel
theorem dX9_hotIn_27 : decode cX9_hotIn 27 = .ok (.invokevirtual 175, 3) := by decide +kernel
theorem dX9_hotIn_30 : decode cX9_hotIn 30 = .ok (.istore_n 3, 1) := by decide +kernel
theorem dX9_hotIn_31 : decode cX9_hotIn 31 = .ok (.iinc 4 1, 3) := by decide +kernel
theorem dX9_hotIn_34 : decode cX9_hotIn 34 = .ok (.goto (-25), 3) := by decide +kernel
theorem dX9_hotIn_37 : decode cX9_hotIn 37 = .ok (.iload_n 3, 1) := by decide +kernel
theorem dX9_hotIn_38 : decode cX9_hotIn 38 = .ok (.ireturn, 1) := by decide +kernel
theorem dX9_hot_0 : decode cX9_hot 0 = .ok (.aload_n 0, 1) := by decide +kernel
theorem dX9_hot_1 : decode cX9_hot 1 = .ok (.iload_n 1, 1) := by decide +kernel
theorem dX9_hot_2 : decode cX9_hot 2 = .ok (.invokevirtual 149, 3) := by decide +kernel
theorem dX9_hot_5 : decode cX9_hot 5 = .ok (.ifCond .eq 24, 3) := by decide +kernel
theorem dX9_hot_8 : decode cX9_hot 8 = .ok (.iload_n 2, 1) := by decide +kernel
theorem dX9_hot_9 : decode cX9_hot 9 = .ok (.i2l, 1) := by decide +kernel
theorem dX9_hot_10 : decode cX9_hot 10 = .ok (.lconst 0, 1) := by decide +kernel
theorem dX9_hot_11 : decode cX9_hot 11 = .ok (.ldc2_w 189, 3) := by decide +kernel
theorem dX9_hot_14 : decode cX9_hot 14 = .ok (.invokestatic 75, 3) := by decide +kernel
theorem dX9_hot_17 : decode cX9_hot 17 = .ok (.ifCond .eq 12, 3) := by decide +kernel
theorem dX9_hot_20 : decode cX9_hot 20 = .ok (.aload_n 0, 1) := by decide +kernel
theorem dX9_hot_21 : decode cX9_hot 21 = .ok (.iload_n 1, 1) := by decide +kernel
theorem dX9_hot_22 : decode cX9_hot 22 = .ok (.iload_n 2, 1) := by decide +kernel
theorem dX9_hot_23 : decode cX9_hot 23 = .ok (.invokevirtual 191, 3) := by decide +kernel
theorem dX9_hot_26 : decode cX9_hot 26 = .ok (.goto 4, 3) := by decide +kernel
theorem dX9_hot_29 : decode cX9_hot 29 = .ok (.iconst (-1), 1) := by decide +kernel
theorem dX9_hot_30 : decode cX9_hot 30 = .ok (.ireturn, 1) := by decide +kernel
theorem dX9_ways_0 : decode cX9_ways 0 = .ok (.iconst 1, 1) := by decide +kernel
theorem dX9_ways_1 : decode cX9_ways 1 = .ok (.istore_n 1, 1) := by decide +kernel
theorem dX9_ways_2 : decode cX9_ways 2 = .ok (.iconst 0, 1) := by decide +kernel
theorem dX9_ways_3 : decode cX9_ways 3 = .ok (.istore_n 2, 1) := by decide +kernel
theorem dX9_ways_4 : decode cX9_ways 4 = .ok (.iload_n 2, 1) := by decide +kernel
theorem dX9_ways_5 : decode cX9_ways 5 = .ok (.aload_n 0, 1) := by decide +kernel
theorem dX9_ways_6 : decode cX9_ways 6 = .ok (.getfield 71, 3) := by decide +kernel
theorem dX9_ways_9 : decode cX9_ways 9 = .ok (.if_icmp .ge 18, 3) := by decide +kernel
theorem dX9_ways_12 : decode cX9_ways 12 = .ok (.iload_n 1, 1) := by decide +kernel
theorem dX9_ways_13 : decode cX9_ways 13 = .ok (.aload_n 0, 1) := by decide +kernel
theorem dX9_ways_14 : decode cX9_ways 14 = .ok (.getfield 79, 3) := by decide +kernel
theorem dX9_ways_17 : decode cX9_ways 17 = .ok (.iconst 1, 1) := by decide +kernel
theorem dX9_ways_18 : decode cX9_ways 18 = .ok (.iadd, 1) := by decide +kernel
theorem dX9_ways_19 : decode cX9_ways 19 = .ok (.imul, 1) := by decide +kernel
theorem dX9_ways_20 : decode cX9_ways 20 = .ok (.istore_n 1, 1) := by decide +kernel
theorem dX9_ways_21 : decode cX9_ways 21 = .ok (.iinc 2 1, 3) := by decide +kernel
theorem dX9_ways_24 : decode cX9_ways 24 = .ok (.goto (-20), 3) := by decide +kernel
theorem dX9_ways_27 : decode cX9_ways 27 = .ok (.iload_n 1, 1) := by decide +kernel
theorem dX9_ways_28 : decode cX9_ways 28 = .ok (.ireturn, 1) := by decide +kernel
theorem dX9_mayBe_0 : decode cX9_mayBe 0 = .ok (.iload_n 1, 1) := by decide +kernel
theorem dX9_mayBe_1 : decode cX9_mayBe 1 = .ok (.istore_n 2, 1) := by decide +kernel
theorem dX9_mayBe_2 : decode cX9_mayBe 2 = .ok (.iconst 1, 1) := by decide +kernel
theorem dX9_mayBe_3 : decode cX9_mayBe 3 = .ok (.istore_n 3, 1) := by decide +kernel
theorem dX9_mayBe_4 : decode cX9_mayBe 4 = .ok (.iconst 0, 1) := by decide +kernel
theorem dX9_mayBe_5 : decode cX9_mayBe 5 = .ok (.istore 4, 2) := by decide +kernel
theorem dX9_mayBe_7 : decode cX9_mayBe 7 = .ok (.iload 4, 2) := by decide +kernel
theorem dX9_mayBe_9 : decode cX9_mayBe 9 = .ok (.aload_n 0, 1) := by decide +kernel
theorem dX9_mayBe_10 : decode cX9_mayBe 10 = .ok (.getfield 79, 3) := by decide +kernel
theorem dX9_mayBe_13 : decode cX9_mayBe 13 = .ok (.if_icmp .gt 17, 3) := by decide +kernel
theorem dX9_mayBe_16 : decode cX9_mayBe 16 = .ok (.aload_n 0, 1) := by decide +kernel
theorem dX9_mayBe_17 : decode cX9_mayBe 17 = .ok (.getfield 59, 3) := by decide +kernel
theorem dX9_mayBe_20 : decode cX9_mayBe 20 = .ok (.iload 4, 2) := by decide +kernel
theorem dX9_mayBe_22 : decode cX9_mayBe 22 = .ok (.iconst 0, 1) := by decide +kernel
theorem dX9_mayBe_23 : decode cX9_mayBe 23 = .ok (.iastore, 1) := by decide +kernel
theorem dX9_mayBe_24 : decode cX9_mayBe 24 = .ok (.iinc 4 1, 3) := by decide +kernel
theorem dX9_mayBe_27 : decode cX9_mayBe 27 = .ok (.goto (-20), 3) := by decide +kernel
theorem dX9_mayBe_30 : decode cX9_mayBe 30 = .ok (.aload_n 0, 1) := by decide +kernel
theorem dX9_mayBe_31 : decode cX9_mayBe 31 = .ok (.getfield 71, 3) := by decide +kernel
theorem dX9_mayBe_34 : decode cX9_mayBe 34 = .ok (.iconst 1, 1) := by decide +kernel
theorem dX9_mayBe_35 : decode cX9_mayBe 35 = .ok (.isub, 1) := by decide +kernel
theorem dX9_mayBe_36 : decode cX9_mayBe 36 = .ok (.istore 4, 2) := by decide +kernel
theorem dX9_mayBe_38 : decode cX9_mayBe 38 = .ok (.iload 4, 2) := by decide +kernel
theorem dX9_mayBe_40 : decode cX9_mayBe 40 = .ok (.ifCond .lt 124, 3) := by decide +kernel
theorem dX9_mayBe_43 : decode cX9_mayBe 43 = .ok (.iload_n 2, 1) := by decide +kernel
theorem dX9_mayBe_44 : decode cX9_mayBe 44 = .ok (.aload_n 0, 1) := by decide +kernel
theorem dX9_mayBe_45 : decode cX9_mayBe 45 = .ok (.getfield 79, 3) := by decide +kernel
theorem dX9_mayBe_48 : decode cX9_mayBe 48 = .ok (.iconst 1, 1) := by decide +kernel
theorem dX9_mayBe_49 : decode cX9_mayBe 49 = .ok (.iadd, 1) := by decide +kernel
theorem dX9_mayBe_50 : decode cX9_mayBe 50 = .ok (.irem, 1) := by decide +kernel
theorem dX9_mayBe_51 : decode cX9_mayBe 51 = .ok (.istore 5, 2) := by decide +kernel
theorem dX9_mayBe_53 : decode cX9_mayBe 53 = .ok (.iload_n 2, 1) := by decide +kernel
theorem dX9_mayBe_54 : decode cX9_mayBe 54 = .ok (.aload_n 0, 1) := by decide +kernel
theorem dX9_mayBe_55 : decode cX9_mayBe 55 = .ok (.getfield 79, 3) := by decide +kernel
theorem dX9_mayBe_58 : decode cX9_mayBe 58 = .ok (.iconst 1, 1) := by decide +kernel
theorem dX9_mayBe_59 : decode cX9_mayBe 59 = .ok (.iadd, 1) := by decide +kernel
theorem dX9_mayBe_60 : decode cX9_mayBe 60 = .ok (.idiv, 1) := by decide +kernel
theorem dX9_mayBe_61 : decode cX9_mayBe 61 = .ok (.istore_n 2, 1) := by decide +kernel
theorem dX9_mayBe_62 : decode cX9_mayBe 62 = .ok (.aload_n 0, 1) := by decide +kernel
theorem dX9_mayBe_63 : decode cX9_mayBe 63 = .ok (.getfield 53, 3) := by decide +kernel
theorem dX9_mayBe_66 : decode cX9_mayBe 66 = .ok (.iload 4, 2) := by decide +kernel
theorem dX9_mayBe_68 : decode cX9_mayBe 68 = .ok (.iload 5, 2) := by decide +kernel
theorem dX9_mayBe_70 : decode cX9_mayBe 70 = .ok (.iastore, 1) := by decide +kernel
theorem dX9_mayBe_71 : decode cX9_mayBe 71 = .ok (.iload_n 3, 1) := by decide +kernel
theorem dX9_mayBe_72 : decode cX9_mayBe 72 = .ok (.ifCond .eq 70, 3) := by decide +kernel
theorem dX9_mayBe_75 : decode cX9_mayBe 75 = .ok (.iload 5, 2) := by decide +kernel
theorem dX9_mayBe_77 : decode cX9_mayBe 77 = .ok (.aload_n 0, 1) := by decide +kernel
theorem dX9_mayBe_78 : decode cX9_mayBe 78 = .ok (.getfield 79, 3) := by decide +kernel
theorem dX9_mayBe_81 : decode cX9_mayBe 81 = .ok (.if_icmp .eq 57, 3) := by decide +kernel
theorem dX9_mayBe_84 : decode cX9_mayBe 84 = .ok (.aload_n 0, 1) := by decide +kernel
theorem dX9_mayBe_85 : decode cX9_mayBe 85 = .ok (.iload 4, 2) := by decide +kernel
theorem dX9_mayBe_87 : decode cX9_mayBe 87 = .ok (.invokevirtual 143, 3) := by decide +kernel
theorem dX9_mayBe_90 : decode cX9_mayBe 90 = .ok (.aload_n 0, 1) := by decide +kernel
theorem dX9_mayBe_91 : decode cX9_mayBe 91 = .ok (.getfield 25, 3) := by decide +kernel
theorem dX9_mayBe_94 : decode cX9_mayBe 94 = .ok (.iload 5, 2) := by decide +kernel
theorem dX9_mayBe_96 : decode cX9_mayBe 96 = .ok (.iaload, 1) := by decide +kernel
theorem dX9_mayBe_97 : decode cX9_mayBe 97 = .ok (.if_icmp .gt 45, 3) := by decide +kernel
theorem dX9_mayBe_100 : decode cX9_mayBe 100 = .ok (.aload_n 0, 1) := by decide +kernel
theorem dX9_mayBe_101 : decode cX9_mayBe 101 = .ok (.getfield 59, 3) := by decide +kernel
theorem dX9_mayBe_104 : decode cX9_mayBe 104 = .ok (.iload 5, 2) := by decide +kernel
theorem dX9_mayBe_106 : decode cX9_mayBe 106 = .ok (.iaload, 1) := by decide +kernel
theorem dX9_mayBe_107 : decode cX9_mayBe 107 = .ok (.invokestatic 146, 3) := by decide +kernel
theorem dX9_mayBe_110 : decode cX9_mayBe 110 = .ok (.aload_n 0, 1) := by decide +kernel
theorem dX9_mayBe_111 : decode cX9_mayBe 111 = .ok (.getfield 22, 3) := by decide +kernel
theorem dX9_mayBe_114 : decode cX9_mayBe 114 = .ok (.iload 5, 2) := by decide +kernel
theorem dX9_mayBe_116 : decode cX9_mayBe 116 = .ok (.iaload, 1) := by decide +kernel
theorem dX9_mayBe_117 : decode cX9_mayBe 117 = .ok (.if_icmp .ge 25, 3) := by decide +kernel
theorem dX9_mayBe_120 : decode cX9_mayBe 120 = .ok (.aload_n 0, 1) := by decide +kernel
theorem dX9_mayBe_121 : decode cX9_mayBe 121 = .ok (.getfield 59, 3) := by decide +kernel
theorem dX9_mayBe_124 : decode cX9_mayBe 124 = .ok (.iload 5, 2) := by decide +kernel
theorem dX9_mayBe_126 : decode cX9_mayBe 126 = .ok (.iaload, 1) := by decide +kernel
theorem dX9_mayBe_127 : decode cX9_mayBe 127 = .ok (.aload_n 0, 1) := by decide +kernel
theorem dX9_mayBe_128 : decode cX9_mayBe 128 = .ok (.getfield 16, 3) := by decide +kernel
theorem dX9_mayBe_131 : decode cX9_mayBe 131 = .ok (.iload 4, 2) := by decide +kernel
theorem dX9_mayBe_133 : decode cX9_mayBe 133 = .ok (.iaload, 1) := by decide +kernel
theorem dX9_mayBe_134 : decode cX9_mayBe 134 = .ok (.iand, 1) := by decide +kernel
theorem dX9_mayBe_135 : decode cX9_mayBe 135 = .ok (.ifCond .ne 7, 3) := by decide +kernel
theorem dX9_mayBe_138 : decode cX9_mayBe 138 = .ok (.iconst 1, 1) := by decide +kernel
theorem dX9_mayBe_139 : decode cX9_mayBe 139 = .ok (.goto 4, 3) := by decide +kernel
theorem dX9_mayBe_142 : decode cX9_mayBe 142 = .ok (.iconst 0, 1) := by decide +kernel
theorem dX9_mayBe_143 : decode cX9_mayBe 143 = .ok (.istore_n 3, 1) := by decide +kernel
theorem dX9_mayBe_144 : decode cX9_mayBe 144 = .ok (.aload_n 0, 1) := by decide +kernel
theorem dX9_mayBe_145 : decode cX9_mayBe 145 = .ok (.getfield 59, 3) := by decide +kernel
theorem dX9_mayBe_148 : decode cX9_mayBe 148 = .ok (.iload 5, 2) := by decide +kernel
theorem dX9_mayBe_150 : decode cX9_mayBe 150 = .ok (.dup2, 1) := by decide +kernel
theorem dX9_mayBe_151 : decode cX9_mayBe 151 = .ok (.iaload, 1) := by decide +kernel
theorem dX9_mayBe_152 : decode cX9_mayBe 152 = .ok (.iconst 1, 1) := by decide +kernel
theorem dX9_mayBe_153 : decode cX9_mayBe 153 = .ok (.iload 4, 2) := by decide +kernel
theorem dX9_mayBe_155 : decode cX9_mayBe 155 = .ok (.ishl, 1) := by decide +kernel
theorem dX9_mayBe_156 : decode cX9_mayBe 156 = .ok (.ior, 1) := by decide +kernel
theorem dX9_mayBe_157 : decode cX9_mayBe 157 = .ok (.iastore, 1) := by decide +kernel
theorem dX9_mayBe_158 : decode cX9_mayBe 158 = .ok (.iinc 4 (-1), 3) := by decide +kernel
theorem dX9_mayBe_161 : decode cX9_mayBe 161 = .ok (.goto (-123), 3) := by decide +kernel
theorem dX9_mayBe_164 : decode cX9_mayBe 164 = .ok (.iload_n 3, 1) := by decide +kernel
theorem dX9_mayBe_165 : decode cX9_mayBe 165 = .ok (.ireturn, 1) := by decide +kernel
theorem dX9_plan_0 : decode cX9_plan 0 = .ok (.iload_n 1, 1) := by decide +kernel
theorem dX9_plan_1 : decode cX9_plan 1 = .ok (.iconst (-1), 1) := by decide +kernel
theorem dX9_plan_2 : decode cX9_plan 2 = .ok (.if_icmp .eq 13, 3) := by decide +kernel
theorem dX9_plan_5 : decode cX9_plan 5 = .ok (.aload_n 0, 1) := by decide +kernel
theorem dX9_plan_6 : decode cX9_plan 6 = .ok (.iload_n 1, 1) := by decide +kernel
theorem dX9_plan_7 : decode cX9_plan 7 = .ok (.invokevirtual 149, 3) := by decide +kernel
theorem dX9_plan_10 : decode cX9_plan 10 = .ok (.ifCond .ne 5, 3) := by decide +kernel
theorem dX9_plan_13 : decode cX9_plan 13 = .ok (.iconst (-1), 1) := by decide +kernel
theorem dX9_plan_14 : decode cX9_plan 14 = .ok (.ireturn, 1) := by decide +kernel
theorem dX9_plan_15 : decode cX9_plan 15 = .ok (.iconst (-1), 1) := by decide +kernel
theorem dX9_plan_16 : decode cX9_plan 16 = .ok (.istore_n 2, 1) := by decide +kernel
theorem dX9_plan_17 : decode cX9_plan 17 = .ok (.iconst 0, 1) := by decide +kernel
theorem dX9_plan_18 : decode cX9_plan 18 = .ok (.istore_n 3, 1) := by decide +kernel
theorem dX9_plan_19 : decode cX9_plan 19 = .ok (.iload_n 3, 1) := by decide +kernel
theorem dX9_plan_20 : decode cX9_plan 20 = .ok (.aload_n 0, 1) := by decide +kernel
theorem dX9_plan_21 : decode cX9_plan 21 = .ok (.invokevirtual 194, 3) := by decide +kernel
theorem dX9_plan_24 : decode cX9_plan 24 = .ok (.if_icmp .ge 77, 3) := by decide +kernel
theorem dX9_plan_27 : decode cX9_plan 27 = .ok (.aload_n 0, 1) := by decide +kernel
theorem dX9_plan_28 : decode cX9_plan 28 = .ok (.iload_n 3, 1) := by decide +kernel
theorem dX9_plan_29 : decode cX9_plan 29 = .ok (.invokevirtual 197, 3) := by decide +kernel
theorem dX9_plan_32 : decode cX9_plan 32 = .ok (.ifCond .eq 63, 3) := by decide +kernel
theorem dX9_plan_35 : decode cX9_plan 35 = .ok (.aload_n 0, 1) := by decide +kernel
theorem dX9_plan_36 : decode cX9_plan 36 = .ok (.getfield 71, 3) := by decide +kernel
theorem dX9_plan_39 : decode cX9_plan 39 = .ok (.aload_n 0, 1) := by decide +kernel
theorem dX9_plan_40 : decode cX9_plan 40 = .ok (.getfield 59, 3) := by decide +kernel
theorem dX9_plan_43 : decode cX9_plan 43 = .ok (.aload_n 0, 1) := by decide +kernel
theorem dX9_plan_44 : decode cX9_plan 44 = .ok (.getfield 79, 3) := by decide +kernel
theorem dX9_plan_47 : decode cX9_plan 47 = .ok (.iaload, 1) := by decide +kernel
theorem dX9_plan_48 : decode cX9_plan 48 = .ok (.invokestatic 146, 3) := by decide +kernel
theorem dX9_plan_51 : decode cX9_plan 51 = .ok (.isub, 1) := by decide +kernel
theorem dX9_plan_52 : decode cX9_plan 52 = .ok (.istore 4, 2) := by decide +kernel
theorem dX9_plan_54 : decode cX9_plan 54 = .ok (.iload 4, 2) := by decide +kernel
theorem dX9_plan_56 : decode cX9_plan 56 = .ok (.iload_n 2, 1) := by decide +kernel
theorem dX9_plan_57 : decode cX9_plan 57 = .ok (.if_icmp .le 38, 3) := by decide +kernel
theorem dX9_plan_60 : decode cX9_plan 60 = .ok (.iload 4, 2) := by decide +kernel
theorem dX9_plan_62 : decode cX9_plan 62 = .ok (.istore_n 2, 1) := by decide +kernel
theorem dX9_plan_63 : decode cX9_plan 63 = .ok (.iconst 0, 1) := by decide +kernel
theorem dX9_plan_64 : decode cX9_plan 64 = .ok (.istore 5, 2) := by decide +kernel
theorem dX9_plan_66 : decode cX9_plan 66 = .ok (.iload 5, 2) := by decide +kernel
theorem dX9_plan_68 : decode cX9_plan 68 = .ok (.aload_n 0, 1) := by decide +kernel
theorem dX9_plan_69 : decode cX9_plan 69 = .ok (.getfield 71, 3) := by decide +kernel
theorem dX9_plan_72 : decode cX9_plan 72 = .ok (.if_icmp .ge 23, 3) := by decide +kernel
theorem dX9_plan_75 : decode cX9_plan 75 = .ok (.aload_n 0, 1) := by decide +kernel
theorem dX9_plan_76 : decode cX9_plan 76 = .ok (.getfield 56, 3) := by decide +kernel
theorem dX9_plan_79 : decode cX9_plan 79 = .ok (.iload 5, 2) := by decide +kernel
theorem dX9_plan_81 : decode cX9_plan 81 = .ok (.aload_n 0, 1) := by decide +kernel
theorem dX9_plan_82 : decode cX9_plan 82 = .ok (.getfield 53, 3) := by decide +kernel
theorem dX9_plan_85 : decode cX9_plan 85 = .ok (.iload 5, 2) := by decide +kernel
theorem dX9_plan_87 : decode cX9_plan 87 = .ok (.iaload, 1) := by decide +kernel
theorem dX9_plan_88 : decode cX9_plan 88 = .ok (.iastore, 1) := by decide +kernel
theorem dX9_plan_89 : decode cX9_plan 89 = .ok (.iinc 5 1, 3) := by decide +kernel
theorem dX9_plan_92 : decode cX9_plan 92 = .ok (.goto (-26), 3) := by decide +kernel
theorem dX9_plan_95 : decode cX9_plan 95 = .ok (.iinc 3 1, 3) := by decide +kernel
theorem dX9_plan_98 : decode cX9_plan 98 = .ok (.goto (-79), 3) := by decide +kernel
theorem dX9_plan_101 : decode cX9_plan 101 = .ok (.iload_n 1, 1) := by decide +kernel
theorem dX9_plan_102 : decode cX9_plan 102 = .ok (.iconst (-1), 1) := by decide +kernel
theorem dX9_plan_103 : decode cX9_plan 103 = .ok (.if_icmp .ne 7, 3) := by decide +kernel
theorem dX9_plan_106 : decode cX9_plan 106 = .ok (.iload_n 2, 1) := by decide +kernel
theorem dX9_plan_107 : decode cX9_plan 107 = .ok (.goto 27, 3) := by decide +kernel
theorem dX9_plan_110 : decode cX9_plan 110 = .ok (.aload_n 0, 1) := by decide +kernel
theorem dX9_plan_111 : decode cX9_plan 111 = .ok (.getfield 56, 3) := by decide +kernel
theorem dX9_plan_114 : decode cX9_plan 114 = .ok (.iload_n 1, 1) := by decide +kernel
theorem dX9_plan_115 : decode cX9_plan 115 = .ok (.iaload, 1) := by decide +kernel
theorem dX9_plan_116 : decode cX9_plan 116 = .ok (.aload_n 0, 1) := by decide +kernel
theorem dX9_plan_117 : decode cX9_plan 117 = .ok (.getfield 79, 3) := by decide +kernel
theorem dX9_plan_120 : decode cX9_plan 120 = .ok (.if_icmp .ne 8, 3) := by decide +kernel
theorem dX9_plan_123 : decode cX9_plan 123 = .ok (.bipush (-9), 2) := by decide +kernel
theorem dX9_plan_125 : decode cX9_plan 125 = .ok (.goto 9, 3) := by decide +kernel
theorem dX9_plan_128 : decode cX9_plan 128 = .ok (.aload_n 0, 1) := by decide +kernel
theorem dX9_plan_129 : decode cX9_plan 129 = .ok (.getfield 56, 3) := by decide +kernel
theorem dX9_plan_132 : decode cX9_plan 132 = .ok (.iload_n 1, 1) := by decide +kernel
theorem dX9_plan_133 : decode cX9_plan 133 = .ok (.iaload, 1) := by decide +kernel
theorem dX9_plan_134 : decode cX9_plan 134 = .ok (.ireturn, 1) := by decide +kernel
theorem dX9_soonest_0 : decode cX9_soonest 0 = .ok (.ldc 200, 2) := by decide +kernel
theorem dX9_soonest_2 : decode cX9_soonest 2 = .ok (.istore_n 1, 1) := by decide +kernel
theorem dX9_soonest_3 : decode cX9_soonest 3 = .ok (.iconst 0, 1) := by decide +kernel
theorem dX9_soonest_4 : decode cX9_soonest 4 = .ok (.istore_n 2, 1) := by decide +kernel
theorem dX9_soonest_5 : decode cX9_soonest 5 = .ok (.iload_n 2, 1) := by decide +kernel
theorem dX9_soonest_6 : decode cX9_soonest 6 = .ok (.aload_n 0, 1) := by decide +kernel
theorem dX9_soonest_7 : decode cX9_soonest 7 = .ok (.getfield 71, 3) := by decide +kernel
theorem dX9_soonest_10 : decode cX9_soonest 10 = .ok (.if_icmp .ge 82, 3) := by decide +kernel
theorem dX9_soonest_13 : decode cX9_soonest 13 = .ok (.iconst 0, 1) := by decide +kernel
theorem dX9_soonest_14 : decode cX9_soonest 14 = .ok (.istore_n 3, 1) := by decide +kernel
theorem dX9_soonest_15 : decode cX9_soonest 15 = .ok (.iload_n 3, 1) := by decide +kernel
theorem dX9_soonest_16 : decode cX9_soonest 16 = .ok (.aload_n 0, 1) := by decide +kernel
theorem dX9_soonest_17 : decode cX9_soonest 17 = .ok (.getfield 79, 3) := by decide +kernel
theorem dX9_soonest_20 : decode cX9_soonest 20 = .ok (.if_icmp .gt 66, 3) := by decide +kernel
theorem dX9_soonest_23 : decode cX9_soonest 23 = .ok (.iload_n 3, 1) := by decide +kernel
theorem dX9_soonest_24 : decode cX9_soonest 24 = .ok (.aload_n 0, 1) := by decide +kernel
theorem dX9_soonest_25 : decode cX9_soonest 25 = .ok (.getfield 79, 3) := by decide +kernel
theorem dX9_soonest_28 : decode cX9_soonest 28 = .ok (.if_icmp .ge 12, 3) := by decide +kernel
theorem dX9_soonest_31 : decode cX9_soonest 31 = .ok (.aload_n 0, 1) := by decide +kernel
theorem dX9_soonest_32 : decode cX9_soonest 32 = .ok (.iload_n 2, 1) := by decide +kernel
theorem dX9_soonest_33 : decode cX9_soonest 33 = .ok (.iload_n 3, 1) := by decide +kernel
theorem dX9_soonest_34 : decode cX9_soonest 34 = .ok (.invokevirtual 185, 3) := by decide +kernel
theorem dX9_soonest_37 : decode cX9_soonest 37 = .ok (.goto 17, 3) := by decide +kernel
theorem dX9_soonest_40 : decode cX9_soonest 40 = .ok (.aload_n 0, 1) := by decide +kernel
theorem dX9_soonest_41 : decode cX9_soonest 41 = .ok (.iload_n 2, 1) := by decide +kernel
theorem dX9_soonest_42 : decode cX9_soonest 42 = .ok (.invokevirtual 143, 3) := by decide +kernel
theorem dX9_soonest_45 : decode cX9_soonest 45 = .ok (.ifCond .ne 7, 3) := by decide +kernel
theorem dX9_soonest_48 : decode cX9_soonest 48 = .ok (.iconst 0, 1) := by decide +kernel
theorem dX9_soonest_49 : decode cX9_soonest 49 = .ok (.goto 5, 3) := by decide +kernel
theorem dX9_soonest_52 : decode cX9_soonest 52 = .ok (.bipush (-9), 2) := by decide +kernel
theorem dX9_soonest_54 : decode cX9_soonest 54 = .ok (.istore 4, 2) := by decide +kernel
theorem dX9_soonest_56 : decode cX9_soonest 56 = .ok (.aload_n 0, 1) := by decide +kernel
theorem dX9_soonest_57 : decode cX9_soonest 57 = .ok (.getfield 62, 3) := by decide +kernel
theorem dX9_soonest_60 : decode cX9_soonest 60 = .ok (.iconst 5, 1) := by decide +kernel
theorem dX9_soonest_61 : decode cX9_soonest 61 = .ok (.iload_n 2, 1) := by decide +kernel
theorem dX9_soonest_62 : decode cX9_soonest 62 = .ok (.imul, 1) := by decide +kernel
theorem dX9_soonest_63 : decode cX9_soonest 63 = .ok (.iload_n 3, 1) := by decide +kernel
theorem dX9_soonest_64 : decode cX9_soonest 64 = .ok (.iadd, 1) := by decide +kernel
theorem dX9_soonest_65 : decode cX9_soonest 65 = .ok (.iload 4, 2) := by decide +kernel
theorem dX9_soonest_67 : decode cX9_soonest 67 = .ok (.bipush (-9), 2) := by decide +kernel
theorem dX9_soonest_69 : decode cX9_soonest 69 = .ok (.if_icmp .ne 8, 3) := by decide +kernel
theorem dX9_soonest_72 : decode cX9_soonest 72 = .ok (.ldc 200, 2) := by decide +kernel
theorem dX9_soonest_74 : decode cX9_soonest 74 = .ok (.goto 5, 3) := by decide +kernel
theorem dX9_soonest_77 : decode cX9_soonest 77 = .ok (.iload 4, 2) := by decide +kernel
theorem dX9_soonest_79 : decode cX9_soonest 79 = .ok (.iastore, 1) := by decide +kernel
theorem dX9_soonest_80 : decode cX9_soonest 80 = .ok (.iinc 3 1, 3) := by decide +kernel
theorem dX9_soonest_83 : decode cX9_soonest 83 = .ok (.goto (-68), 3) := by decide +kernel
theorem dX9_soonest_86 : decode cX9_soonest 86 = .ok (.iinc 2 1, 3) := by decide +kernel
theorem dX9_soonest_89 : decode cX9_soonest 89 = .ok (.goto (-84), 3) := by decide +kernel
theorem dX9_soonest_92 : decode cX9_soonest 92 = .ok (.iconst 0, 1) := by decide +kernel
theorem dX9_soonest_93 : decode cX9_soonest 93 = .ok (.istore_n 2, 1) := by decide +kernel
theorem dX9_soonest_94 : decode cX9_soonest 94 = .ok (.iload_n 2, 1) := by decide +kernel
theorem dX9_soonest_95 : decode cX9_soonest 95 = .ok (.aload_n 0, 1) := by decide +kernel
theorem dX9_soonest_96 : decode cX9_soonest 96 = .ok (.invokevirtual 194, 3) := by decide +kernel
theorem dX9_soonest_99 : decode cX9_soonest 99 = .ok (.if_icmp .ge 80, 3) := by decide +kernel
theorem dX9_soonest_102 : decode cX9_soonest 102 = .ok (.aload_n 0, 1) := by decide +kernel
theorem dX9_soonest_103 : decode cX9_soonest 103 = .ok (.iload_n 2, 1) := by decide +kernel
theorem dX9_soonest_104 : decode cX9_soonest 104 = .ok (.invokevirtual 197, 3) := by decide +kernel
theorem dX9_soonest_107 : decode cX9_soonest 107 = .ok (.ifCond .eq 66, 3) := by decide +kernel
theorem dX9_soonest_110 : decode cX9_soonest 110 = .ok (.iconst 0, 1) := by decide +kernel
theorem dX9_soonest_111 : decode cX9_soonest 111 = .ok (.istore_n 3, 1) := by decide +kernel
theorem dX9_soonest_112 : decode cX9_soonest 112 = .ok (.iconst 0, 1) := by decide +kernel
theorem dX9_soonest_113 : decode cX9_soonest 113 = .ok (.istore 4, 2) := by decide +kernel
theorem dX9_soonest_115 : decode cX9_soonest 115 = .ok (.iload 4, 2) := by decide +kernel
theorem dX9_soonest_117 : decode cX9_soonest 117 = .ok (.aload_n 0, 1) := by decide +kernel
theorem dX9_soonest_118 : decode cX9_soonest 118 = .ok (.getfield 71, 3) := by decide +kernel
theorem dX9_soonest_121 : decode cX9_soonest 121 = .ok (.if_icmp .ge 41, 3) := by decide +kernel
theorem dX9_soonest_124 : decode cX9_soonest 124 = .ok (.aload_n 0, 1) := by decide +kernel
theorem dX9_soonest_125 : decode cX9_soonest 125 = .ok (.getfield 62, 3) := by decide +kernel
theorem dX9_soonest_128 : decode cX9_soonest 128 = .ok (.iconst 5, 1) := by decide +kernel
theorem dX9_soonest_129 : decode cX9_soonest 129 = .ok (.iload 4, 2) := by decide +kernel
theorem dX9_soonest_131 : decode cX9_soonest 131 = .ok (.imul, 1) := by decide +kernel
theorem dX9_soonest_132 : decode cX9_soonest 132 = .ok (.aload_n 0, 1) := by decide +kernel
theorem dX9_soonest_133 : decode cX9_soonest 133 = .ok (.getfield 53, 3) := by decide +kernel
theorem dX9_soonest_136 : decode cX9_soonest 136 = .ok (.iload 4, 2) := by decide +kernel
theorem dX9_soonest_138 : decode cX9_soonest 138 = .ok (.iaload, 1) := by decide +kernel
theorem dX9_soonest_139 : decode cX9_soonest 139 = .ok (.iadd, 1) := by decide +kernel
theorem dX9_soonest_140 : decode cX9_soonest 140 = .ok (.iaload, 1) := by decide +kernel
theorem dX9_soonest_141 : decode cX9_soonest 141 = .ok (.istore 5, 2) := by decide +kernel
theorem dX9_soonest_143 : decode cX9_soonest 143 = .ok (.iload 5, 2) := by decide +kernel
theorem dX9_soonest_145 : decode cX9_soonest 145 = .ok (.iload_n 3, 1) := by decide +kernel
theorem dX9_soonest_146 : decode cX9_soonest 146 = .ok (.if_icmp .le 8, 3) := by decide +kernel
theorem dX9_soonest_149 : decode cX9_soonest 149 = .ok (.iload 5, 2) := by decide +kernel
theorem dX9_soonest_151 : decode cX9_soonest 151 = .ok (.goto 4, 3) := by decide +kernel
theorem dX9_soonest_154 : decode cX9_soonest 154 = .ok (.iload_n 3, 1) := by decide +kernel
theorem dX9_soonest_155 : decode cX9_soonest 155 = .ok (.istore_n 3, 1) := by decide +kernel
theorem dX9_soonest_156 : decode cX9_soonest 156 = .ok (.iinc 4 1, 3) := by decide +kernel
theorem dX9_soonest_159 : decode cX9_soonest 159 = .ok (.goto (-44), 3) := by decide +kernel
theorem dX9_soonest_162 : decode cX9_soonest 162 = .ok (.iload_n 3, 1) := by decide +kernel
theorem dX9_soonest_163 : decode cX9_soonest 163 = .ok (.iload_n 1, 1) := by decide +kernel
theorem dX9_soonest_164 : decode cX9_soonest 164 = .ok (.if_icmp .ge 7, 3) := by decide +kernel
theorem dX9_soonest_167 : decode cX9_soonest 167 = .ok (.iload_n 3, 1) := by decide +kernel
theorem dX9_soonest_168 : decode cX9_soonest 168 = .ok (.goto 4, 3) := by decide +kernel
theorem dX9_soonest_171 : decode cX9_soonest 171 = .ok (.iload_n 1, 1) := by decide +kernel
theorem dX9_soonest_172 : decode cX9_soonest 172 = .ok (.istore_n 1, 1) := by decide +kernel
theorem dX9_soonest_173 : decode cX9_soonest 173 = .ok (.iinc 2 1, 3) := by decide +kernel
theorem dX9_soonest_176 : decode cX9_soonest 176 = .ok (.goto (-82), 3) := by decide +kernel
theorem dX9_soonest_179 : decode cX9_soonest 179 = .ok (.iload_n 1, 1) := by decide +kernel
theorem dX9_soonest_180 : decode cX9_soonest 180 = .ok (.ldc 200, 2) := by decide +kernel
theorem dX9_soonest_182 : decode cX9_soonest 182 = .ok (.if_icmp .ne 8, 3) := by decide +kernel
theorem dX9_soonest_185 : decode cX9_soonest 185 = .ok (.bipush (-9), 2) := by decide +kernel
theorem dX9_soonest_187 : decode cX9_soonest 187 = .ok (.goto 4, 3) := by decide +kernel
theorem dX9_soonest_190 : decode cX9_soonest 190 = .ok (.iload_n 1, 1) := by decide +kernel
theorem dX9_soonest_191 : decode cX9_soonest 191 = .ok (.ireturn, 1) := by decide +kernel
theorem dX9_worthBehind_0 : decode cX9_worthBehind 0 = .ok (.bipush 50, 2) := by decide +kernel
theorem dX9_worthBehind_2 : decode cX9_worthBehind 2 = .ok (.aload_n 0, 1) := by decide +kernel
theorem dX9_worthBehind_3 : decode cX9_worthBehind 3 = .ok (.iload_n 1, 1) := by decide +kernel
theorem dX9_worthBehind_4 : decode cX9_worthBehind 4 = .ok (.iload_n 2, 1) := by decide +kernel
theorem dX9_worthBehind_5 : decode cX9_worthBehind 5 = .ok (.invokevirtual 191, 3) := by decide +kernel
theorem dX9_worthBehind_8 : decode cX9_worthBehind 8 = .ok (.isub, 1) := by decide +kernel
theorem dX9_worthBehind_9 : decode cX9_worthBehind 9 = .ok (.istore_n 3, 1) := by decide +kernel
theorem dX9_worthBehind_10 : decode cX9_worthBehind 10 = .ok (.iload_n 3, 1) := by decide +kernel
theorem dX9_worthBehind_11 : decode cX9_worthBehind 11 = .ok (.ifCond .le 7, 3) := by decide +kernel
theorem dX9_worthBehind_14 : decode cX9_worthBehind 14 = .ok (.iload_n 3, 1) := by decide +kernel
theorem dX9_worthBehind_15 : decode cX9_worthBehind 15 = .ok (.goto 4, 3) := by decide +kernel
theorem dX9_worthBehind_18 : decode cX9_worthBehind 18 = .ok (.iconst 0, 1) := by decide +kernel
theorem dX9_worthBehind_19 : decode cX9_worthBehind 19 = .ok (.iconst 2, 1) := by decide +kernel
theorem dX9_worthBehind_20 : decode cX9_worthBehind 20 = .ok (.iload_n 2, 1) := by decide +kernel
theorem dX9_worthBehind_21 : decode cX9_worthBehind 21 = .ok (.imul, 1) := by decide +kernel
theorem dX9_worthBehind_22 : decode cX9_worthBehind 22 = .ok (.isub, 1) := by decide +kernel
theorem dX9_worthBehind_23 : decode cX9_worthBehind 23 = .ok (.istore 4, 2) := by decide +kernel
theorem dX9_worthBehind_25 : decode cX9_worthBehind 25 = .ok (.aload_n 0, 1) := by decide +kernel
theorem dX9_worthBehind_26 : decode cX9_worthBehind 26 = .ok (.getfield 28, 3) := by decide +kernel
theorem dX9_worthBehind_29 : decode cX9_worthBehind 29 = .ok (.iconst 0, 1) := by decide +kernel
theorem dX9_worthBehind_30 : decode cX9_worthBehind 30 = .ok (.iaload, 1) := by decide +kernel
theorem dX9_worthBehind_31 : decode cX9_worthBehind 31 = .ok (.iload_n 2, 1) := by decide +kernel
theorem dX9_worthBehind_32 : decode cX9_worthBehind 32 = .ok (.iadd, 1) := by decide +kernel
theorem dX9_worthBehind_33 : decode cX9_worthBehind 33 = .ok (.aload_n 0, 1) := by decide +kernel
theorem dX9_worthBehind_34 : decode cX9_worthBehind 34 = .ok (.getfield 13, 3) := by decide +kernel
theorem dX9_worthBehind_37 : decode cX9_worthBehind 37 = .ok (.iload_n 1, 1) := by decide +kernel
theorem dX9_worthBehind_38 : decode cX9_worthBehind 38 = .ok (.iaload, 1) := by decide +kernel
theorem dX9_worthBehind_39 : decode cX9_worthBehind 39 = .ok (.if_icmp .le 11, 3) := by decide +kernel
theorem dX9_worthBehind_42 : decode cX9_worthBehind 42 = .ok (.iload 4, 2) := by decide +kernel
theorem dX9_worthBehind_44 : decode cX9_worthBehind 44 = .ok (.bipush 30, 2) := by decide +kernel
theorem dX9_worthBehind_46 : decode cX9_worthBehind 46 = .ok (.isub, 1) := by decide +kernel
theorem dX9_worthBehind_47 : decode cX9_worthBehind 47 = .ok (.goto 5, 3) := by decide +kernel
theorem dX9_worthBehind_50 : decode cX9_worthBehind 50 = .ok (.iload 4, 2) := by decide +kernel
theorem dX9_worthBehind_52 : decode cX9_worthBehind 52 = .ok (.ireturn, 1) := by decide +kernel
theorem dX9_best_0 : decode cX9_best 0 = .ok (.aload_n 0, 1) := by decide +kernel
theorem dX9_best_1 : decode cX9_best 1 = .ok (.iload_n 1, 1) := by decide +kernel
theorem dX9_best_2 : decode cX9_best 2 = .ok (.invokevirtual 149, 3) := by decide +kernel
theorem dX9_best_5 : decode cX9_best 5 = .ok (.ifCond .eq 13, 3) := by decide +kernel
theorem dX9_best_8 : decode cX9_best 8 = .ok (.iload_n 2, 1) := by decide +kernel
theorem dX9_best_9 : decode cX9_best 9 = .ok (.i2l, 1) := by decide +kernel
theorem dX9_best_10 : decode cX9_best 10 = .ok (.lconst 0, 1) := by decide +kernel
theorem dX9_best_11 : decode cX9_best 11 = .ok (.lconst 1, 1) := by decide +kernel
theorem dX9_best_12 : decode cX9_best 12 = .ok (.invokestatic 75, 3) := by decide +kernel
theorem dX9_best_15 : decode cX9_best 15 = .ok (.ifCond .ne 6, 3) := by decide +kernel
theorem dX9_best_18 : decode cX9_best 18 = .ok (.ldc 201, 2) := by decide +kernel
theorem dX9_best_20 : decode cX9_best 20 = .ok (.ireturn, 1) := by decide +kernel
theorem dX9_best_21 : decode cX9_best 21 = .ok (.iconst 0, 1) := by decide +kernel
theorem dX9_best_22 : decode cX9_best 22 = .ok (.istore_n 3, 1) := by decide +kernel
theorem dX9_best_23 : decode cX9_best 23 = .ok (.iconst 1, 1) := by decide +kernel
theorem dX9_best_24 : decode cX9_best 24 = .ok (.istore 4, 2) := by decide +kernel
theorem dX9_best_26 : decode cX9_best 26 = .ok (.iload 4, 2) := by decide +kernel
theorem dX9_best_28 : decode cX9_best 28 = .ok (.bipush 20, 2) := by decide +kernel
theorem dX9_best_30 : decode cX9_best 30 = .ok (.if_icmp .gt 32, 3) := by decide +kernel
theorem dX9_best_33 : decode cX9_best 33 = .ok (.aload_n 0, 1) := by decide +kernel
theorem dX9_best_34 : decode cX9_best 34 = .ok (.iload_n 1, 1) := by decide +kernel
theorem dX9_best_35 : decode cX9_best 35 = .ok (.iload 4, 2) := by decide +kernel
theorem dX9_best_37 : decode cX9_best 37 = .ok (.invokevirtual 202, 3) := by decide +kernel
theorem dX9_best_40 : decode cX9_best 40 = .ok (.aload_n 0, 1) := by decide +kernel
theorem dX9_best_41 : decode cX9_best 41 = .ok (.iload_n 1, 1) := by decide +kernel
theorem dX9_best_42 : decode cX9_best 42 = .ok (.iload_n 3, 1) := by decide +kernel
theorem dX9_best_43 : decode cX9_best 43 = .ok (.invokevirtual 202, 3) := by decide +kernel
theorem dX9_best_46 : decode cX9_best 46 = .ok (.if_icmp .le 8, 3) := by decide +kernel
theorem dX9_best_49 : decode cX9_best 49 = .ok (.iload 4, 2) := by decide +kernel
theorem dX9_best_51 : decode cX9_best 51 = .ok (.goto 4, 3) := by decide +kernel
theorem dX9_best_54 : decode cX9_best 54 = .ok (.iload_n 3, 1) := by decide +kernel
theorem dX9_best_55 : decode cX9_best 55 = .ok (.istore_n 3, 1) := by decide +kernel
theorem dX9_best_56 : decode cX9_best 56 = .ok (.iinc 4 1, 3) := by decide +kernel
theorem dX9_best_59 : decode cX9_best 59 = .ok (.goto (-33), 3) := by decide +kernel
theorem dX9_best_62 : decode cX9_best 62 = .ok (.iload_n 2, 1) := by decide +kernel
theorem dX9_best_63 : decode cX9_best 63 = .ok (.ifCond .ne 7, 3) := by decide +kernel
theorem dX9_best_66 : decode cX9_best 66 = .ok (.iload_n 3, 1) := by decide +kernel
theorem dX9_best_67 : decode cX9_best 67 = .ok (.goto 9, 3) := by decide +kernel
theorem dX9_best_70 : decode cX9_best 70 = .ok (.aload_n 0, 1) := by decide +kernel
theorem dX9_best_71 : decode cX9_best 71 = .ok (.iload_n 1, 1) := by decide +kernel
theorem dX9_best_72 : decode cX9_best 72 = .ok (.iload_n 3, 1) := by decide +kernel
theorem dX9_best_73 : decode cX9_best 73 = .ok (.invokevirtual 202, 3) := by decide +kernel
theorem dX9_best_76 : decode cX9_best 76 = .ok (.ireturn, 1) := by decide +kernel
theorem dX9_isBed_0 : decode cX9_isBed 0 = .ok (.iload_n 1, 1) := by decide +kernel
theorem dX9_isBed_1 : decode cX9_isBed 1 = .ok (.iload_n 2, 1) := by decide +kernel
theorem dX9_isBed_2 : decode cX9_isBed 2 = .ok (.if_icmp .eq 35, 3) := by decide +kernel
theorem dX9_isBed_5 : decode cX9_isBed 5 = .ok (.aload_n 0, 1) := by decide +kernel
theorem dX9_isBed_6 : decode cX9_isBed 6 = .ok (.getfield 16, 3) := by decide +kernel
theorem dX9_isBed_9 : decode cX9_isBed 9 = .ok (.iload_n 1, 1) := by decide +kernel
theorem dX9_isBed_10 : decode cX9_isBed 10 = .ok (.iaload, 1) := by decide +kernel
theorem dX9_isBed_11 : decode cX9_isBed 11 = .ok (.iload_n 2, 1) := by decide +kernel
theorem dX9_isBed_12 : decode cX9_isBed 12 = .ok (.invokestatic 205, 3) := by decide +kernel
theorem dX9_isBed_15 : decode cX9_isBed 15 = .ok (.ifCond .ne 22, 3) := by decide +kernel
theorem dX9_isBed_18 : decode cX9_isBed 18 = .ok (.aload_n 0, 1) := by decide +kernel
theorem dX9_isBed_19 : decode cX9_isBed 19 = .ok (.iload_n 1, 1) := by decide +kernel
theorem dX9_isBed_20 : decode cX9_isBed 20 = .ok (.invokevirtual 143, 3) := by decide +kernel
theorem dX9_isBed_23 : decode cX9_isBed 23 = .ok (.aload_n 0, 1) := by decide +kernel
theorem dX9_isBed_24 : decode cX9_isBed 24 = .ok (.iload_n 2, 1) := by decide +kernel
theorem dX9_isBed_25 : decode cX9_isBed 25 = .ok (.invokevirtual 143, 3) := by decide +kernel
theorem dX9_isBed_28 : decode cX9_isBed 28 = .ok (.iadd, 1) := by decide +kernel
theorem dX9_isBed_29 : decode cX9_isBed 29 = .ok (.iload_n 3, 1) := by decide +kernel
theorem dX9_isBed_30 : decode cX9_isBed 30 = .ok (.if_icmp .gt 7, 3) := by decide +kernel
theorem dX9_isBed_33 : decode cX9_isBed 33 = .ok (.iconst 1, 1) := by decide +kernel
theorem dX9_isBed_34 : decode cX9_isBed 34 = .ok (.goto 4, 3) := by decide +kernel
theorem dX9_isBed_37 : decode cX9_isBed 37 = .ok (.iconst 0, 1) := by decide +kernel
theorem dX9_isBed_38 : decode cX9_isBed 38 = .ok (.ireturn, 1) := by decide +kernel
theorem dX9_bedsBy_0 : decode cX9_bedsBy 0 = .ok (.iload_n 1, 1) := by decide +kernel
theorem dX9_bedsBy_1 : decode cX9_bedsBy 1 = .ok (.istore_n 3, 1) := by decide +kernel
theorem dX9_bedsBy_2 : decode cX9_bedsBy 2 = .ok (.iconst 0, 1) := by decide +kernel
theorem dX9_bedsBy_3 : decode cX9_bedsBy 3 = .ok (.istore 4, 2) := by decide +kernel
theorem dX9_bedsBy_5 : decode cX9_bedsBy 5 = .ok (.aload_n 0, 1) := by decide +kernel
theorem dX9_bedsBy_6 : decode cX9_bedsBy 6 = .ok (.getfield 71, 3) := by decide +kernel
theorem dX9_bedsBy_9 : decode cX9_bedsBy 9 = .ok (.iconst 1, 1) := by decide +kernel
theorem dX9_bedsBy_10 : decode cX9_bedsBy 10 = .ok (.isub, 1) := by decide +kernel
theorem dX9_bedsBy_11 : decode cX9_bedsBy 11 = .ok (.istore 5, 2) := by decide +kernel
theorem dX9_bedsBy_13 : decode cX9_bedsBy 13 = .ok (.iload 5, 2) := by decide +kernel
theorem dX9_bedsBy_15 : decode cX9_bedsBy 15 = .ok (.ifCond .lt 33, 3) := by decide +kernel
theorem dX9_bedsBy_18 : decode cX9_bedsBy 18 = .ok (.aload_n 0, 1) := by decide +kernel
theorem dX9_bedsBy_19 : decode cX9_bedsBy 19 = .ok (.getfield 65, 3) := by decide +kernel
theorem dX9_bedsBy_22 : decode cX9_bedsBy 22 = .ok (.iload 5, 2) := by decide +kernel
theorem dX9_bedsBy_24 : decode cX9_bedsBy 24 = .ok (.iload_n 3, 1) := by decide +kernel
theorem dX9_bedsBy_25 : decode cX9_bedsBy 25 = .ok (.aload_n 0, 1) := by decide +kernel
theorem dX9_bedsBy_26 : decode cX9_bedsBy 26 = .ok (.getfield 71, 3) := by decide +kernel
theorem dX9_bedsBy_29 : decode cX9_bedsBy 29 = .ok (.iconst 1, 1) := by decide +kernel
theorem dX9_bedsBy_30 : decode cX9_bedsBy 30 = .ok (.iadd, 1) := by decide +kernel
theorem dX9_bedsBy_31 : decode cX9_bedsBy 31 = .ok (.irem, 1) := by decide +kernel
theorem dX9_bedsBy_32 : decode cX9_bedsBy 32 = .ok (.iastore, 1) := by decide +kernel
theorem dX9_bedsBy_33 : decode cX9_bedsBy 33 = .ok (.iload_n 3, 1) := by decide +kernel
theorem dX9_bedsBy_34 : decode cX9_bedsBy 34 = .ok (.aload_n 0, 1) := by decide +kernel
theorem dX9_bedsBy_35 : decode cX9_bedsBy 35 = .ok (.getfield 71, 3) := by decide +kernel
theorem dX9_bedsBy_38 : decode cX9_bedsBy 38 = .ok (.iconst 1, 1) := by decide +kernel
theorem dX9_bedsBy_39 : decode cX9_bedsBy 39 = .ok (.iadd, 1) := by decide +kernel
theorem dX9_bedsBy_40 : decode cX9_bedsBy 40 = .ok (.idiv, 1) := by decide +kernel
theorem dX9_bedsBy_41 : decode cX9_bedsBy 41 = .ok (.istore_n 3, 1) := by decide +kernel
theorem dX9_bedsBy_42 : decode cX9_bedsBy 42 = .ok (.iinc 5 (-1), 3) := by decide +kernel
theorem dX9_bedsBy_45 : decode cX9_bedsBy 45 = .ok (.goto (-32), 3) := by decide +kernel
theorem dX9_bedsBy_48 : decode cX9_bedsBy 48 = .ok (.iconst 0, 1) := by decide +kernel
theorem dX9_bedsBy_49 : decode cX9_bedsBy 49 = .ok (.istore 5, 2) := by decide +kernel
theorem dX9_bedsBy_51 : decode cX9_bedsBy 51 = .ok (.iload 5, 2) := by decide +kernel
theorem dX9_bedsBy_53 : decode cX9_bedsBy 53 = .ok (.aload_n 0, 1) := by decide +kernel
theorem dX9_bedsBy_54 : decode cX9_bedsBy 54 = .ok (.getfield 71, 3) := by decide +kernel
theorem dX9_bedsBy_57 : decode cX9_bedsBy 57 = .ok (.if_icmp .ge 71, 3) := by decide +kernel
theorem dX9_bedsBy_60 : decode cX9_bedsBy 60 = .ok (.aload_n 0, 1) := by decide +kernel
theorem dX9_bedsBy_61 : decode cX9_bedsBy 61 = .ok (.getfield 65, 3) := by decide +kernel
theorem dX9_bedsBy_64 : decode cX9_bedsBy 64 = .ok (.iload 5, 2) := by decide +kernel
theorem dX9_bedsBy_66 : decode cX9_bedsBy 66 = .ok (.iaload, 1) := by decide +kernel
theorem dX9_bedsBy_67 : decode cX9_bedsBy 67 = .ok (.istore 6, 2) := by decide +kernel
theorem dX9_bedsBy_69 : decode cX9_bedsBy 69 = .ok (.iload 6, 2) := by decide +kernel
theorem dX9_bedsBy_71 : decode cX9_bedsBy 71 = .ok (.aload_n 0, 1) := by decide +kernel
theorem dX9_bedsBy_72 : decode cX9_bedsBy 72 = .ok (.getfield 71, 3) := by decide +kernel
theorem dX9_bedsBy_75 : decode cX9_bedsBy 75 = .ok (.if_icmp .ge 47, 3) := by decide +kernel
theorem dX9_bedsBy_78 : decode cX9_bedsBy 78 = .ok (.aload_n 0, 1) := by decide +kernel
theorem dX9_bedsBy_79 : decode cX9_bedsBy 79 = .ok (.getfield 65, 3) := by decide +kernel
theorem dX9_bedsBy_82 : decode cX9_bedsBy 82 = .ok (.iload 6, 2) := by decide +kernel
theorem dX9_bedsBy_84 : decode cX9_bedsBy 84 = .ok (.iaload, 1) := by decide +kernel
theorem dX9_bedsBy_85 : decode cX9_bedsBy 85 = .ok (.iload 5, 2) := by decide +kernel
theorem dX9_bedsBy_87 : decode cX9_bedsBy 87 = .ok (.if_icmp .ne 15, 3) := by decide +kernel
theorem dX9_bedsBy_90 : decode cX9_bedsBy 90 = .ok (.aload_n 0, 1) := by decide +kernel
theorem dX9_bedsBy_91 : decode cX9_bedsBy 91 = .ok (.iload 5, 2) := by decide +kernel
theorem dX9_bedsBy_93 : decode cX9_bedsBy 93 = .ok (.iload 6, 2) := by decide +kernel
theorem dX9_bedsBy_95 : decode cX9_bedsBy 95 = .ok (.iload_n 2, 1) := by decide +kernel
theorem dX9_bedsBy_96 : decode cX9_bedsBy 96 = .ok (.invokevirtual 208, 3) := by decide +kernel
theorem dX9_bedsBy_99 : decode cX9_bedsBy 99 = .ok (.ifCond .ne 6, 3) := by decide +kernel
theorem dX9_bedsBy_102 : decode cX9_bedsBy 102 = .ok (.bipush (-9), 2) := by decide +kernel
theorem dX9_bedsBy_104 : decode cX9_bedsBy 104 = .ok (.ireturn, 1) := by decide +kernel
theorem dX9_bedsBy_105 : decode cX9_bedsBy 105 = .ok (.iload 4, 2) := by decide +kernel
theorem dX9_bedsBy_107 : decode cX9_bedsBy 107 = .ok (.iload 6, 2) := by decide +kernel
theorem dX9_bedsBy_109 : decode cX9_bedsBy 109 = .ok (.iload 5, 2) := by decide +kernel
theorem dX9_bedsBy_111 : decode cX9_bedsBy 111 = .ok (.if_icmp .le 7, 3) := by decide +kernel
theorem dX9_bedsBy_114 : decode cX9_bedsBy 114 = .ok (.iconst 1, 1) := by decide +kernel
theorem dX9_bedsBy_115 : decode cX9_bedsBy 115 = .ok (.goto 4, 3) := by decide +kernel
theorem dX9_bedsBy_118 : decode cX9_bedsBy 118 = .ok (.iconst 0, 1) := by decide +kernel
theorem dX9_bedsBy_119 : decode cX9_bedsBy 119 = .ok (.iadd, 1) := by decide +kernel
theorem dX9_bedsBy_120 : decode cX9_bedsBy 120 = .ok (.istore 4, 2) := by decide +kernel
theorem dX9_bedsBy_122 : decode cX9_bedsBy 122 = .ok (.iinc 5 1, 3) := by decide +kernel
theorem dX9_bedsBy_125 : decode cX9_bedsBy 125 = .ok (.goto (-74), 3) := by decide +kernel
theorem dX9_bedsBy_128 : decode cX9_bedsBy 128 = .ok (.iload 4, 2) := by decide +kernel
theorem dX9_bedsBy_130 : decode cX9_bedsBy 130 = .ok (.ireturn, 1) := by decide +kernel
theorem dX9_beds_0 : decode cX9_beds 0 = .ok (.iload_n 1, 1) := by decide +kernel
theorem dX9_beds_1 : decode cX9_beds 1 = .ok (.i2l, 1) := by decide +kernel
theorem dX9_beds_2 : decode cX9_beds 2 = .ok (.lconst 0, 1) := by decide +kernel
theorem dX9_beds_3 : decode cX9_beds 3 = .ok (.ldc2_w 211, 3) := by decide +kernel
theorem dX9_beds_6 : decode cX9_beds 6 = .ok (.invokestatic 75, 3) := by decide +kernel
theorem dX9_beds_9 : decode cX9_beds 9 = .ok (.ifCond .eq 16, 3) := by decide +kernel
theorem dX9_beds_12 : decode cX9_beds 12 = .ok (.iload_n 2, 1) := by decide +kernel
theorem dX9_beds_13 : decode cX9_beds 13 = .ok (.iconst (-1), 1) := by decide +kernel
theorem dX9_beds_14 : decode cX9_beds 14 = .ok (.if_icmp .eq 13, 3) := by decide +kernel
theorem dX9_beds_17 : decode cX9_beds 17 = .ok (.aload_n 0, 1) := by decide +kernel
theorem dX9_beds_18 : decode cX9_beds 18 = .ok (.iload_n 2, 1) := by decide +kernel
theorem dX9_beds_19 : decode cX9_beds 19 = .ok (.invokevirtual 149, 3) := by decide +kernel
theorem dX9_beds_22 : decode cX9_beds 22 = .ok (.ifCond .ne 5, 3) := by decide +kernel
theorem dX9_beds_25 : decode cX9_beds 25 = .ok (.iconst (-1), 1) := by decide +kernel
theorem dX9_beds_26 : decode cX9_beds 26 = .ok (.ireturn, 1) := by decide +kernel
theorem dX9_beds_27 : decode cX9_beds 27 = .ok (.iconst 1, 1) := by decide +kernel
theorem dX9_beds_28 : decode cX9_beds 28 = .ok (.istore_n 3, 1) := by decide +kernel
theorem dX9_beds_29 : decode cX9_beds 29 = .ok (.iconst (-1), 1) := by decide +kernel
theorem dX9_beds_30 : decode cX9_beds 30 = .ok (.istore 4, 2) := by decide +kernel
theorem dX9_beds_32 : decode cX9_beds 32 = .ok (.iconst 0, 1) := by decide +kernel
theorem dX9_beds_33 : decode cX9_beds 33 = .ok (.istore 5, 2) := by decide +kernel
theorem dX9_beds_35 : decode cX9_beds 35 = .ok (.iload 5, 2) := by decide +kernel
theorem dX9_beds_37 : decode cX9_beds 37 = .ok (.aload_n 0, 1) := by decide +kernel
theorem dX9_beds_38 : decode cX9_beds 38 = .ok (.getfield 71, 3) := by decide +kernel
theorem dX9_beds_41 : decode cX9_beds 41 = .ok (.if_icmp .ge 18, 3) := by decide +kernel
theorem dX9_beds_44 : decode cX9_beds 44 = .ok (.iload_n 3, 1) := by decide +kernel
theorem dX9_beds_45 : decode cX9_beds 45 = .ok (.aload_n 0, 1) := by decide +kernel
theorem dX9_beds_46 : decode cX9_beds 46 = .ok (.getfield 71, 3) := by decide +kernel
theorem dX9_beds_49 : decode cX9_beds 49 = .ok (.iconst 1, 1) := by decide +kernel
theorem dX9_beds_50 : decode cX9_beds 50 = .ok (.iadd, 1) := by decide +kernel
theorem dX9_beds_51 : decode cX9_beds 51 = .ok (.imul, 1) := by decide +kernel
theorem dX9_beds_52 : decode cX9_beds 52 = .ok (.istore_n 3, 1) := by decide +kernel
theorem dX9_beds_53 : decode cX9_beds 53 = .ok (.iinc 5 1, 3) := by decide +kernel
theorem dX9_beds_56 : decode cX9_beds 56 = .ok (.goto (-21), 3) := by decide +kernel
theorem dX9_beds_59 : decode cX9_beds 59 = .ok (.iconst 0, 1) := by decide +kernel
theorem dX9_beds_60 : decode cX9_beds 60 = .ok (.istore 5, 2) := by decide +kernel
theorem dX9_beds_62 : decode cX9_beds 62 = .ok (.iload 5, 2) := by decide +kernel
theorem dX9_beds_64 : decode cX9_beds 64 = .ok (.iload_n 3, 1) := by decide +kernel
theorem dX9_beds_65 : decode cX9_beds 65 = .ok (.if_icmp .ge 61, 3) := by decide +kernel
theorem dX9_beds_68 : decode cX9_beds 68 = .ok (.aload_n 0, 1) := by decide +kernel
theorem dX9_beds_69 : decode cX9_beds 69 = .ok (.iload 5, 2) := by decide +kernel
theorem dX9_beds_71 : decode cX9_beds 71 = .ok (.iload_n 1, 1) := by decide +kernel
theorem dX9_beds_72 : decode cX9_beds 72 = .ok (.invokevirtual 213, 3) := by decide +kernel
theorem dX9_beds_75 : decode cX9_beds 75 = .ok (.istore 6, 2) := by decide +kernel
theorem dX9_beds_77 : decode cX9_beds 77 = .ok (.iload 6, 2) := by decide +kernel
theorem dX9_beds_79 : decode cX9_beds 79 = .ok (.iload 4, 2) := by decide +kernel
theorem dX9_beds_81 : decode cX9_beds 81 = .ok (.if_icmp .le 39, 3) := by decide +kernel
theorem dX9_beds_84 : decode cX9_beds 84 = .ok (.iload 6, 2) := by decide +kernel
theorem dX9_beds_86 : decode cX9_beds 86 = .ok (.istore 4, 2) := by decide +kernel
theorem dX9_beds_88 : decode cX9_beds 88 = .ok (.iconst 0, 1) := by decide +kernel
theorem dX9_beds_89 : decode cX9_beds 89 = .ok (.istore 7, 2) := by decide +kernel
theorem dX9_beds_91 : decode cX9_beds 91 = .ok (.iload 7, 2) := by decide +kernel
theorem dX9_beds_93 : decode cX9_beds 93 = .ok (.aload_n 0, 1) := by decide +kernel
theorem dX9_beds_94 : decode cX9_beds 94 = .ok (.getfield 71, 3) := by decide +kernel
theorem dX9_beds_97 : decode cX9_beds 97 = .ok (.if_icmp .ge 23, 3) := by decide +kernel
theorem dX9_beds_100 : decode cX9_beds 100 = .ok (.aload_n 0, 1) := by decide +kernel
theorem dX9_beds_101 : decode cX9_beds 101 = .ok (.getfield 68, 3) := by decide +kernel
theorem dX9_beds_104 : decode cX9_beds 104 = .ok (.iload 7, 2) := by decide +kernel
theorem dX9_beds_106 : decode cX9_beds 106 = .ok (.aload_n 0, 1) := by decide +kernel
theorem dX9_beds_107 : decode cX9_beds 107 = .ok (.getfield 65, 3) := by decide +kernel
theorem dX9_beds_110 : decode cX9_beds 110 = .ok (.iload 7, 2) := by decide +kernel
theorem dX9_beds_112 : decode cX9_beds 112 = .ok (.iaload, 1) := by decide +kernel
theorem dX9_beds_113 : decode cX9_beds 113 = .ok (.iastore, 1) := by decide +kernel
theorem dX9_beds_114 : decode cX9_beds 114 = .ok (.iinc 7 1, 3) := by decide +kernel
theorem dX9_beds_117 : decode cX9_beds 117 = .ok (.goto (-26), 3) := by decide +kernel
theorem dX9_beds_120 : decode cX9_beds 120 = .ok (.iinc 5 1, 3) := by decide +kernel
theorem dX9_beds_123 : decode cX9_beds 123 = .ok (.goto (-61), 3) := by decide +kernel
theorem dX9_beds_126 : decode cX9_beds 126 = .ok (.iload_n 2, 1) := by decide +kernel
theorem dX9_beds_127 : decode cX9_beds 127 = .ok (.iconst (-1), 1) := by decide +kernel
theorem dX9_beds_128 : decode cX9_beds 128 = .ok (.if_icmp .ne 8, 3) := by decide +kernel
theorem dX9_beds_131 : decode cX9_beds 131 = .ok (.iload 4, 2) := by decide +kernel
theorem dX9_beds_133 : decode cX9_beds 133 = .ok (.goto 27, 3) := by decide +kernel
theorem dX9_beds_136 : decode cX9_beds 136 = .ok (.aload_n 0, 1) := by decide +kernel
theorem dX9_beds_137 : decode cX9_beds 137 = .ok (.getfield 68, 3) := by decide +kernel
theorem dX9_beds_140 : decode cX9_beds 140 = .ok (.iload_n 2, 1) := by decide +kernel
theorem dX9_beds_141 : decode cX9_beds 141 = .ok (.iaload, 1) := by decide +kernel
theorem dX9_beds_142 : decode cX9_beds 142 = .ok (.aload_n 0, 1) := by decide +kernel
theorem dX9_beds_143 : decode cX9_beds 143 = .ok (.getfield 71, 3) := by decide +kernel
theorem dX9_beds_146 : decode cX9_beds 146 = .ok (.if_icmp .ne 8, 3) := by decide +kernel
theorem dX9_beds_149 : decode cX9_beds 149 = .ok (.bipush (-9), 2) := by decide +kernel
theorem dX9_beds_151 : decode cX9_beds 151 = .ok (.goto 9, 3) := by decide +kernel
theorem dX9_beds_154 : decode cX9_beds 154 = .ok (.aload_n 0, 1) := by decide +kernel
theorem dX9_beds_155 : decode cX9_beds 155 = .ok (.getfield 68, 3) := by decide +kernel
theorem dX9_beds_158 : decode cX9_beds 158 = .ok (.iload_n 2, 1) := by decide +kernel
theorem dX9_beds_159 : decode cX9_beds 159 = .ok (.iaload, 1) := by decide +kernel
theorem dX9_beds_160 : decode cX9_beds 160 = .ok (.ireturn, 1) := by decide +kernel
theorem dX9_odds_0 : decode cX9_odds 0 = .ok (.iload_n 1, 1) := by decide +kernel
theorem dX9_odds_1 : decode cX9_odds 1 = .ok (.i2l, 1) := by decide +kernel
theorem dX9_odds_2 : decode cX9_odds 2 = .ok (.lconst 0, 1) := by decide +kernel
theorem dX9_odds_3 : decode cX9_odds 3 = .ok (.ldc2_w 216, 3) := by decide +kernel
theorem dX9_odds_6 : decode cX9_odds 6 = .ok (.invokestatic 75, 3) := by decide +kernel
theorem dX9_odds_9 : decode cX9_odds 9 = .ok (.ifCond .eq 25, 3) := by decide +kernel
theorem dX9_odds_12 : decode cX9_odds 12 = .ok (.iload_n 2, 1) := by decide +kernel
theorem dX9_odds_13 : decode cX9_odds 13 = .ok (.i2l, 1) := by decide +kernel
theorem dX9_odds_14 : decode cX9_odds 14 = .ok (.lconst 0, 1) := by decide +kernel
theorem dX9_odds_15 : decode cX9_odds 15 = .ok (.ldc2_w 152, 3) := by decide +kernel
theorem dX9_odds_18 : decode cX9_odds 18 = .ok (.invokestatic 75, 3) := by decide +kernel
theorem dX9_odds_21 : decode cX9_odds 21 = .ok (.ifCond .eq 13, 3) := by decide +kernel
theorem dX9_odds_24 : decode cX9_odds 24 = .ok (.iload_n 3, 1) := by decide +kernel
theorem dX9_odds_25 : decode cX9_odds 25 = .ok (.i2l, 1) := by decide +kernel
theorem dX9_odds_26 : decode cX9_odds 26 = .ok (.lconst 0, 1) := by decide +kernel
theorem dX9_odds_27 : decode cX9_odds 27 = .ok (.lconst 1, 1) := by decide +kernel
theorem dX9_odds_28 : decode cX9_odds 28 = .ok (.invokestatic 75, 3) := by decide +kernel
theorem dX9_odds_31 : decode cX9_odds 31 = .ok (.ifCond .ne 5, 3) := by decide +kernel
theorem dX9_odds_34 : decode cX9_odds 34 = .ok (.iconst (-1), 1) := by decide +kernel
theorem dX9_odds_35 : decode cX9_odds 35 = .ok (.ireturn, 1) := by decide +kernel
theorem dX9_odds_36 : decode cX9_odds 36 = .ok (.aload_n 0, 1) := by decide +kernel
theorem dX9_odds_37 : decode cX9_odds 37 = .ok (.getfield 71, 3) := by decide +kernel
theorem dX9_odds_40 : decode cX9_odds 40 = .ok (.aload_n 0, 1) := by decide +kernel
theorem dX9_odds_41 : decode cX9_odds 41 = .ok (.invokevirtual 179, 3) := by decide +kernel
theorem dX9_odds_44 : decode cX9_odds 44 = .ok (.invokestatic 146, 3) := by decide +kernel
theorem dX9_odds_47 : decode cX9_odds 47 = .ok (.isub, 1) := by decide +kernel
theorem dX9_odds_48 : decode cX9_odds 48 = .ok (.istore 4, 2) := by decide +kernel
theorem dX9_odds_50 : decode cX9_odds 50 = .ok (.iconst 0, 1) := by decide +kernel
theorem dX9_odds_51 : decode cX9_odds 51 = .ok (.istore 5, 2) := by decide +kernel
theorem dX9_odds_53 : decode cX9_odds 53 = .ok (.iconst 1, 1) := by decide +kernel
theorem dX9_odds_54 : decode cX9_odds 54 = .ok (.istore 6, 2) := by decide +kernel
theorem dX9_odds_56 : decode cX9_odds 56 = .ok (.iconst 0, 1) := by decide +kernel
theorem dX9_odds_57 : decode cX9_odds 57 = .ok (.istore 7, 2) := by decide +kernel
theorem dX9_odds_59 : decode cX9_odds 59 = .ok (.iload 7, 2) := by decide +kernel
theorem dX9_odds_61 : decode cX9_odds 61 = .ok (.iload 4, 2) := by decide +kernel
theorem dX9_odds_63 : decode cX9_odds 63 = .ok (.if_icmp .ge 16, 3) := by decide +kernel
theorem dX9_odds_66 : decode cX9_odds 66 = .ok (.iload 6, 2) := by decide +kernel
theorem dX9_odds_68 : decode cX9_odds 68 = .ok (.bipush 10, 2) := by decide +kernel
theorem dX9_odds_70 : decode cX9_odds 70 = .ok (.imul, 1) := by decide +kernel
theorem dX9_odds_71 : decode cX9_odds 71 = .ok (.istore 6, 2) := by decide +kernel
theorem dX9_odds_73 : decode cX9_odds 73 = .ok (.iinc 7 1, 3) := by decide +kernel
theorem dX9_odds_76 : decode cX9_odds 76 = .ok (.goto (-17), 3) := by decide +kernel
theorem dX9_odds_79 : decode cX9_odds 79 = .ok (.iconst 0, 1) := by decide +kernel
theorem dX9_odds_80 : decode cX9_odds 80 = .ok (.istore 7, 2) := by decide +kernel
theorem dX9_odds_82 : decode cX9_odds 82 = .ok (.iload 7, 2) := by decide +kernel
theorem dX9_odds_84 : decode cX9_odds 84 = .ok (.iconst 1, 1) := by decide +kernel
theorem dX9_odds_85 : decode cX9_odds 85 = .ok (.iload 4, 2) := by decide +kernel
theorem dX9_odds_87 : decode cX9_odds 87 = .ok (.ishl, 1) := by decide +kernel
theorem dX9_odds_88 : decode cX9_odds 88 = .ok (.if_icmp .ge 71, 3) := by decide +kernel
theorem dX9_odds_91 : decode cX9_odds 91 = .ok (.iload 7, 2) := by decide +kernel
theorem dX9_odds_93 : decode cX9_odds 93 = .ok (.invokestatic 146, 3) := by decide +kernel
theorem dX9_odds_96 : decode cX9_odds 96 = .ok (.iload_n 2, 1) := by decide +kernel
theorem dX9_odds_97 : decode cX9_odds 97 = .ok (.if_icmp .gt 7, 3) := by decide +kernel
theorem dX9_odds_100 : decode cX9_odds 100 = .ok (.iconst 1, 1) := by decide +kernel
theorem dX9_odds_101 : decode cX9_odds 101 = .ok (.goto 4, 3) := by decide +kernel
theorem dX9_odds_104 : decode cX9_odds 104 = .ok (.iconst 0, 1) := by decide +kernel
theorem dX9_odds_105 : decode cX9_odds 105 = .ok (.istore 8, 2) := by decide +kernel
theorem dX9_odds_107 : decode cX9_odds 107 = .ok (.iconst 0, 1) := by decide +kernel
theorem dX9_odds_108 : decode cX9_odds 108 = .ok (.istore 9, 2) := by decide +kernel
theorem dX9_odds_110 : decode cX9_odds 110 = .ok (.iload 9, 2) := by decide +kernel
theorem dX9_odds_112 : decode cX9_odds 112 = .ok (.iload 4, 2) := by decide +kernel
theorem dX9_odds_114 : decode cX9_odds 114 = .ok (.if_icmp .ge 32, 3) := by decide +kernel
theorem dX9_odds_117 : decode cX9_odds 117 = .ok (.iload 8, 2) := by decide +kernel
theorem dX9_odds_119 : decode cX9_odds 119 = .ok (.iload 7, 2) := by decide +kernel
theorem dX9_odds_121 : decode cX9_odds 121 = .ok (.iload 9, 2) := by decide +kernel
theorem dX9_odds_123 : decode cX9_odds 123 = .ok (.invokestatic 205, 3) := by decide +kernel
theorem dX9_odds_126 : decode cX9_odds 126 = .ok (.ifCond .eq 7, 3) := by decide +kernel
theorem dX9_odds_129 : decode cX9_odds 129 = .ok (.iload_n 1, 1) := by decide +kernel
theorem dX9_odds_130 : decode cX9_odds 130 = .ok (.goto 7, 3) := by decide +kernel
theorem dX9_odds_133 : decode cX9_odds 133 = .ok (.bipush 10, 2) := by decide +kernel
theorem dX9_odds_135 : decode cX9_odds 135 = .ok (.iload_n 1, 1) := by decide +kernel
theorem dX9_odds_136 : decode cX9_odds 136 = .ok (.isub, 1) := by decide +kernel
theorem dX9_odds_137 : decode cX9_odds 137 = .ok (.imul, 1) := by decide +kernel
theorem dX9_odds_138 : decode cX9_odds 138 = .ok (.istore 8, 2) := by decide +kernel
theorem dX9_odds_140 : decode cX9_odds 140 = .ok (.iinc 9 1, 3) := by decide +kernel
theorem dX9_odds_143 : decode cX9_odds 143 = .ok (.goto (-33), 3) := by decide +kernel
theorem dX9_odds_146 : decode cX9_odds 146 = .ok (.iload 5, 2) := by decide +kernel
theorem dX9_odds_148 : decode cX9_odds 148 = .ok (.iload 8, 2) := by decide +kernel
theorem dX9_odds_150 : decode cX9_odds 150 = .ok (.iadd, 1) := by decide +kernel
theorem dX9_odds_151 : decode cX9_odds 151 = .ok (.istore 5, 2) := by decide +kernel
theorem dX9_odds_153 : decode cX9_odds 153 = .ok (.iinc 7 1, 3) := by decide +kernel
theorem dX9_odds_156 : decode cX9_odds 156 = .ok (.goto (-74), 3) := by decide +kernel
theorem dX9_odds_159 : decode cX9_odds 159 = .ok (.iload 5, 2) := by decide +kernel
theorem dX9_odds_161 : decode cX9_odds 161 = .ok (.istore 7, 2) := by decide +kernel
theorem dX9_odds_163 : decode cX9_odds 163 = .ok (.iload 6, 2) := by decide +kernel
theorem dX9_odds_165 : decode cX9_odds 165 = .ok (.istore 8, 2) := by decide +kernel
theorem dX9_odds_167 : decode cX9_odds 167 = .ok (.iload 8, 2) := by decide +kernel
theorem dX9_odds_169 : decode cX9_odds 169 = .ok (.ifCond .eq 21, 3) := by decide +kernel
theorem dX9_odds_172 : decode cX9_odds 172 = .ok (.iload 7, 2) := by decide +kernel
theorem dX9_odds_174 : decode cX9_odds 174 = .ok (.iload 8, 2) := by decide +kernel
theorem dX9_odds_176 : decode cX9_odds 176 = .ok (.irem, 1) := by decide +kernel
theorem dX9_odds_177 : decode cX9_odds 177 = .ok (.istore 9, 2) := by decide +kernel
theorem dX9_odds_179 : decode cX9_odds 179 = .ok (.iload 8, 2) := by decide +kernel
theorem dX9_odds_181 : decode cX9_odds 181 = .ok (.istore 7, 2) := by decide +kernel
theorem dX9_odds_183 : decode cX9_odds 183 = .ok (.iload 9, 2) := by decide +kernel
theorem dX9_odds_185 : decode cX9_odds 185 = .ok (.istore 8, 2) := by decide +kernel
theorem dX9_odds_187 : decode cX9_odds 187 = .ok (.goto (-20), 3) := by decide +kernel
theorem dX9_odds_190 : decode cX9_odds 190 = .ok (.iload_n 3, 1) := by decide +kernel
theorem dX9_odds_191 : decode cX9_odds 191 = .ok (.ifCond .ne 11, 3) := by decide +kernel
theorem dX9_odds_194 : decode cX9_odds 194 = .ok (.iload 5, 2) := by decide +kernel
theorem dX9_odds_196 : decode cX9_odds 196 = .ok (.iload 7, 2) := by decide +kernel
theorem dX9_odds_198 : decode cX9_odds 198 = .ok (.idiv, 1) := by decide +kernel
theorem dX9_odds_199 : decode cX9_odds 199 = .ok (.goto 8, 3) := by decide +kernel
theorem dX9_odds_202 : decode cX9_odds 202 = .ok (.iload 6, 2) := by decide +kernel
theorem dX9_odds_204 : decode cX9_odds 204 = .ok (.iload 7, 2) := by decide +kernel
theorem dX9_odds_206 : decode cX9_odds 206 = .ok (.idiv, 1) := by decide +kernel
theorem dX9_odds_207 : decode cX9_odds 207 = .ok (.ireturn, 1) := by decide +kernel
theorem dX9_hears_0 : decode cX9_hears 0 = .ok (.iload_n 1, 1) := by decide +kernel
theorem dX9_hears_1 : decode cX9_hears 1 = .ok (.i2l, 1) := by decide +kernel
theorem dX9_hears_2 : decode cX9_hears 2 = .ok (.lconst 0, 1) := by decide +kernel
theorem dX9_hears_3 : decode cX9_hears 3 = .ok (.ldc2_w 189, 3) := by decide +kernel
theorem dX9_hears_6 : decode cX9_hears 6 = .ok (.invokestatic 75, 3) := by decide +kernel
theorem dX9_hears_9 : decode cX9_hears 9 = .ok (.ifCond .eq 13, 3) := by decide +kernel
theorem dX9_hears_12 : decode cX9_hears 12 = .ok (.iload_n 2, 1) := by decide +kernel
theorem dX9_hears_13 : decode cX9_hears 13 = .ok (.i2l, 1) := by decide +kernel
theorem dX9_hears_14 : decode cX9_hears 14 = .ok (.lconst 0, 1) := by decide +kernel
theorem dX9_hears_15 : decode cX9_hears 15 = .ok (.lconst 1, 1) := by decide +kernel
theorem dX9_hears_16 : decode cX9_hears 16 = .ok (.invokestatic 75, 3) := by decide +kernel
theorem dX9_hears_19 : decode cX9_hears 19 = .ok (.ifCond .ne 5, 3) := by decide +kernel
theorem dX9_hears_22 : decode cX9_hears 22 = .ok (.iconst (-1), 1) := by decide +kernel
theorem dX9_hears_23 : decode cX9_hears 23 = .ok (.ireturn, 1) := by decide +kernel
theorem dX9_hears_24 : decode cX9_hears 24 = .ok (.aload_n 0, 1) := by decide +kernel
theorem dX9_hears_25 : decode cX9_hears 25 = .ok (.getfield 130, 3) := by decide +kernel
theorem dX9_hears_28 : decode cX9_hears 28 = .ok (.iconst 4, 1) := by decide +kernel
theorem dX9_hears_29 : decode cX9_hears 29 = .ok (.if_icmp .ne 6, 3) := by decide +kernel
theorem dX9_hears_32 : decode cX9_hears 32 = .ok (.bipush (-3), 2) := by decide +kernel
theorem dX9_hears_34 : decode cX9_hears 34 = .ok (.ireturn, 1) := by decide +kernel
theorem dX9_hears_35 : decode cX9_hears 35 = .ok (.aload_n 0, 1) := by decide +kernel
theorem dX9_hears_36 : decode cX9_hears 36 = .ok (.getfield 38, 3) := by decide +kernel
theorem dX9_hears_39 : decode cX9_hears 39 = .ok (.aload_n 0, 1) := by decide +kernel
theorem dX9_hears_40 : decode cX9_hears 40 = .ok (.getfield 130, 3) := by decide +kernel
theorem dX9_hears_43 : decode cX9_hears 43 = .ok (.iload_n 1, 1) := by decide +kernel
theorem dX9_hears_44 : decode cX9_hears 44 = .ok (.iastore, 1) := by decide +kernel
theorem dX9_hears_45 : decode cX9_hears 45 = .ok (.aload_n 0, 1) := by decide +kernel
theorem dX9_hears_46 : decode cX9_hears 46 = .ok (.getfield 41, 3) := by decide +kernel
theorem dX9_hears_49 : decode cX9_hears 49 = .ok (.aload_n 0, 1) := by decide +kernel
theorem dX9_hears_50 : decode cX9_hears 50 = .ok (.getfield 130, 3) := by decide +kernel
theorem dX9_hears_53 : decode cX9_hears 53 = .ok (.iload_n 2, 1) := by decide +kernel
theorem dX9_hears_54 : decode cX9_hears 54 = .ok (.iastore, 1) := by decide +kernel
theorem dX9_hears_55 : decode cX9_hears 55 = .ok (.aload_n 0, 1) := by decide +kernel
theorem dX9_hears_56 : decode cX9_hears 56 = .ok (.dup, 1) := by decide +kernel
theorem dX9_hears_57 : decode cX9_hears 57 = .ok (.getfield 130, 3) := by decide +kernel
theorem dX9_hears_60 : decode cX9_hears 60 = .ok (.iconst 1, 1) := by decide +kernel
theorem dX9_hears_61 : decode cX9_hears 61 = .ok (.iadd, 1) := by decide +kernel
theorem dX9_hears_62 : decode cX9_hears 62 = .ok (.putfield 130, 3) := by decide +kernel
theorem dX9_hears_65 : decode cX9_hears 65 = .ok (.aload_n 0, 1) := by decide +kernel
theorem dX9_hears_66 : decode cX9_hears 66 = .ok (.getfield 130, 3) := by decide +kernel
theorem dX9_hears_69 : decode cX9_hears 69 = .ok (.ireturn, 1) := by decide +kernel
theorem dX9_forget_0 : decode cX9_forget 0 = .ok (.aload_n 0, 1) := by decide +kernel
theorem dX9_forget_1 : decode cX9_forget 1 = .ok (.getfield 130, 3) := by decide +kernel
theorem dX9_forget_4 : decode cX9_forget 4 = .ok (.istore_n 1, 1) := by decide +kernel
theorem dX9_forget_5 : decode cX9_forget 5 = .ok (.aload_n 0, 1) := by decide +kernel
theorem dX9_forget_6 : decode cX9_forget 6 = .ok (.iconst 0, 1) := by decide +kernel
theorem dX9_forget_7 : decode cX9_forget 7 = .ok (.putfield 130, 3) := by decide +kernel
theorem dX9_forget_10 : decode cX9_forget 10 = .ok (.iload_n 1, 1) := by decide +kernel
theorem dX9_forget_11 : decode cX9_forget 11 = .ok (.ireturn, 1) := by decide +kernel
theorem dX9_whose_0 : decode cX9_whose 0 = .ok (.iconst 0, 1) := by decide +kernel
theorem dX9_whose_1 : decode cX9_whose 1 = .ok (.istore_n 1, 1) := by decide +kernel
theorem dX9_whose_2 : decode cX9_whose 2 = .ok (.iconst 0, 1) := by decide +kernel
theorem dX9_whose_3 : decode cX9_whose 3 = .ok (.istore_n 2, 1) := by decide +kernel
theorem dX9_whose_4 : decode cX9_whose 4 = .ok (.iload_n 2, 1) := by decide +kernel
theorem dX9_whose_5 : decode cX9_whose 5 = .ok (.aload_n 0, 1) := by decide +kernel
theorem dX9_whose_6 : decode cX9_whose 6 = .ok (.getfield 71, 3) := by decide +kernel
theorem dX9_whose_9 : decode cX9_whose 9 = .ok (.if_icmp .ge 92, 3) := by decide +kernel
theorem dX9_whose_12 : decode cX9_whose 12 = .ok (.iconst 1, 1) := by decide +kernel
theorem dX9_whose_13 : decode cX9_whose 13 = .ok (.istore_n 3, 1) := by decide +kernel
theorem dX9_whose_14 : decode cX9_whose 14 = .ok (.iconst 0, 1) := by decide +kernel
theorem dX9_whose_15 : decode cX9_whose 15 = .ok (.istore 4, 2) := by decide +kernel
theorem dX9_whose_17 : decode cX9_whose 17 = .ok (.iload 4, 2) := by decide +kernel
theorem dX9_whose_19 : decode cX9_whose 19 = .ok (.aload_n 0, 1) := by decide +kernel
theorem dX9_whose_20 : decode cX9_whose 20 = .ok (.getfield 130, 3) := by decide +kernel
theorem dX9_whose_23 : decode cX9_whose 23 = .ok (.if_icmp .ge 58, 3) := by decide +kernel
theorem dX9_whose_26 : decode cX9_whose 26 = .ok (.iload_n 3, 1) := by decide +kernel
theorem dX9_whose_27 : decode cX9_whose 27 = .ok (.ifCond .eq 46, 3) := by decide +kernel
theorem dX9_whose_30 : decode cX9_whose 30 = .ok (.aload_n 0, 1) := by decide +kernel
theorem dX9_whose_31 : decode cX9_whose 31 = .ok (.iload_n 2, 1) := by decide +kernel
theorem dX9_whose_32 : decode cX9_whose 32 = .ok (.invokevirtual 143, 3) := by decide +kernel
theorem dX9_whose_35 : decode cX9_whose 35 = .ok (.aload_n 0, 1) := by decide +kernel
theorem dX9_whose_36 : decode cX9_whose 36 = .ok (.getfield 38, 3) := by decide +kernel
theorem dX9_whose_39 : decode cX9_whose 39 = .ok (.iload 4, 2) := by decide +kernel
theorem dX9_whose_41 : decode cX9_whose 41 = .ok (.iaload, 1) := by decide +kernel
theorem dX9_whose_42 : decode cX9_whose 42 = .ok (.if_icmp .lt 7, 3) := by decide +kernel
theorem dX9_whose_45 : decode cX9_whose 45 = .ok (.iconst 1, 1) := by decide +kernel
theorem dX9_whose_46 : decode cX9_whose 46 = .ok (.goto 4, 3) := by decide +kernel
theorem dX9_whose_49 : decode cX9_whose 49 = .ok (.iconst 0, 1) := by decide +kernel
theorem dX9_whose_50 : decode cX9_whose 50 = .ok (.aload_n 0, 1) := by decide +kernel
theorem dX9_whose_51 : decode cX9_whose 51 = .ok (.getfield 41, 3) := by decide +kernel
theorem dX9_whose_54 : decode cX9_whose 54 = .ok (.iload 4, 2) := by decide +kernel
theorem dX9_whose_56 : decode cX9_whose 56 = .ok (.iaload, 1) := by decide +kernel
theorem dX9_whose_57 : decode cX9_whose 57 = .ok (.iconst 1, 1) := by decide +kernel
theorem dX9_whose_58 : decode cX9_whose 58 = .ok (.if_icmp .ne 7, 3) := by decide +kernel
theorem dX9_whose_61 : decode cX9_whose 61 = .ok (.iconst 1, 1) := by decide +kernel
theorem dX9_whose_62 : decode cX9_whose 62 = .ok (.goto 4, 3) := by decide +kernel
theorem dX9_whose_65 : decode cX9_whose 65 = .ok (.iconst 0, 1) := by decide +kernel
theorem dX9_whose_66 : decode cX9_whose 66 = .ok (.if_icmp .ne 7, 3) := by decide +kernel
theorem dX9_whose_69 : decode cX9_whose 69 = .ok (.iconst 1, 1) := by decide +kernel
theorem dX9_whose_70 : decode cX9_whose 70 = .ok (.goto 4, 3) := by decide +kernel
theorem dX9_whose_73 : decode cX9_whose 73 = .ok (.iconst 0, 1) := by decide +kernel
theorem dX9_whose_74 : decode cX9_whose 74 = .ok (.istore_n 3, 1) := by decide +kernel
theorem dX9_whose_75 : decode cX9_whose 75 = .ok (.iinc 4 1, 3) := by decide +kernel
theorem dX9_whose_78 : decode cX9_whose 78 = .ok (.goto (-61), 3) := by decide +kernel
theorem dX9_whose_81 : decode cX9_whose 81 = .ok (.iload_n 1, 1) := by decide +kernel
theorem dX9_whose_82 : decode cX9_whose 82 = .ok (.iload_n 3, 1) := by decide +kernel
theorem dX9_whose_83 : decode cX9_whose 83 = .ok (.ifCond .eq 9, 3) := by decide +kernel
theorem dX9_whose_86 : decode cX9_whose 86 = .ok (.iconst 1, 1) := by decide +kernel
theorem dX9_whose_87 : decode cX9_whose 87 = .ok (.iload_n 2, 1) := by decide +kernel
theorem dX9_whose_88 : decode cX9_whose 88 = .ok (.ishl, 1) := by decide +kernel
theorem dX9_whose_89 : decode cX9_whose 89 = .ok (.goto 4, 3) := by decide +kernel
theorem dX9_whose_92 : decode cX9_whose 92 = .ok (.iconst 0, 1) := by decide +kernel
theorem dX9_whose_93 : decode cX9_whose 93 = .ok (.ior, 1) := by decide +kernel
theorem dX9_whose_94 : decode cX9_whose 94 = .ok (.istore_n 1, 1) := by decide +kernel
theorem dX9_whose_95 : decode cX9_whose 95 = .ok (.iinc 2 1, 3) := by decide +kernel
theorem dX9_whose_98 : decode cX9_whose 98 = .ok (.goto (-94), 3) := by decide +kernel
theorem dX9_whose_101 : decode cX9_whose 101 = .ok (.iload_n 1, 1) := by decide +kernel
theorem dX9_whose_102 : decode cX9_whose 102 = .ok (.ireturn, 1) := by decide +kernel
theorem dX9_ask_0 : decode cX9_ask 0 = .ok (.aload_n 0, 1) := by decide +kernel
theorem dX9_ask_1 : decode cX9_ask 1 = .ok (.invokevirtual 218, 3) := by decide +kernel
theorem dX9_ask_4 : decode cX9_ask 4 = .ok (.istore_n 1, 1) := by decide +kernel
theorem dX9_ask_5 : decode cX9_ask 5 = .ok (.iload_n 1, 1) := by decide +kernel
theorem dX9_ask_6 : decode cX9_ask 6 = .ok (.invokestatic 146, 3) := by decide +kernel
theorem dX9_ask_9 : decode cX9_ask 9 = .ok (.istore_n 2, 1) := by decide +kernel
theorem dX9_ask_10 : decode cX9_ask 10 = .ok (.iload_n 2, 1) := by decide +kernel
theorem dX9_ask_11 : decode cX9_ask 11 = .ok (.istore_n 3, 1) := by decide +kernel
theorem dX9_ask_12 : decode cX9_ask 12 = .ok (.bipush (-9), 2) := by decide +kernel
theorem dX9_ask_14 : decode cX9_ask 14 = .ok (.istore 4, 2) := by decide +kernel
theorem dX9_ask_16 : decode cX9_ask 16 = .ok (.iconst 0, 1) := by decide +kernel
theorem dX9_ask_17 : decode cX9_ask 17 = .ok (.istore 5, 2) := by decide +kernel
theorem dX9_ask_19 : decode cX9_ask 19 = .ok (.iload 5, 2) := by decide +kernel
theorem dX9_ask_21 : decode cX9_ask 21 = .ok (.bipush 99, 2) := by decide +kernel
theorem dX9_ask_23 : decode cX9_ask 23 = .ok (.if_icmp .gt 108, 3) := by decide +kernel
theorem dX9_ask_26 : decode cX9_ask 26 = .ok (.iconst 0, 1) := by decide +kernel
theorem dX9_ask_27 : decode cX9_ask 27 = .ok (.istore 6, 2) := by decide +kernel
theorem dX9_ask_29 : decode cX9_ask 29 = .ok (.iconst 0, 1) := by decide +kernel
theorem dX9_ask_30 : decode cX9_ask 30 = .ok (.istore 7, 2) := by decide +kernel
theorem dX9_ask_32 : decode cX9_ask 32 = .ok (.iload 7, 2) := by decide +kernel
theorem dX9_ask_34 : decode cX9_ask 34 = .ok (.aload_n 0, 1) := by decide +kernel
theorem dX9_ask_35 : decode cX9_ask 35 = .ok (.getfield 71, 3) := by decide +kernel
theorem dX9_ask_38 : decode cX9_ask 38 = .ok (.if_icmp .ge 39, 3) := by decide +kernel
theorem dX9_ask_41 : decode cX9_ask 41 = .ok (.iload 6, 2) := by decide +kernel
theorem dX9_ask_43 : decode cX9_ask 43 = .ok (.iload_n 1, 1) := by decide +kernel
theorem dX9_ask_44 : decode cX9_ask 44 = .ok (.iload 7, 2) := by decide +kernel
theorem dX9_ask_46 : decode cX9_ask 46 = .ok (.invokestatic 205, 3) := by decide +kernel
theorem dX9_ask_49 : decode cX9_ask 49 = .ok (.ifCond .eq 18, 3) := by decide +kernel
theorem dX9_ask_52 : decode cX9_ask 52 = .ok (.aload_n 0, 1) := by decide +kernel
theorem dX9_ask_53 : decode cX9_ask 53 = .ok (.iload 7, 2) := by decide +kernel
theorem dX9_ask_55 : decode cX9_ask 55 = .ok (.invokevirtual 143, 3) := by decide +kernel
theorem dX9_ask_58 : decode cX9_ask 58 = .ok (.iload 5, 2) := by decide +kernel
theorem dX9_ask_60 : decode cX9_ask 60 = .ok (.if_icmp .lt 7, 3) := by decide +kernel
theorem dX9_ask_63 : decode cX9_ask 63 = .ok (.iconst 1, 1) := by decide +kernel
theorem dX9_ask_64 : decode cX9_ask 64 = .ok (.goto 4, 3) := by decide +kernel
theorem dX9_ask_67 : decode cX9_ask 67 = .ok (.iconst 0, 1) := by decide +kernel
theorem dX9_ask_68 : decode cX9_ask 68 = .ok (.iadd, 1) := by decide +kernel
theorem dX9_ask_69 : decode cX9_ask 69 = .ok (.istore 6, 2) := by decide +kernel
theorem dX9_ask_71 : decode cX9_ask 71 = .ok (.iinc 7 1, 3) := by decide +kernel
theorem dX9_ask_74 : decode cX9_ask 74 = .ok (.goto (-42), 3) := by decide +kernel
theorem dX9_ask_77 : decode cX9_ask 77 = .ok (.iload 6, 2) := by decide +kernel
theorem dX9_ask_79 : decode cX9_ask 79 = .ok (.iload_n 2, 1) := by decide +kernel
theorem dX9_ask_80 : decode cX9_ask 80 = .ok (.iload 6, 2) := by decide +kernel
theorem dX9_ask_82 : decode cX9_ask 82 = .ok (.isub, 1) := by decide +kernel
theorem dX9_ask_83 : decode cX9_ask 83 = .ok (.if_icmp .le 8, 3) := by decide +kernel
theorem dX9_ask_86 : decode cX9_ask 86 = .ok (.iload 6, 2) := by decide +kernel
theorem dX9_ask_88 : decode cX9_ask 88 = .ok (.goto 7, 3) := by decide +kernel
theorem dX9_ask_91 : decode cX9_ask 91 = .ok (.iload_n 2, 1) := by decide +kernel
theorem dX9_ask_92 : decode cX9_ask 92 = .ok (.iload 6, 2) := by decide +kernel
theorem dX9_ask_94 : decode cX9_ask 94 = .ok (.isub, 1) := by decide +kernel
theorem dX9_ask_95 : decode cX9_ask 95 = .ok (.istore 7, 2) := by decide +kernel
theorem dX9_ask_97 : decode cX9_ask 97 = .ok (.iload 7, 2) := by decide +kernel
theorem dX9_ask_99 : decode cX9_ask 99 = .ok (.iload_n 3, 1) := by decide +kernel
theorem dX9_ask_100 : decode cX9_ask 100 = .ok (.if_icmp .ge 8, 3) := by decide +kernel
theorem dX9_ask_103 : decode cX9_ask 103 = .ok (.iload 5, 2) := by decide +kernel
theorem dX9_ask_105 : decode cX9_ask 105 = .ok (.goto 5, 3) := by decide +kernel
theorem dX9_ask_108 : decode cX9_ask 108 = .ok (.iload 4, 2) := by decide +kernel
theorem dX9_ask_110 : decode cX9_ask 110 = .ok (.istore 4, 2) := by decide +kernel
theorem dX9_ask_112 : decode cX9_ask 112 = .ok (.iload 7, 2) := by decide +kernel
theorem dX9_ask_114 : decode cX9_ask 114 = .ok (.iload_n 3, 1) := by decide +kernel
theorem dX9_ask_115 : decode cX9_ask 115 = .ok (.if_icmp .ge 8, 3) := by decide +kernel
theorem dX9_ask_118 : decode cX9_ask 118 = .ok (.iload 7, 2) := by decide +kernel
theorem dX9_ask_120 : decode cX9_ask 120 = .ok (.goto 4, 3) := by decide +kernel
theorem dX9_ask_123 : decode cX9_ask 123 = .ok (.iload_n 3, 1) := by decide +kernel
theorem dX9_ask_124 : decode cX9_ask 124 = .ok (.istore_n 3, 1) := by decide +kernel
theorem dX9_ask_125 : decode cX9_ask 125 = .ok (.iinc 5 1, 3) := by decide +kernel
theorem dX9_ask_128 : decode cX9_ask 128 = .ok (.goto (-109), 3) := by decide +kernel
theorem dX9_ask_131 : decode cX9_ask 131 = .ok (.iload 4, 2) := by decide +kernel
theorem dX9_ask_133 : decode cX9_ask 133 = .ok (.ireturn, 1) := by decide +kernel
theorem dX9_markAs_0 : decode cX9_markAs 0 = .ok (.iload_n 1, 1) := by decide +kernel
theorem dX9_markAs_1 : decode cX9_markAs 1 = .ok (.tableswitch 166 1 5 #[35, 60, 86, 113, 141], 35) := by decide +kernel
theorem dX9_markAs_36 : decode cX9_markAs 36 = .ok (.aload_n 0, 1) := by decide +kernel
theorem dX9_markAs_37 : decode cX9_markAs 37 = .ok (.dup, 1) := by decide +kernel
theorem dX9_markAs_38 : decode cX9_markAs 38 = .ok (.getfield 221, 3) := by decide +kernel
theorem dX9_markAs_41 : decode cX9_markAs 41 = .ok (.ldc2_w 216, 3) := by decide +kernel
theorem dX9_markAs_44 : decode cX9_markAs 44 = .ok (.ladd, 1) := by decide +kernel
theorem dX9_markAs_45 : decode cX9_markAs 45 = .ok (.putfield 221, 3) := by decide +kernel
theorem dX9_markAs_48 : decode cX9_markAs 48 = .ok (.aload_n 0, 1) := by decide +kernel
theorem dX9_markAs_49 : decode cX9_markAs 49 = .ok (.iload_n 2, 1) := by decide +kernel
theorem dX9_markAs_50 : decode cX9_markAs 50 = .ok (.invokevirtual 225, 3) := by decide +kernel
theorem dX9_markAs_53 : decode cX9_markAs 53 = .ok (.aload_n 0, 1) := by decide +kernel
theorem dX9_markAs_54 : decode cX9_markAs 54 = .ok (.getfield 7, 3) := by decide +kernel
theorem dX9_markAs_57 : decode cX9_markAs 57 = .ok (.iload_n 2, 1) := by decide +kernel
theorem dX9_markAs_58 : decode cX9_markAs 58 = .ok (.iaload, 1) := by decide +kernel
theorem dX9_markAs_59 : decode cX9_markAs 59 = .ok (.iadd, 1) := by decide +kernel
theorem dX9_markAs_60 : decode cX9_markAs 60 = .ok (.ireturn, 1) := by decide +kernel
theorem dX9_markAs_61 : decode cX9_markAs 61 = .ok (.aload_n 0, 1) := by decide +kernel
theorem dX9_markAs_62 : decode cX9_markAs 62 = .ok (.dup, 1) := by decide +kernel
theorem dX9_markAs_63 : decode cX9_markAs 63 = .ok (.getfield 221, 3) := by decide +kernel
theorem dX9_markAs_66 : decode cX9_markAs 66 = .ok (.ldc2_w 228, 3) := by decide +kernel
theorem dX9_markAs_69 : decode cX9_markAs 69 = .ok (.ladd, 1) := by decide +kernel
theorem dX9_markAs_70 : decode cX9_markAs 70 = .ok (.putfield 221, 3) := by decide +kernel
theorem dX9_markAs_73 : decode cX9_markAs 73 = .ok (.aload_n 0, 1) := by decide +kernel
theorem dX9_markAs_74 : decode cX9_markAs 74 = .ok (.iload_n 2, 1) := by decide +kernel
theorem dX9_markAs_75 : decode cX9_markAs 75 = .ok (.invokevirtual 225, 3) := by decide +kernel
theorem dX9_markAs_78 : decode cX9_markAs 78 = .ok (.aload_n 0, 1) := by decide +kernel
theorem dX9_markAs_79 : decode cX9_markAs 79 = .ok (.invokevirtual 179, 3) := by decide +kernel
theorem dX9_markAs_82 : decode cX9_markAs 82 = .ok (.invokestatic 146, 3) := by decide +kernel
theorem dX9_markAs_85 : decode cX9_markAs 85 = .ok (.isub, 1) := by decide +kernel
theorem dX9_markAs_86 : decode cX9_markAs 86 = .ok (.ireturn, 1) := by decide +kernel
theorem dX9_markAs_87 : decode cX9_markAs 87 = .ok (.aload_n 0, 1) := by decide +kernel
theorem dX9_markAs_88 : decode cX9_markAs 88 = .ok (.dup, 1) := by decide +kernel
theorem dX9_markAs_89 : decode cX9_markAs 89 = .ok (.getfield 221, 3) := by decide +kernel
theorem dX9_markAs_92 : decode cX9_markAs 92 = .ok (.ldc2_w 230, 3) := by decide +kernel
theorem dX9_markAs_95 : decode cX9_markAs 95 = .ok (.ladd, 1) := by decide +kernel
theorem dX9_markAs_96 : decode cX9_markAs 96 = .ok (.putfield 221, 3) := by decide +kernel
theorem dX9_markAs_99 : decode cX9_markAs 99 = .ok (.iconst 2, 1) := by decide +kernel
theorem dX9_markAs_100 : decode cX9_markAs 100 = .ok (.aload_n 0, 1) := by decide +kernel
theorem dX9_markAs_101 : decode cX9_markAs 101 = .ok (.iload_n 2, 1) := by decide +kernel
theorem dX9_markAs_102 : decode cX9_markAs 102 = .ok (.invokevirtual 225, 3) := by decide +kernel
theorem dX9_markAs_105 : decode cX9_markAs 105 = .ok (.aload_n 0, 1) := by decide +kernel
theorem dX9_markAs_106 : decode cX9_markAs 106 = .ok (.getfield 7, 3) := by decide +kernel
theorem dX9_markAs_109 : decode cX9_markAs 109 = .ok (.iload_n 2, 1) := by decide +kernel
theorem dX9_markAs_110 : decode cX9_markAs 110 = .ok (.iaload, 1) := by decide +kernel
theorem dX9_markAs_111 : decode cX9_markAs 111 = .ok (.iadd, 1) := by decide +kernel
theorem dX9_markAs_112 : decode cX9_markAs 112 = .ok (.imul, 1) := by decide +kernel
theorem dX9_markAs_113 : decode cX9_markAs 113 = .ok (.ireturn, 1) := by decide +kernel
theorem dX9_markAs_114 : decode cX9_markAs 114 = .ok (.aload_n 0, 1) := by decide +kernel
theorem dX9_markAs_115 : decode cX9_markAs 115 = .ok (.dup, 1) := by decide +kernel
theorem dX9_markAs_116 : decode cX9_markAs 116 = .ok (.getfield 221, 3) := by decide +kernel
theorem dX9_markAs_119 : decode cX9_markAs 119 = .ok (.ldc2_w 232, 3) := by decide +kernel
theorem dX9_markAs_122 : decode cX9_markAs 122 = .ok (.ladd, 1) := by decide +kernel
theorem dX9_markAs_123 : decode cX9_markAs 123 = .ok (.putfield 221, 3) := by decide +kernel
theorem dX9_markAs_126 : decode cX9_markAs 126 = .ok (.aload_n 0, 1) := by decide +kernel
theorem dX9_markAs_127 : decode cX9_markAs 127 = .ok (.iload_n 2, 1) := by decide +kernel
theorem dX9_markAs_128 : decode cX9_markAs 128 = .ok (.invokevirtual 225, 3) := by decide +kernel
theorem dX9_markAs_131 : decode cX9_markAs 131 = .ok (.aload_n 0, 1) := by decide +kernel
theorem dX9_markAs_132 : decode cX9_markAs 132 = .ok (.invokevirtual 179, 3) := by decide +kernel
theorem dX9_markAs_135 : decode cX9_markAs 135 = .ok (.invokestatic 146, 3) := by decide +kernel
theorem dX9_markAs_138 : decode cX9_markAs 138 = .ok (.isub, 1) := by decide +kernel
theorem dX9_markAs_139 : decode cX9_markAs 139 = .ok (.iload_n 2, 1) := by decide +kernel
theorem dX9_markAs_140 : decode cX9_markAs 140 = .ok (.iadd, 1) := by decide +kernel
theorem dX9_markAs_141 : decode cX9_markAs 141 = .ok (.ireturn, 1) := by decide +kernel
theorem dX9_markAs_142 : decode cX9_markAs 142 = .ok (.aload_n 0, 1) := by decide +kernel
theorem dX9_markAs_143 : decode cX9_markAs 143 = .ok (.dup, 1) := by decide +kernel
theorem dX9_markAs_144 : decode cX9_markAs 144 = .ok (.getfield 221, 3) := by decide +kernel
theorem dX9_markAs_147 : decode cX9_markAs 147 = .ok (.ldc2_w 234, 3) := by decide +kernel
theorem dX9_markAs_150 : decode cX9_markAs 150 = .ok (.ladd, 1) := by decide +kernel
theorem dX9_markAs_151 : decode cX9_markAs 151 = .ok (.putfield 221, 3) := by decide +kernel
theorem dX9_markAs_154 : decode cX9_markAs 154 = .ok (.aload_n 0, 1) := by decide +kernel
theorem dX9_markAs_155 : decode cX9_markAs 155 = .ok (.iload_n 2, 1) := by decide +kernel
theorem dX9_markAs_156 : decode cX9_markAs 156 = .ok (.invokevirtual 225, 3) := by decide +kernel
theorem dX9_markAs_159 : decode cX9_markAs 159 = .ok (.aload_n 0, 1) := by decide +kernel
theorem dX9_markAs_160 : decode cX9_markAs 160 = .ok (.getfield 28, 3) := by decide +kernel
theorem dX9_markAs_163 : decode cX9_markAs 163 = .ok (.iconst 0, 1) := by decide +kernel
theorem dX9_markAs_164 : decode cX9_markAs 164 = .ok (.iaload, 1) := by decide +kernel
theorem dX9_markAs_165 : decode cX9_markAs 165 = .ok (.iadd, 1) := by decide +kernel
theorem dX9_markAs_166 : decode cX9_markAs 166 = .ok (.ireturn, 1) := by decide +kernel
theorem dX9_markAs_167 : decode cX9_markAs 167 = .ok (.aload_n 0, 1) := by decide +kernel
theorem dX9_markAs_168 : decode cX9_markAs 168 = .ok (.iload_n 2, 1) := by decide +kernel
theorem dX9_markAs_169 : decode cX9_markAs 169 = .ok (.invokevirtual 225, 3) := by decide +kernel
theorem dX9_markAs_172 : decode cX9_markAs 172 = .ok (.ireturn, 1) := by decide +kernel
theorem dX9_markAs0_0 : decode cX9_markAs0 0 = .ok (.aload_n 0, 1) := by decide +kernel
theorem dX9_markAs0_1 : decode cX9_markAs0 1 = .ok (.dup, 1) := by decide +kernel
theorem dX9_markAs0_2 : decode cX9_markAs0 2 = .ok (.getfield 221, 3) := by decide +kernel
theorem dX9_markAs0_5 : decode cX9_markAs0 5 = .ok (.lconst 1, 1) := by decide +kernel
theorem dX9_markAs0_6 : decode cX9_markAs0 6 = .ok (.ladd, 1) := by decide +kernel
theorem dX9_markAs0_7 : decode cX9_markAs0 7 = .ok (.putfield 221, 3) := by decide +kernel
theorem dX9_markAs0_10 : decode cX9_markAs0 10 = .ok (.aload_n 0, 1) := by decide +kernel
theorem dX9_markAs0_11 : decode cX9_markAs0 11 = .ok (.iload_n 1, 1) := by decide +kernel
theorem dX9_markAs0_12 : decode cX9_markAs0 12 = .ok (.invokevirtual 143, 3) := by decide +kernel
theorem dX9_markAs0_15 : decode cX9_markAs0 15 = .ok (.ireturn, 1) := by decide +kernel
theorem dX9_mark_0 : decode cX9_mark 0 = .ok (.iload_n 1, 1) := by decide +kernel
theorem dX9_mark_1 : decode cX9_mark 1 = .ok (.i2l, 1) := by decide +kernel
theorem dX9_mark_2 : decode cX9_mark 2 = .ok (.lconst 0, 1) := by decide +kernel
theorem dX9_mark_3 : decode cX9_mark 3 = .ok (.ldc2_w 236, 3) := by decide +kernel
theorem dX9_mark_6 : decode cX9_mark 6 = .ok (.invokestatic 75, 3) := by decide +kernel
theorem dX9_mark_9 : decode cX9_mark 9 = .ok (.ifCond .eq 20, 3) := by decide +kernel
theorem dX9_mark_12 : decode cX9_mark 12 = .ok (.aload_n 0, 1) := by decide +kernel
theorem dX9_mark_13 : decode cX9_mark 13 = .ok (.iload_n 2, 1) := by decide +kernel
theorem dX9_mark_14 : decode cX9_mark 14 = .ok (.invokevirtual 149, 3) := by decide +kernel
theorem dX9_mark_17 : decode cX9_mark 17 = .ok (.ifCond .eq 12, 3) := by decide +kernel
theorem dX9_mark_20 : decode cX9_mark 20 = .ok (.aload_n 0, 1) := by decide +kernel
theorem dX9_mark_21 : decode cX9_mark 21 = .ok (.iload_n 1, 1) := by decide +kernel
theorem dX9_mark_22 : decode cX9_mark 22 = .ok (.iload_n 2, 1) := by decide +kernel
theorem dX9_mark_23 : decode cX9_mark 23 = .ok (.invokevirtual 238, 3) := by decide +kernel
theorem dX9_mark_26 : decode cX9_mark 26 = .ok (.goto 5, 3) := by decide +kernel
theorem dX9_mark_29 : decode cX9_mark 29 = .ok (.ldc 201, 2) := by decide +kernel
theorem dX9_mark_31 : decode cX9_mark 31 = .ok (.ireturn, 1) := by decide +kernel
theorem dX9_keep_0 : decode cX9_keep 0 = .ok (.iload_n 1, 1) := by decide +kernel
theorem dX9_keep_1 : decode cX9_keep 1 = .ok (.i2l, 1) := by decide +kernel
theorem dX9_keep_2 : decode cX9_keep 2 = .ok (.lconst 0, 1) := by decide +kernel
theorem dX9_keep_3 : decode cX9_keep 3 = .ok (.lconst 1, 1) := by decide +kernel
theorem dX9_keep_4 : decode cX9_keep 4 = .ok (.invokestatic 75, 3) := by decide +kernel
theorem dX9_keep_7 : decode cX9_keep 7 = .ok (.ifCond .ne 5, 3) := by decide +kernel
theorem dX9_keep_10 : decode cX9_keep 10 = .ok (.iconst (-1), 1) := by decide +kernel
theorem dX9_keep_11 : decode cX9_keep 11 = .ok (.ireturn, 1) := by decide +kernel
theorem dX9_keep_12 : decode cX9_keep 12 = .ok (.iconst 0, 1) := by decide +kernel
theorem dX9_keep_13 : decode cX9_keep 13 = .ok (.istore_n 2, 1) := by decide +kernel
theorem dX9_keep_14 : decode cX9_keep 14 = .ok (.iload_n 2, 1) := by decide +kernel
theorem dX9_keep_15 : decode cX9_keep 15 = .ok (.sipush 210, 3) := by decide +kernel
theorem dX9_keep_18 : decode cX9_keep 18 = .ok (.if_icmp .ge 27, 3) := by decide +kernel
theorem dX9_keep_21 : decode cX9_keep 21 = .ok (.aload_n 0, 1) := by decide +kernel
theorem dX9_keep_22 : decode cX9_keep 22 = .ok (.getfield 31, 3) := by decide +kernel
theorem dX9_keep_25 : decode cX9_keep 25 = .ok (.sipush 210, 3) := by decide +kernel
theorem dX9_keep_28 : decode cX9_keep 28 = .ok (.iload_n 1, 1) := by decide +kernel
theorem dX9_keep_29 : decode cX9_keep 29 = .ok (.imul, 1) := by decide +kernel
theorem dX9_keep_30 : decode cX9_keep 30 = .ok (.iload_n 2, 1) := by decide +kernel
theorem dX9_keep_31 : decode cX9_keep 31 = .ok (.iadd, 1) := by decide +kernel
theorem dX9_keep_32 : decode cX9_keep 32 = .ok (.aload_n 0, 1) := by decide +kernel
theorem dX9_keep_33 : decode cX9_keep 33 = .ok (.getfield 28, 3) := by decide +kernel
theorem dX9_keep_36 : decode cX9_keep 36 = .ok (.iload_n 2, 1) := by decide +kernel
theorem dX9_keep_37 : decode cX9_keep 37 = .ok (.iaload, 1) := by decide +kernel
theorem dX9_keep_38 : decode cX9_keep 38 = .ok (.iastore, 1) := by decide +kernel
theorem dX9_keep_39 : decode cX9_keep 39 = .ok (.iinc 2 1, 3) := by decide +kernel
theorem dX9_keep_42 : decode cX9_keep 42 = .ok (.goto (-28), 3) := by decide +kernel
theorem dX9_keep_45 : decode cX9_keep 45 = .ok (.aload_n 0, 1) := by decide +kernel
theorem dX9_keep_46 : decode cX9_keep 46 = .ok (.getfield 34, 3) := by decide +kernel
theorem dX9_keep_49 : decode cX9_keep 49 = .ok (.iload_n 1, 1) := by decide +kernel
theorem dX9_keep_50 : decode cX9_keep 50 = .ok (.iconst 1, 1) := by decide +kernel
theorem dX9_keep_51 : decode cX9_keep 51 = .ok (.bastore, 1) := by decide +kernel
theorem dX9_keep_52 : decode cX9_keep 52 = .ok (.aload_n 0, 1) := by decide +kernel
theorem dX9_keep_53 : decode cX9_keep 53 = .ok (.getfield 28, 3) := by decide +kernel
theorem dX9_keep_56 : decode cX9_keep 56 = .ok (.iconst 0, 1) := by decide +kernel
theorem dX9_keep_57 : decode cX9_keep 57 = .ok (.iaload, 1) := by decide +kernel
theorem dX9_keep_58 : decode cX9_keep 58 = .ok (.ireturn, 1) := by decide +kernel
theorem dX9_back_0 : decode cX9_back 0 = .ok (.iload_n 1, 1) := by decide +kernel
theorem dX9_back_1 : decode cX9_back 1 = .ok (.i2l, 1) := by decide +kernel
theorem dX9_back_2 : decode cX9_back 2 = .ok (.lconst 0, 1) := by decide +kernel
theorem dX9_back_3 : decode cX9_back 3 = .ok (.lconst 1, 1) := by decide +kernel
theorem dX9_back_4 : decode cX9_back 4 = .ok (.invokestatic 75, 3) := by decide +kernel
theorem dX9_back_7 : decode cX9_back 7 = .ok (.ifCond .ne 5, 3) := by decide +kernel
theorem dX9_back_10 : decode cX9_back 10 = .ok (.iconst (-1), 1) := by decide +kernel
theorem dX9_back_11 : decode cX9_back 11 = .ok (.ireturn, 1) := by decide +kernel
theorem dX9_back_12 : decode cX9_back 12 = .ok (.aload_n 0, 1) := by decide +kernel
theorem dX9_back_13 : decode cX9_back 13 = .ok (.getfield 34, 3) := by decide +kernel
theorem dX9_back_16 : decode cX9_back 16 = .ok (.iload_n 1, 1) := by decide +kernel
theorem dX9_back_17 : decode cX9_back 17 = .ok (.baload, 1) := by decide +kernel
theorem dX9_back_18 : decode cX9_back 18 = .ok (.ifCond .ne 6, 3) := by decide +kernel
theorem dX9_back_21 : decode cX9_back 21 = .ok (.bipush (-2), 2) := by decide +kernel
theorem dX9_back_23 : decode cX9_back 23 = .ok (.ireturn, 1) := by decide +kernel
theorem dX9_back_24 : decode cX9_back 24 = .ok (.iconst 0, 1) := by decide +kernel
theorem dX9_back_25 : decode cX9_back 25 = .ok (.istore_n 2, 1) := by decide +kernel
theorem dX9_back_26 : decode cX9_back 26 = .ok (.iload_n 2, 1) := by decide +kernel
theorem dX9_back_27 : decode cX9_back 27 = .ok (.sipush 210, 3) := by decide +kernel
theorem dX9_back_30 : decode cX9_back 30 = .ok (.if_icmp .ge 27, 3) := by decide +kernel
theorem dX9_back_33 : decode cX9_back 33 = .ok (.aload_n 0, 1) := by decide +kernel
theorem dX9_back_34 : decode cX9_back 34 = .ok (.getfield 28, 3) := by decide +kernel
theorem dX9_back_37 : decode cX9_back 37 = .ok (.iload_n 2, 1) := by decide +kernel
theorem dX9_back_38 : decode cX9_back 38 = .ok (.aload_n 0, 1) := by decide +kernel
theorem dX9_back_39 : decode cX9_back 39 = .ok (.getfield 31, 3) := by decide +kernel
theorem dX9_back_42 : decode cX9_back 42 = .ok (.sipush 210, 3) := by decide +kernel
theorem dX9_back_45 : decode cX9_back 45 = .ok (.iload_n 1, 1) := by decide +kernel
theorem dX9_back_46 : decode cX9_back 46 = .ok (.imul, 1) := by decide +kernel
theorem dX9_back_47 : decode cX9_back 47 = .ok (.iload_n 2, 1) := by decide +kernel
theorem dX9_back_48 : decode cX9_back 48 = .ok (.iadd, 1) := by decide +kernel
theorem dX9_back_49 : decode cX9_back 49 = .ok (.iaload, 1) := by decide +kernel
theorem dX9_back_50 : decode cX9_back 50 = .ok (.iastore, 1) := by decide +kernel
theorem dX9_back_51 : decode cX9_back 51 = .ok (.iinc 2 1, 3) := by decide +kernel
theorem dX9_back_54 : decode cX9_back 54 = .ok (.goto (-28), 3) := by decide +kernel
theorem dX9_back_57 : decode cX9_back 57 = .ok (.aload_n 0, 1) := by decide +kernel
theorem dX9_back_58 : decode cX9_back 58 = .ok (.getfield 28, 3) := by decide +kernel
theorem dX9_back_61 : decode cX9_back 61 = .ok (.iconst 0, 1) := by decide +kernel
theorem dX9_back_62 : decode cX9_back 62 = .ok (.iaload, 1) := by decide +kernel
theorem dX9_back_63 : decode cX9_back 63 = .ok (.ireturn, 1) := by decide +kernel
theorem dX9_count_0 : decode cX9_count 0 = .ok (.iload_n 1, 1) := by decide +kernel
theorem dX9_count_1 : decode cX9_count 1 = .ok (.tableswitch 63 0 4 #[35, 40, 45, 50, 58], 35) := by decide +kernel
theorem dX9_count_36 : decode cX9_count 36 = .ok (.aload_n 0, 1) := by decide +kernel
theorem dX9_count_37 : decode cX9_count 37 = .ok (.getfield 71, 3) := by decide +kernel
theorem dX9_count_40 : decode cX9_count 40 = .ok (.ireturn, 1) := by decide +kernel
theorem dX9_count_41 : decode cX9_count 41 = .ok (.aload_n 0, 1) := by decide +kernel
theorem dX9_count_42 : decode cX9_count 42 = .ok (.getfield 79, 3) := by decide +kernel
theorem dX9_count_45 : decode cX9_count 45 = .ok (.ireturn, 1) := by decide +kernel
theorem dX9_count_46 : decode cX9_count 46 = .ok (.aload_n 0, 1) := by decide +kernel
theorem dX9_count_47 : decode cX9_count 47 = .ok (.getfield 130, 3) := by decide +kernel
theorem dX9_count_50 : decode cX9_count 50 = .ok (.ireturn, 1) := by decide +kernel
theorem dX9_count_51 : decode cX9_count 51 = .ok (.aload_n 0, 1) := by decide +kernel
theorem dX9_count_52 : decode cX9_count 52 = .ok (.getfield 28, 3) := by decide +kernel
theorem dX9_count_55 : decode cX9_count 55 = .ok (.bipush 19, 2) := by decide +kernel
theorem dX9_count_57 : decode cX9_count 57 = .ok (.iaload, 1) := by decide +kernel
theorem dX9_count_58 : decode cX9_count 58 = .ok (.ireturn, 1) := by decide +kernel
theorem dX9_count_59 : decode cX9_count 59 = .ok (.aload_n 0, 1) := by decide +kernel
theorem dX9_count_60 : decode cX9_count 60 = .ok (.getfield 84, 3) := by decide +kernel
theorem dX9_count_63 : decode cX9_count 63 = .ok (.ireturn, 1) := by decide +kernel
theorem dX9_count_64 : decode cX9_count 64 = .ok (.iconst (-1), 1) := by decide +kernel
theorem dX9_count_65 : decode cX9_count 65 = .ok (.ireturn, 1) := by decide +kernel
theorem dX9_trace_0 : decode cX9_trace 0 = .ok (.aload_n 0, 1) := by decide +kernel
theorem dX9_trace_1 : decode cX9_trace 1 = .ok (.getfield 221, 3) := by decide +kernel
theorem dX9_trace_4 : decode cX9_trace 4 = .ok (.lreturn, 1) := by decide +kernel
end
section
theorem dL_law_0 : decode cL_law 0 = .ok (.new 7, 3) := by decide +kernel
theorem dL_law_3 : decode cL_law 3 = .ok (.dup, 1) := by decide +kernel
theorem dL_law_4 : decode cL_law 4 = .ok (.invokespecial 9, 3) := by decide +kernel
theorem dL_law_7 : decode cL_law 7 = .ok (.astore_n 1, 1) := by decide +kernel
theorem dL_law_8 : decode cL_law 8 = .ok (.new 10, 3) := by decide +kernel
theorem dL_law_11 : decode cL_law 11 = .ok (.dup, 1) := by decide +kernel
theorem dL_law_12 : decode cL_law 12 = .ok (.invokespecial 12, 3) := by decide +kernel
theorem dL_law_15 : decode cL_law 15 = .ok (.astore_n 2, 1) := by decide +kernel
theorem dL_law_16 : decode cL_law 16 = .ok (.iconst 0, 1) := by decide +kernel
theorem dL_law_17 : decode cL_law 17 = .ok (.istore_n 3, 1) := by decide +kernel
theorem dL_law_18 : decode cL_law 18 = .ok (.iload_n 3, 1) := by decide +kernel
theorem dL_law_19 : decode cL_law 19 = .ok (.aload_n 0, 1) := by decide +kernel
theorem dL_law_20 : decode cL_law 20 = .ok (.arraylength, 1) := by decide +kernel
theorem dL_law_21 : decode cL_law 21 = .ok (.iconst 4, 1) := by decide +kernel
theorem dL_law_22 : decode cL_law 22 = .ok (.isub, 1) := by decide +kernel
theorem dL_law_23 : decode cL_law 23 = .ok (.if_icmp .gt 811, 3) := by decide +kernel
theorem dL_law_26 : decode cL_law 26 = .ok (.aload_n 0, 1) := by decide +kernel
theorem dL_law_27 : decode cL_law 27 = .ok (.iload_n 3, 1) := by decide +kernel
theorem dL_law_28 : decode cL_law 28 = .ok (.iaload, 1) := by decide +kernel
theorem dL_law_29 : decode cL_law 29 = .ok (.bipush 31, 2) := by decide +kernel
theorem dL_law_31 : decode cL_law 31 = .ok (.iand, 1) := by decide +kernel
theorem dL_law_32 : decode cL_law 32 = .ok (.tableswitch 796 0 26 #[124, 147, 160, 173, 206, 239, 272, 295, 318, 351, 374, 387, 410, 443, 476, 499, 532, 565, 608, 641, 654, 667, 680, 713, 736, 759, 782], 124) := by decide +kernel
theorem dL_law_156 : decode cL_law 156 = .ok (.aload_n 1, 1) := by decide +kernel
theorem dL_law_157 : decode cL_law 157 = .ok (.aload_n 0, 1) := by decide +kernel
theorem dL_law_158 : decode cL_law 158 = .ok (.iload_n 3, 1) := by decide +kernel
theorem dL_law_159 : decode cL_law 159 = .ok (.iconst 1, 1) := by decide +kernel
theorem dL_law_160 : decode cL_law 160 = .ok (.iadd, 1) := by decide +kernel
theorem dL_law_161 : decode cL_law 161 = .ok (.iaload, 1) := by decide +kernel
theorem dL_law_162 : decode cL_law 162 = .ok (.invokevirtual 13, 3) := by decide +kernel
theorem dL_law_165 : decode cL_law 165 = .ok (.aload_n 2, 1) := by decide +kernel
theorem dL_law_166 : decode cL_law 166 = .ok (.aload_n 0, 1) := by decide +kernel
theorem dL_law_167 : decode cL_law 167 = .ok (.iload_n 3, 1) := by decide +kernel
theorem dL_law_168 : decode cL_law 168 = .ok (.iconst 1, 1) := by decide +kernel
theorem dL_law_169 : decode cL_law 169 = .ok (.iadd, 1) := by decide +kernel
theorem dL_law_170 : decode cL_law 170 = .ok (.iaload, 1) := by decide +kernel
theorem dL_law_171 : decode cL_law 171 = .ok (.invokevirtual 17, 3) := by decide +kernel
theorem dL_law_174 : decode cL_law 174 = .ok (.if_icmp .eq 654, 3) := by decide +kernel
theorem dL_law_177 : decode cL_law 177 = .ok (.iconst 0, 1) := by decide +kernel
theorem dL_law_178 : decode cL_law 178 = .ok (.ireturn, 1) := by decide +kernel
theorem dL_law_179 : decode cL_law 179 = .ok (.aload_n 1, 1) := by decide +kernel
theorem dL_law_180 : decode cL_law 180 = .ok (.invokevirtual 18, 3) := by decide +kernel
theorem dL_law_183 : decode cL_law 183 = .ok (.aload_n 2, 1) := by decide +kernel
theorem dL_law_184 : decode cL_law 184 = .ok (.invokevirtual 22, 3) := by decide +kernel
theorem dL_law_187 : decode cL_law 187 = .ok (.if_icmp .eq 641, 3) := by decide +kernel
theorem dL_law_190 : decode cL_law 190 = .ok (.iconst 0, 1) := by decide +kernel
theorem dL_law_191 : decode cL_law 191 = .ok (.ireturn, 1) := by decide +kernel
theorem dL_law_192 : decode cL_law 192 = .ok (.aload_n 1, 1) := by decide +kernel
theorem dL_law_193 : decode cL_law 193 = .ok (.invokevirtual 23, 3) := by decide +kernel
theorem dL_law_196 : decode cL_law 196 = .ok (.aload_n 2, 1) := by decide +kernel
theorem dL_law_197 : decode cL_law 197 = .ok (.invokevirtual 26, 3) := by decide +kernel
theorem dL_law_200 : decode cL_law 200 = .ok (.if_icmp .eq 628, 3) := by decide +kernel
theorem dL_law_203 : decode cL_law 203 = .ok (.iconst 0, 1) := by decide +kernel
theorem dL_law_204 : decode cL_law 204 = .ok (.ireturn, 1) := by decide +kernel
theorem dL_law_205 : decode cL_law 205 = .ok (.aload_n 1, 1) := by decide +kernel
theorem dL_law_206 : decode cL_law 206 = .ok (.aload_n 0, 1) := by decide +kernel
theorem dL_law_207 : decode cL_law 207 = .ok (.iload_n 3, 1) := by decide +kernel
theorem dL_law_208 : decode cL_law 208 = .ok (.iconst 1, 1) := by decide +kernel
theorem dL_law_209 : decode cL_law 209 = .ok (.iadd, 1) := by decide +kernel
theorem dL_law_210 : decode cL_law 210 = .ok (.iaload, 1) := by decide +kernel
theorem dL_law_211 : decode cL_law 211 = .ok (.aload_n 0, 1) := by decide +kernel
theorem dL_law_212 : decode cL_law 212 = .ok (.iload_n 3, 1) := by decide +kernel
theorem dL_law_213 : decode cL_law 213 = .ok (.iconst 2, 1) := by decide +kernel
theorem dL_law_214 : decode cL_law 214 = .ok (.iadd, 1) := by decide +kernel
theorem dL_law_215 : decode cL_law 215 = .ok (.iaload, 1) := by decide +kernel
theorem dL_law_216 : decode cL_law 216 = .ok (.invokevirtual 27, 3) := by decide +kernel
theorem dL_law_219 : decode cL_law 219 = .ok (.aload_n 2, 1) := by decide +kernel
theorem dL_law_220 : decode cL_law 220 = .ok (.aload_n 0, 1) := by decide +kernel
theorem dL_law_221 : decode cL_law 221 = .ok (.iload_n 3, 1) := by decide +kernel
theorem dL_law_222 : decode cL_law 222 = .ok (.iconst 1, 1) := by decide +kernel
theorem dL_law_223 : decode cL_law 223 = .ok (.iadd, 1) := by decide +kernel
theorem dL_law_224 : decode cL_law 224 = .ok (.iaload, 1) := by decide +kernel
theorem dL_law_225 : decode cL_law 225 = .ok (.aload_n 0, 1) := by decide +kernel
theorem dL_law_226 : decode cL_law 226 = .ok (.iload_n 3, 1) := by decide +kernel
theorem dL_law_227 : decode cL_law 227 = .ok (.iconst 2, 1) := by decide +kernel
theorem dL_law_228 : decode cL_law 228 = .ok (.iadd, 1) := by decide +kernel
theorem dL_law_229 : decode cL_law 229 = .ok (.iaload, 1) := by decide +kernel
theorem dL_law_230 : decode cL_law 230 = .ok (.invokevirtual 31, 3) := by decide +kernel
theorem dL_law_233 : decode cL_law 233 = .ok (.if_icmp .eq 595, 3) := by decide +kernel
theorem dL_law_236 : decode cL_law 236 = .ok (.iconst 0, 1) := by decide +kernel
theorem dL_law_237 : decode cL_law 237 = .ok (.ireturn, 1) := by decide +kernel
theorem dL_law_238 : decode cL_law 238 = .ok (.aload_n 1, 1) := by decide +kernel
theorem dL_law_239 : decode cL_law 239 = .ok (.aload_n 0, 1) := by decide +kernel
theorem dL_law_240 : decode cL_law 240 = .ok (.iload_n 3, 1) := by decide +kernel
theorem dL_law_241 : decode cL_law 241 = .ok (.iconst 1, 1) := by decide +kernel
theorem dL_law_242 : decode cL_law 242 = .ok (.iadd, 1) := by decide +kernel
theorem dL_law_243 : decode cL_law 243 = .ok (.iaload, 1) := by decide +kernel
theorem dL_law_244 : decode cL_law 244 = .ok (.aload_n 0, 1) := by decide +kernel
theorem dL_law_245 : decode cL_law 245 = .ok (.iload_n 3, 1) := by decide +kernel
theorem dL_law_246 : decode cL_law 246 = .ok (.iconst 2, 1) := by decide +kernel
theorem dL_law_247 : decode cL_law 247 = .ok (.iadd, 1) := by decide +kernel
theorem dL_law_248 : decode cL_law 248 = .ok (.iaload, 1) := by decide +kernel
theorem dL_law_249 : decode cL_law 249 = .ok (.invokevirtual 32, 3) := by decide +kernel
theorem dL_law_252 : decode cL_law 252 = .ok (.aload_n 2, 1) := by decide +kernel
theorem dL_law_253 : decode cL_law 253 = .ok (.aload_n 0, 1) := by decide +kernel
theorem dL_law_254 : decode cL_law 254 = .ok (.iload_n 3, 1) := by decide +kernel
theorem dL_law_255 : decode cL_law 255 = .ok (.iconst 1, 1) := by decide +kernel
theorem dL_law_256 : decode cL_law 256 = .ok (.iadd, 1) := by decide +kernel
theorem dL_law_257 : decode cL_law 257 = .ok (.iaload, 1) := by decide +kernel
theorem dL_law_258 : decode cL_law 258 = .ok (.aload_n 0, 1) := by decide +kernel
theorem dL_law_259 : decode cL_law 259 = .ok (.iload_n 3, 1) := by decide +kernel
theorem dL_law_260 : decode cL_law 260 = .ok (.iconst 2, 1) := by decide +kernel
theorem dL_law_261 : decode cL_law 261 = .ok (.iadd, 1) := by decide +kernel
theorem dL_law_262 : decode cL_law 262 = .ok (.iaload, 1) := by decide +kernel
theorem dL_law_263 : decode cL_law 263 = .ok (.invokevirtual 35, 3) := by decide +kernel
theorem dL_law_266 : decode cL_law 266 = .ok (.if_icmp .eq 562, 3) := by decide +kernel
theorem dL_law_269 : decode cL_law 269 = .ok (.iconst 0, 1) := by decide +kernel
theorem dL_law_270 : decode cL_law 270 = .ok (.ireturn, 1) := by decide +kernel
theorem dL_law_271 : decode cL_law 271 = .ok (.aload_n 1, 1) := by decide +kernel
theorem dL_law_272 : decode cL_law 272 = .ok (.aload_n 0, 1) := by decide +kernel
theorem dL_law_273 : decode cL_law 273 = .ok (.iload_n 3, 1) := by decide +kernel
theorem dL_law_274 : decode cL_law 274 = .ok (.iconst 1, 1) := by decide +kernel
theorem dL_law_275 : decode cL_law 275 = .ok (.iadd, 1) := by decide +kernel
theorem dL_law_276 : decode cL_law 276 = .ok (.iaload, 1) := by decide +kernel
theorem dL_law_277 : decode cL_law 277 = .ok (.aload_n 0, 1) := by decide +kernel
theorem dL_law_278 : decode cL_law 278 = .ok (.iload_n 3, 1) := by decide +kernel
theorem dL_law_279 : decode cL_law 279 = .ok (.iconst 2, 1) := by decide +kernel
theorem dL_law_280 : decode cL_law 280 = .ok (.iadd, 1) := by decide +kernel
theorem dL_law_281 : decode cL_law 281 = .ok (.iaload, 1) := by decide +kernel
theorem dL_law_282 : decode cL_law 282 = .ok (.invokevirtual 36, 3) := by decide +kernel
theorem dL_law_285 : decode cL_law 285 = .ok (.aload_n 2, 1) := by decide +kernel
theorem dL_law_286 : decode cL_law 286 = .ok (.aload_n 0, 1) := by decide +kernel
theorem dL_law_287 : decode cL_law 287 = .ok (.iload_n 3, 1) := by decide +kernel
theorem dL_law_288 : decode cL_law 288 = .ok (.iconst 1, 1) := by decide +kernel
theorem dL_law_289 : decode cL_law 289 = .ok (.iadd, 1) := by decide +kernel
theorem dL_law_290 : decode cL_law 290 = .ok (.iaload, 1) := by decide +kernel
theorem dL_law_291 : decode cL_law 291 = .ok (.aload_n 0, 1) := by decide +kernel
theorem dL_law_292 : decode cL_law 292 = .ok (.iload_n 3, 1) := by decide +kernel
theorem dL_law_293 : decode cL_law 293 = .ok (.iconst 2, 1) := by decide +kernel
theorem dL_law_294 : decode cL_law 294 = .ok (.iadd, 1) := by decide +kernel
theorem dL_law_295 : decode cL_law 295 = .ok (.iaload, 1) := by decide +kernel
theorem dL_law_296 : decode cL_law 296 = .ok (.invokevirtual 39, 3) := by decide +kernel
theorem dL_law_299 : decode cL_law 299 = .ok (.if_icmp .eq 529, 3) := by decide +kernel
theorem dL_law_302 : decode cL_law 302 = .ok (.iconst 0, 1) := by decide +kernel
theorem dL_law_303 : decode cL_law 303 = .ok (.ireturn, 1) := by decide +kernel
theorem dL_law_304 : decode cL_law 304 = .ok (.aload_n 1, 1) := by decide +kernel
theorem dL_law_305 : decode cL_law 305 = .ok (.aload_n 0, 1) := by decide +kernel
theorem dL_law_306 : decode cL_law 306 = .ok (.iload_n 3, 1) := by decide +kernel
theorem dL_law_307 : decode cL_law 307 = .ok (.iconst 1, 1) := by decide +kernel
theorem dL_law_308 : decode cL_law 308 = .ok (.iadd, 1) := by decide +kernel
theorem dL_law_309 : decode cL_law 309 = .ok (.iaload, 1) := by decide +kernel
theorem dL_law_310 : decode cL_law 310 = .ok (.invokevirtual 40, 3) := by decide +kernel
theorem dL_law_313 : decode cL_law 313 = .ok (.aload_n 2, 1) := by decide +kernel
theorem dL_law_314 : decode cL_law 314 = .ok (.aload_n 0, 1) := by decide +kernel
theorem dL_law_315 : decode cL_law 315 = .ok (.iload_n 3, 1) := by decide +kernel
theorem dL_law_316 : decode cL_law 316 = .ok (.iconst 1, 1) := by decide +kernel
theorem dL_law_317 : decode cL_law 317 = .ok (.iadd, 1) := by decide +kernel
theorem dL_law_318 : decode cL_law 318 = .ok (.iaload, 1) := by decide +kernel
theorem dL_law_319 : decode cL_law 319 = .ok (.invokevirtual 43, 3) := by decide +kernel
theorem dL_law_322 : decode cL_law 322 = .ok (.if_icmp .eq 506, 3) := by decide +kernel
theorem dL_law_325 : decode cL_law 325 = .ok (.iconst 0, 1) := by decide +kernel
theorem dL_law_326 : decode cL_law 326 = .ok (.ireturn, 1) := by decide +kernel
theorem dL_law_327 : decode cL_law 327 = .ok (.aload_n 1, 1) := by decide +kernel
theorem dL_law_328 : decode cL_law 328 = .ok (.aload_n 0, 1) := by decide +kernel
theorem dL_law_329 : decode cL_law 329 = .ok (.iload_n 3, 1) := by decide +kernel
theorem dL_law_330 : decode cL_law 330 = .ok (.iconst 1, 1) := by decide +kernel
theorem dL_law_331 : decode cL_law 331 = .ok (.iadd, 1) := by decide +kernel
theorem dL_law_332 : decode cL_law 332 = .ok (.iaload, 1) := by decide +kernel
theorem dL_law_333 : decode cL_law 333 = .ok (.invokevirtual 44, 3) := by decide +kernel
theorem dL_law_336 : decode cL_law 336 = .ok (.aload_n 2, 1) := by decide +kernel
theorem dL_law_337 : decode cL_law 337 = .ok (.aload_n 0, 1) := by decide +kernel
theorem dL_law_338 : decode cL_law 338 = .ok (.iload_n 3, 1) := by decide +kernel
theorem dL_law_339 : decode cL_law 339 = .ok (.iconst 1, 1) := by decide +kernel
theorem dL_law_340 : decode cL_law 340 = .ok (.iadd, 1) := by decide +kernel
theorem dL_law_341 : decode cL_law 341 = .ok (.iaload, 1) := by decide +kernel
theorem dL_law_342 : decode cL_law 342 = .ok (.invokevirtual 47, 3) := by decide +kernel
theorem dL_law_345 : decode cL_law 345 = .ok (.if_icmp .eq 483, 3) := by decide +kernel
theorem dL_law_348 : decode cL_law 348 = .ok (.iconst 0, 1) := by decide +kernel
theorem dL_law_349 : decode cL_law 349 = .ok (.ireturn, 1) := by decide +kernel
theorem dL_law_350 : decode cL_law 350 = .ok (.aload_n 1, 1) := by decide +kernel
theorem dL_law_351 : decode cL_law 351 = .ok (.aload_n 0, 1) := by decide +kernel
theorem dL_law_352 : decode cL_law 352 = .ok (.iload_n 3, 1) := by decide +kernel
theorem dL_law_353 : decode cL_law 353 = .ok (.iconst 1, 1) := by decide +kernel
theorem dL_law_354 : decode cL_law 354 = .ok (.iadd, 1) := by decide +kernel
theorem dL_law_355 : decode cL_law 355 = .ok (.iaload, 1) := by decide +kernel
theorem dL_law_356 : decode cL_law 356 = .ok (.aload_n 0, 1) := by decide +kernel
theorem dL_law_357 : decode cL_law 357 = .ok (.iload_n 3, 1) := by decide +kernel
theorem dL_law_358 : decode cL_law 358 = .ok (.iconst 2, 1) := by decide +kernel
theorem dL_law_359 : decode cL_law 359 = .ok (.iadd, 1) := by decide +kernel
theorem dL_law_360 : decode cL_law 360 = .ok (.iaload, 1) := by decide +kernel
theorem dL_law_361 : decode cL_law 361 = .ok (.invokevirtual 48, 3) := by decide +kernel
theorem dL_law_364 : decode cL_law 364 = .ok (.aload_n 2, 1) := by decide +kernel
theorem dL_law_365 : decode cL_law 365 = .ok (.aload_n 0, 1) := by decide +kernel
theorem dL_law_366 : decode cL_law 366 = .ok (.iload_n 3, 1) := by decide +kernel
theorem dL_law_367 : decode cL_law 367 = .ok (.iconst 1, 1) := by decide +kernel
theorem dL_law_368 : decode cL_law 368 = .ok (.iadd, 1) := by decide +kernel
theorem dL_law_369 : decode cL_law 369 = .ok (.iaload, 1) := by decide +kernel
theorem dL_law_370 : decode cL_law 370 = .ok (.aload_n 0, 1) := by decide +kernel
theorem dL_law_371 : decode cL_law 371 = .ok (.iload_n 3, 1) := by decide +kernel
theorem dL_law_372 : decode cL_law 372 = .ok (.iconst 2, 1) := by decide +kernel
theorem dL_law_373 : decode cL_law 373 = .ok (.iadd, 1) := by decide +kernel
theorem dL_law_374 : decode cL_law 374 = .ok (.iaload, 1) := by decide +kernel
theorem dL_law_375 : decode cL_law 375 = .ok (.invokevirtual 51, 3) := by decide +kernel
theorem dL_law_378 : decode cL_law 378 = .ok (.if_icmp .eq 450, 3) := by decide +kernel
theorem dL_law_381 : decode cL_law 381 = .ok (.iconst 0, 1) := by decide +kernel
theorem dL_law_382 : decode cL_law 382 = .ok (.ireturn, 1) := by decide +kernel
theorem dL_law_383 : decode cL_law 383 = .ok (.aload_n 1, 1) := by decide +kernel
theorem dL_law_384 : decode cL_law 384 = .ok (.aload_n 0, 1) := by decide +kernel
theorem dL_law_385 : decode cL_law 385 = .ok (.iload_n 3, 1) := by decide +kernel
theorem dL_law_386 : decode cL_law 386 = .ok (.iconst 1, 1) := by decide +kernel
theorem dL_law_387 : decode cL_law 387 = .ok (.iadd, 1) := by decide +kernel
theorem dL_law_388 : decode cL_law 388 = .ok (.iaload, 1) := by decide +kernel
theorem dL_law_389 : decode cL_law 389 = .ok (.invokevirtual 52, 3) := by decide +kernel
theorem dL_law_392 : decode cL_law 392 = .ok (.aload_n 2, 1) := by decide +kernel
theorem dL_law_393 : decode cL_law 393 = .ok (.aload_n 0, 1) := by decide +kernel
theorem dL_law_394 : decode cL_law 394 = .ok (.iload_n 3, 1) := by decide +kernel
theorem dL_law_395 : decode cL_law 395 = .ok (.iconst 1, 1) := by decide +kernel
theorem dL_law_396 : decode cL_law 396 = .ok (.iadd, 1) := by decide +kernel
theorem dL_law_397 : decode cL_law 397 = .ok (.iaload, 1) := by decide +kernel
theorem dL_law_398 : decode cL_law 398 = .ok (.invokevirtual 55, 3) := by decide +kernel
theorem dL_law_401 : decode cL_law 401 = .ok (.if_icmp .eq 427, 3) := by decide +kernel
theorem dL_law_404 : decode cL_law 404 = .ok (.iconst 0, 1) := by decide +kernel
theorem dL_law_405 : decode cL_law 405 = .ok (.ireturn, 1) := by decide +kernel
theorem dL_law_406 : decode cL_law 406 = .ok (.aload_n 1, 1) := by decide +kernel
theorem dL_law_407 : decode cL_law 407 = .ok (.invokevirtual 56, 3) := by decide +kernel
theorem dL_law_410 : decode cL_law 410 = .ok (.aload_n 2, 1) := by decide +kernel
theorem dL_law_411 : decode cL_law 411 = .ok (.invokevirtual 59, 3) := by decide +kernel
theorem dL_law_414 : decode cL_law 414 = .ok (.if_icmp .eq 414, 3) := by decide +kernel
theorem dL_law_417 : decode cL_law 417 = .ok (.iconst 0, 1) := by decide +kernel
theorem dL_law_418 : decode cL_law 418 = .ok (.ireturn, 1) := by decide +kernel
theorem dL_law_419 : decode cL_law 419 = .ok (.aload_n 1, 1) := by decide +kernel
theorem dL_law_420 : decode cL_law 420 = .ok (.aload_n 0, 1) := by decide +kernel
theorem dL_law_421 : decode cL_law 421 = .ok (.iload_n 3, 1) := by decide +kernel
theorem dL_law_422 : decode cL_law 422 = .ok (.iconst 1, 1) := by decide +kernel
theorem dL_law_423 : decode cL_law 423 = .ok (.iadd, 1) := by decide +kernel
theorem dL_law_424 : decode cL_law 424 = .ok (.iaload, 1) := by decide +kernel
theorem dL_law_425 : decode cL_law 425 = .ok (.invokevirtual 60, 3) := by decide +kernel
theorem dL_law_428 : decode cL_law 428 = .ok (.aload_n 2, 1) := by decide +kernel
theorem dL_law_429 : decode cL_law 429 = .ok (.aload_n 0, 1) := by decide +kernel
theorem dL_law_430 : decode cL_law 430 = .ok (.iload_n 3, 1) := by decide +kernel
theorem dL_law_431 : decode cL_law 431 = .ok (.iconst 1, 1) := by decide +kernel
theorem dL_law_432 : decode cL_law 432 = .ok (.iadd, 1) := by decide +kernel
theorem dL_law_433 : decode cL_law 433 = .ok (.iaload, 1) := by decide +kernel
theorem dL_law_434 : decode cL_law 434 = .ok (.invokevirtual 63, 3) := by decide +kernel
theorem dL_law_437 : decode cL_law 437 = .ok (.if_icmp .eq 391, 3) := by decide +kernel
theorem dL_law_440 : decode cL_law 440 = .ok (.iconst 0, 1) := by decide +kernel
theorem dL_law_441 : decode cL_law 441 = .ok (.ireturn, 1) := by decide +kernel
theorem dL_law_442 : decode cL_law 442 = .ok (.aload_n 1, 1) := by decide +kernel
theorem dL_law_443 : decode cL_law 443 = .ok (.aload_n 0, 1) := by decide +kernel
theorem dL_law_444 : decode cL_law 444 = .ok (.iload_n 3, 1) := by decide +kernel
theorem dL_law_445 : decode cL_law 445 = .ok (.iconst 1, 1) := by decide +kernel
theorem dL_law_446 : decode cL_law 446 = .ok (.iadd, 1) := by decide +kernel
theorem dL_law_447 : decode cL_law 447 = .ok (.iaload, 1) := by decide +kernel
theorem dL_law_448 : decode cL_law 448 = .ok (.aload_n 0, 1) := by decide +kernel
theorem dL_law_449 : decode cL_law 449 = .ok (.iload_n 3, 1) := by decide +kernel
theorem dL_law_450 : decode cL_law 450 = .ok (.iconst 2, 1) := by decide +kernel
theorem dL_law_451 : decode cL_law 451 = .ok (.iadd, 1) := by decide +kernel
theorem dL_law_452 : decode cL_law 452 = .ok (.iaload, 1) := by decide +kernel
theorem dL_law_453 : decode cL_law 453 = .ok (.invokevirtual 64, 3) := by decide +kernel
theorem dL_law_456 : decode cL_law 456 = .ok (.aload_n 2, 1) := by decide +kernel
theorem dL_law_457 : decode cL_law 457 = .ok (.aload_n 0, 1) := by decide +kernel
theorem dL_law_458 : decode cL_law 458 = .ok (.iload_n 3, 1) := by decide +kernel
theorem dL_law_459 : decode cL_law 459 = .ok (.iconst 1, 1) := by decide +kernel
theorem dL_law_460 : decode cL_law 460 = .ok (.iadd, 1) := by decide +kernel
theorem dL_law_461 : decode cL_law 461 = .ok (.iaload, 1) := by decide +kernel
theorem dL_law_462 : decode cL_law 462 = .ok (.aload_n 0, 1) := by decide +kernel
theorem dL_law_463 : decode cL_law 463 = .ok (.iload_n 3, 1) := by decide +kernel
theorem dL_law_464 : decode cL_law 464 = .ok (.iconst 2, 1) := by decide +kernel
theorem dL_law_465 : decode cL_law 465 = .ok (.iadd, 1) := by decide +kernel
theorem dL_law_466 : decode cL_law 466 = .ok (.iaload, 1) := by decide +kernel
theorem dL_law_467 : decode cL_law 467 = .ok (.invokevirtual 67, 3) := by decide +kernel
theorem dL_law_470 : decode cL_law 470 = .ok (.if_icmp .eq 358, 3) := by decide +kernel
theorem dL_law_473 : decode cL_law 473 = .ok (.iconst 0, 1) := by decide +kernel
theorem dL_law_474 : decode cL_law 474 = .ok (.ireturn, 1) := by decide +kernel
theorem dL_law_475 : decode cL_law 475 = .ok (.aload_n 1, 1) := by decide +kernel
theorem dL_law_476 : decode cL_law 476 = .ok (.aload_n 0, 1) := by decide +kernel
theorem dL_law_477 : decode cL_law 477 = .ok (.iload_n 3, 1) := by decide +kernel
theorem dL_law_478 : decode cL_law 478 = .ok (.iconst 1, 1) := by decide +kernel
theorem dL_law_479 : decode cL_law 479 = .ok (.iadd, 1) := by decide +kernel
theorem dL_law_480 : decode cL_law 480 = .ok (.iaload, 1) := by decide +kernel
theorem dL_law_481 : decode cL_law 481 = .ok (.aload_n 0, 1) := by decide +kernel
theorem dL_law_482 : decode cL_law 482 = .ok (.iload_n 3, 1) := by decide +kernel
theorem dL_law_483 : decode cL_law 483 = .ok (.iconst 2, 1) := by decide +kernel
theorem dL_law_484 : decode cL_law 484 = .ok (.iadd, 1) := by decide +kernel
theorem dL_law_485 : decode cL_law 485 = .ok (.iaload, 1) := by decide +kernel
theorem dL_law_486 : decode cL_law 486 = .ok (.invokevirtual 68, 3) := by decide +kernel
theorem dL_law_489 : decode cL_law 489 = .ok (.aload_n 2, 1) := by decide +kernel
theorem dL_law_490 : decode cL_law 490 = .ok (.aload_n 0, 1) := by decide +kernel
theorem dL_law_491 : decode cL_law 491 = .ok (.iload_n 3, 1) := by decide +kernel
theorem dL_law_492 : decode cL_law 492 = .ok (.iconst 1, 1) := by decide +kernel
theorem dL_law_493 : decode cL_law 493 = .ok (.iadd, 1) := by decide +kernel
theorem dL_law_494 : decode cL_law 494 = .ok (.iaload, 1) := by decide +kernel
theorem dL_law_495 : decode cL_law 495 = .ok (.aload_n 0, 1) := by decide +kernel
theorem dL_law_496 : decode cL_law 496 = .ok (.iload_n 3, 1) := by decide +kernel
theorem dL_law_497 : decode cL_law 497 = .ok (.iconst 2, 1) := by decide +kernel
theorem dL_law_498 : decode cL_law 498 = .ok (.iadd, 1) := by decide +kernel
theorem dL_law_499 : decode cL_law 499 = .ok (.iaload, 1) := by decide +kernel
theorem dL_law_500 : decode cL_law 500 = .ok (.invokevirtual 71, 3) := by decide +kernel
theorem dL_law_503 : decode cL_law 503 = .ok (.if_icmp .eq 325, 3) := by decide +kernel
theorem dL_law_506 : decode cL_law 506 = .ok (.iconst 0, 1) := by decide +kernel
theorem dL_law_507 : decode cL_law 507 = .ok (.ireturn, 1) := by decide +kernel
theorem dL_law_508 : decode cL_law 508 = .ok (.aload_n 1, 1) := by decide +kernel
theorem dL_law_509 : decode cL_law 509 = .ok (.aload_n 0, 1) := by decide +kernel
theorem dL_law_510 : decode cL_law 510 = .ok (.iload_n 3, 1) := by decide +kernel
theorem dL_law_511 : decode cL_law 511 = .ok (.iconst 1, 1) := by decide +kernel
theorem dL_law_512 : decode cL_law 512 = .ok (.iadd, 1) := by decide +kernel
theorem dL_law_513 : decode cL_law 513 = .ok (.iaload, 1) := by decide +kernel
theorem dL_law_514 : decode cL_law 514 = .ok (.invokevirtual 72, 3) := by decide +kernel
theorem dL_law_517 : decode cL_law 517 = .ok (.aload_n 2, 1) := by decide +kernel
theorem dL_law_518 : decode cL_law 518 = .ok (.aload_n 0, 1) := by decide +kernel
theorem dL_law_519 : decode cL_law 519 = .ok (.iload_n 3, 1) := by decide +kernel
theorem dL_law_520 : decode cL_law 520 = .ok (.iconst 1, 1) := by decide +kernel
theorem dL_law_521 : decode cL_law 521 = .ok (.iadd, 1) := by decide +kernel
theorem dL_law_522 : decode cL_law 522 = .ok (.iaload, 1) := by decide +kernel
theorem dL_law_523 : decode cL_law 523 = .ok (.invokevirtual 75, 3) := by decide +kernel
theorem dL_law_526 : decode cL_law 526 = .ok (.if_icmp .eq 302, 3) := by decide +kernel
theorem dL_law_529 : decode cL_law 529 = .ok (.iconst 0, 1) := by decide +kernel
theorem dL_law_530 : decode cL_law 530 = .ok (.ireturn, 1) := by decide +kernel
theorem dL_law_531 : decode cL_law 531 = .ok (.aload_n 1, 1) := by decide +kernel
theorem dL_law_532 : decode cL_law 532 = .ok (.aload_n 0, 1) := by decide +kernel
theorem dL_law_533 : decode cL_law 533 = .ok (.iload_n 3, 1) := by decide +kernel
theorem dL_law_534 : decode cL_law 534 = .ok (.iconst 1, 1) := by decide +kernel
theorem dL_law_535 : decode cL_law 535 = .ok (.iadd, 1) := by decide +kernel
theorem dL_law_536 : decode cL_law 536 = .ok (.iaload, 1) := by decide +kernel
theorem dL_law_537 : decode cL_law 537 = .ok (.aload_n 0, 1) := by decide +kernel
theorem dL_law_538 : decode cL_law 538 = .ok (.iload_n 3, 1) := by decide +kernel
theorem dL_law_539 : decode cL_law 539 = .ok (.iconst 2, 1) := by decide +kernel
theorem dL_law_540 : decode cL_law 540 = .ok (.iadd, 1) := by decide +kernel
theorem dL_law_541 : decode cL_law 541 = .ok (.iaload, 1) := by decide +kernel
theorem dL_law_542 : decode cL_law 542 = .ok (.invokevirtual 76, 3) := by decide +kernel
theorem dL_law_545 : decode cL_law 545 = .ok (.aload_n 2, 1) := by decide +kernel
theorem dL_law_546 : decode cL_law 546 = .ok (.aload_n 0, 1) := by decide +kernel
theorem dL_law_547 : decode cL_law 547 = .ok (.iload_n 3, 1) := by decide +kernel
theorem dL_law_548 : decode cL_law 548 = .ok (.iconst 1, 1) := by decide +kernel
theorem dL_law_549 : decode cL_law 549 = .ok (.iadd, 1) := by decide +kernel
theorem dL_law_550 : decode cL_law 550 = .ok (.iaload, 1) := by decide +kernel
theorem dL_law_551 : decode cL_law 551 = .ok (.aload_n 0, 1) := by decide +kernel
theorem dL_law_552 : decode cL_law 552 = .ok (.iload_n 3, 1) := by decide +kernel
theorem dL_law_553 : decode cL_law 553 = .ok (.iconst 2, 1) := by decide +kernel
theorem dL_law_554 : decode cL_law 554 = .ok (.iadd, 1) := by decide +kernel
theorem dL_law_555 : decode cL_law 555 = .ok (.iaload, 1) := by decide +kernel
theorem dL_law_556 : decode cL_law 556 = .ok (.invokevirtual 79, 3) := by decide +kernel
theorem dL_law_559 : decode cL_law 559 = .ok (.if_icmp .eq 269, 3) := by decide +kernel
theorem dL_law_562 : decode cL_law 562 = .ok (.iconst 0, 1) := by decide +kernel
theorem dL_law_563 : decode cL_law 563 = .ok (.ireturn, 1) := by decide +kernel
theorem dL_law_564 : decode cL_law 564 = .ok (.aload_n 1, 1) := by decide +kernel
theorem dL_law_565 : decode cL_law 565 = .ok (.aload_n 0, 1) := by decide +kernel
theorem dL_law_566 : decode cL_law 566 = .ok (.iload_n 3, 1) := by decide +kernel
theorem dL_law_567 : decode cL_law 567 = .ok (.iconst 1, 1) := by decide +kernel
theorem dL_law_568 : decode cL_law 568 = .ok (.iadd, 1) := by decide +kernel
theorem dL_law_569 : decode cL_law 569 = .ok (.iaload, 1) := by decide +kernel
theorem dL_law_570 : decode cL_law 570 = .ok (.aload_n 0, 1) := by decide +kernel
theorem dL_law_571 : decode cL_law 571 = .ok (.iload_n 3, 1) := by decide +kernel
theorem dL_law_572 : decode cL_law 572 = .ok (.iconst 2, 1) := by decide +kernel
theorem dL_law_573 : decode cL_law 573 = .ok (.iadd, 1) := by decide +kernel
theorem dL_law_574 : decode cL_law 574 = .ok (.iaload, 1) := by decide +kernel
theorem dL_law_575 : decode cL_law 575 = .ok (.invokevirtual 80, 3) := by decide +kernel
theorem dL_law_578 : decode cL_law 578 = .ok (.aload_n 2, 1) := by decide +kernel
theorem dL_law_579 : decode cL_law 579 = .ok (.aload_n 0, 1) := by decide +kernel
theorem dL_law_580 : decode cL_law 580 = .ok (.iload_n 3, 1) := by decide +kernel
theorem dL_law_581 : decode cL_law 581 = .ok (.iconst 1, 1) := by decide +kernel
theorem dL_law_582 : decode cL_law 582 = .ok (.iadd, 1) := by decide +kernel
theorem dL_law_583 : decode cL_law 583 = .ok (.iaload, 1) := by decide +kernel
theorem dL_law_584 : decode cL_law 584 = .ok (.aload_n 0, 1) := by decide +kernel
theorem dL_law_585 : decode cL_law 585 = .ok (.iload_n 3, 1) := by decide +kernel
theorem dL_law_586 : decode cL_law 586 = .ok (.iconst 2, 1) := by decide +kernel
theorem dL_law_587 : decode cL_law 587 = .ok (.iadd, 1) := by decide +kernel
theorem dL_law_588 : decode cL_law 588 = .ok (.iaload, 1) := by decide +kernel
theorem dL_law_589 : decode cL_law 589 = .ok (.invokevirtual 83, 3) := by decide +kernel
theorem dL_law_592 : decode cL_law 592 = .ok (.if_icmp .eq 236, 3) := by decide +kernel
theorem dL_law_595 : decode cL_law 595 = .ok (.iconst 0, 1) := by decide +kernel
theorem dL_law_596 : decode cL_law 596 = .ok (.ireturn, 1) := by decide +kernel
theorem dL_law_597 : decode cL_law 597 = .ok (.aload_n 1, 1) := by decide +kernel
theorem dL_law_598 : decode cL_law 598 = .ok (.aload_n 0, 1) := by decide +kernel
theorem dL_law_599 : decode cL_law 599 = .ok (.iload_n 3, 1) := by decide +kernel
theorem dL_law_600 : decode cL_law 600 = .ok (.iconst 1, 1) := by decide +kernel
theorem dL_law_601 : decode cL_law 601 = .ok (.iadd, 1) := by decide +kernel
theorem dL_law_602 : decode cL_law 602 = .ok (.iaload, 1) := by decide +kernel
theorem dL_law_603 : decode cL_law 603 = .ok (.aload_n 0, 1) := by decide +kernel
theorem dL_law_604 : decode cL_law 604 = .ok (.iload_n 3, 1) := by decide +kernel
theorem dL_law_605 : decode cL_law 605 = .ok (.iconst 2, 1) := by decide +kernel
theorem dL_law_606 : decode cL_law 606 = .ok (.iadd, 1) := by decide +kernel
theorem dL_law_607 : decode cL_law 607 = .ok (.iaload, 1) := by decide +kernel
theorem dL_law_608 : decode cL_law 608 = .ok (.aload_n 0, 1) := by decide +kernel
theorem dL_law_609 : decode cL_law 609 = .ok (.iload_n 3, 1) := by decide +kernel
theorem dL_law_610 : decode cL_law 610 = .ok (.iconst 3, 1) := by decide +kernel
theorem dL_law_611 : decode cL_law 611 = .ok (.iadd, 1) := by decide +kernel
theorem dL_law_612 : decode cL_law 612 = .ok (.iaload, 1) := by decide +kernel
theorem dL_law_613 : decode cL_law 613 = .ok (.invokevirtual 84, 3) := by decide +kernel
theorem dL_law_616 : decode cL_law 616 = .ok (.aload_n 2, 1) := by decide +kernel
theorem dL_law_617 : decode cL_law 617 = .ok (.aload_n 0, 1) := by decide +kernel
theorem dL_law_618 : decode cL_law 618 = .ok (.iload_n 3, 1) := by decide +kernel
theorem dL_law_619 : decode cL_law 619 = .ok (.iconst 1, 1) := by decide +kernel
theorem dL_law_620 : decode cL_law 620 = .ok (.iadd, 1) := by decide +kernel
theorem dL_law_621 : decode cL_law 621 = .ok (.iaload, 1) := by decide +kernel
theorem dL_law_622 : decode cL_law 622 = .ok (.aload_n 0, 1) := by decide +kernel
theorem dL_law_623 : decode cL_law 623 = .ok (.iload_n 3, 1) := by decide +kernel
theorem dL_law_624 : decode cL_law 624 = .ok (.iconst 2, 1) := by decide +kernel
theorem dL_law_625 : decode cL_law 625 = .ok (.iadd, 1) := by decide +kernel
theorem dL_law_626 : decode cL_law 626 = .ok (.iaload, 1) := by decide +kernel
theorem dL_law_627 : decode cL_law 627 = .ok (.aload_n 0, 1) := by decide +kernel
theorem dL_law_628 : decode cL_law 628 = .ok (.iload_n 3, 1) := by decide +kernel
theorem dL_law_629 : decode cL_law 629 = .ok (.iconst 3, 1) := by decide +kernel
theorem dL_law_630 : decode cL_law 630 = .ok (.iadd, 1) := by decide +kernel
theorem dL_law_631 : decode cL_law 631 = .ok (.iaload, 1) := by decide +kernel
theorem dL_law_632 : decode cL_law 632 = .ok (.invokevirtual 88, 3) := by decide +kernel
theorem dL_law_635 : decode cL_law 635 = .ok (.if_icmp .eq 193, 3) := by decide +kernel
theorem dL_law_638 : decode cL_law 638 = .ok (.iconst 0, 1) := by decide +kernel
theorem dL_law_639 : decode cL_law 639 = .ok (.ireturn, 1) := by decide +kernel
theorem dL_law_640 : decode cL_law 640 = .ok (.aload_n 1, 1) := by decide +kernel
theorem dL_law_641 : decode cL_law 641 = .ok (.aload_n 0, 1) := by decide +kernel
theorem dL_law_642 : decode cL_law 642 = .ok (.iload_n 3, 1) := by decide +kernel
theorem dL_law_643 : decode cL_law 643 = .ok (.iconst 1, 1) := by decide +kernel
theorem dL_law_644 : decode cL_law 644 = .ok (.iadd, 1) := by decide +kernel
theorem dL_law_645 : decode cL_law 645 = .ok (.iaload, 1) := by decide +kernel
theorem dL_law_646 : decode cL_law 646 = .ok (.aload_n 0, 1) := by decide +kernel
theorem dL_law_647 : decode cL_law 647 = .ok (.iload_n 3, 1) := by decide +kernel
theorem dL_law_648 : decode cL_law 648 = .ok (.iconst 2, 1) := by decide +kernel
theorem dL_law_649 : decode cL_law 649 = .ok (.iadd, 1) := by decide +kernel
theorem dL_law_650 : decode cL_law 650 = .ok (.iaload, 1) := by decide +kernel
theorem dL_law_651 : decode cL_law 651 = .ok (.invokevirtual 89, 3) := by decide +kernel
theorem dL_law_654 : decode cL_law 654 = .ok (.aload_n 2, 1) := by decide +kernel
theorem dL_law_655 : decode cL_law 655 = .ok (.aload_n 0, 1) := by decide +kernel
theorem dL_law_656 : decode cL_law 656 = .ok (.iload_n 3, 1) := by decide +kernel
theorem dL_law_657 : decode cL_law 657 = .ok (.iconst 1, 1) := by decide +kernel
theorem dL_law_658 : decode cL_law 658 = .ok (.iadd, 1) := by decide +kernel
theorem dL_law_659 : decode cL_law 659 = .ok (.iaload, 1) := by decide +kernel
theorem dL_law_660 : decode cL_law 660 = .ok (.aload_n 0, 1) := by decide +kernel
theorem dL_law_661 : decode cL_law 661 = .ok (.iload_n 3, 1) := by decide +kernel
theorem dL_law_662 : decode cL_law 662 = .ok (.iconst 2, 1) := by decide +kernel
theorem dL_law_663 : decode cL_law 663 = .ok (.iadd, 1) := by decide +kernel
theorem dL_law_664 : decode cL_law 664 = .ok (.iaload, 1) := by decide +kernel
theorem dL_law_665 : decode cL_law 665 = .ok (.invokevirtual 92, 3) := by decide +kernel
theorem dL_law_668 : decode cL_law 668 = .ok (.if_icmp .eq 160, 3) := by decide +kernel
theorem dL_law_671 : decode cL_law 671 = .ok (.iconst 0, 1) := by decide +kernel
theorem dL_law_672 : decode cL_law 672 = .ok (.ireturn, 1) := by decide +kernel
theorem dL_law_673 : decode cL_law 673 = .ok (.aload_n 1, 1) := by decide +kernel
theorem dL_law_674 : decode cL_law 674 = .ok (.invokevirtual 93, 3) := by decide +kernel
theorem dL_law_677 : decode cL_law 677 = .ok (.aload_n 2, 1) := by decide +kernel
theorem dL_law_678 : decode cL_law 678 = .ok (.invokevirtual 96, 3) := by decide +kernel
theorem dL_law_681 : decode cL_law 681 = .ok (.if_icmp .eq 147, 3) := by decide +kernel
theorem dL_law_684 : decode cL_law 684 = .ok (.iconst 0, 1) := by decide +kernel
theorem dL_law_685 : decode cL_law 685 = .ok (.ireturn, 1) := by decide +kernel
theorem dL_law_686 : decode cL_law 686 = .ok (.aload_n 1, 1) := by decide +kernel
theorem dL_law_687 : decode cL_law 687 = .ok (.invokevirtual 97, 3) := by decide +kernel
theorem dL_law_690 : decode cL_law 690 = .ok (.aload_n 2, 1) := by decide +kernel
theorem dL_law_691 : decode cL_law 691 = .ok (.invokevirtual 100, 3) := by decide +kernel
theorem dL_law_694 : decode cL_law 694 = .ok (.if_icmp .eq 134, 3) := by decide +kernel
theorem dL_law_697 : decode cL_law 697 = .ok (.iconst 0, 1) := by decide +kernel
theorem dL_law_698 : decode cL_law 698 = .ok (.ireturn, 1) := by decide +kernel
theorem dL_law_699 : decode cL_law 699 = .ok (.aload_n 1, 1) := by decide +kernel
theorem dL_law_700 : decode cL_law 700 = .ok (.invokevirtual 101, 3) := by decide +kernel
theorem dL_law_703 : decode cL_law 703 = .ok (.aload_n 2, 1) := by decide +kernel
theorem dL_law_704 : decode cL_law 704 = .ok (.invokevirtual 104, 3) := by decide +kernel
theorem dL_law_707 : decode cL_law 707 = .ok (.if_icmp .eq 121, 3) := by decide +kernel
theorem dL_law_710 : decode cL_law 710 = .ok (.iconst 0, 1) := by decide +kernel
theorem dL_law_711 : decode cL_law 711 = .ok (.ireturn, 1) := by decide +kernel
theorem dL_law_712 : decode cL_law 712 = .ok (.aload_n 1, 1) := by decide +kernel
theorem dL_law_713 : decode cL_law 713 = .ok (.aload_n 0, 1) := by decide +kernel
theorem dL_law_714 : decode cL_law 714 = .ok (.iload_n 3, 1) := by decide +kernel
theorem dL_law_715 : decode cL_law 715 = .ok (.iconst 1, 1) := by decide +kernel
theorem dL_law_716 : decode cL_law 716 = .ok (.iadd, 1) := by decide +kernel
theorem dL_law_717 : decode cL_law 717 = .ok (.iaload, 1) := by decide +kernel
theorem dL_law_718 : decode cL_law 718 = .ok (.aload_n 0, 1) := by decide +kernel
theorem dL_law_719 : decode cL_law 719 = .ok (.iload_n 3, 1) := by decide +kernel
theorem dL_law_720 : decode cL_law 720 = .ok (.iconst 2, 1) := by decide +kernel
theorem dL_law_721 : decode cL_law 721 = .ok (.iadd, 1) := by decide +kernel
theorem dL_law_722 : decode cL_law 722 = .ok (.iaload, 1) := by decide +kernel
theorem dL_law_723 : decode cL_law 723 = .ok (.invokevirtual 105, 3) := by decide +kernel
theorem dL_law_726 : decode cL_law 726 = .ok (.aload_n 2, 1) := by decide +kernel
theorem dL_law_727 : decode cL_law 727 = .ok (.aload_n 0, 1) := by decide +kernel
theorem dL_law_728 : decode cL_law 728 = .ok (.iload_n 3, 1) := by decide +kernel
theorem dL_law_729 : decode cL_law 729 = .ok (.iconst 1, 1) := by decide +kernel
theorem dL_law_730 : decode cL_law 730 = .ok (.iadd, 1) := by decide +kernel
theorem dL_law_731 : decode cL_law 731 = .ok (.iaload, 1) := by decide +kernel
theorem dL_law_732 : decode cL_law 732 = .ok (.aload_n 0, 1) := by decide +kernel
theorem dL_law_733 : decode cL_law 733 = .ok (.iload_n 3, 1) := by decide +kernel
theorem dL_law_734 : decode cL_law 734 = .ok (.iconst 2, 1) := by decide +kernel
theorem dL_law_735 : decode cL_law 735 = .ok (.iadd, 1) := by decide +kernel
theorem dL_law_736 : decode cL_law 736 = .ok (.iaload, 1) := by decide +kernel
theorem dL_law_737 : decode cL_law 737 = .ok (.invokevirtual 108, 3) := by decide +kernel
theorem dL_law_740 : decode cL_law 740 = .ok (.if_icmp .eq 88, 3) := by decide +kernel
theorem dL_law_743 : decode cL_law 743 = .ok (.iconst 0, 1) := by decide +kernel
theorem dL_law_744 : decode cL_law 744 = .ok (.ireturn, 1) := by decide +kernel
theorem dL_law_745 : decode cL_law 745 = .ok (.aload_n 1, 1) := by decide +kernel
theorem dL_law_746 : decode cL_law 746 = .ok (.aload_n 0, 1) := by decide +kernel
theorem dL_law_747 : decode cL_law 747 = .ok (.iload_n 3, 1) := by decide +kernel
theorem dL_law_748 : decode cL_law 748 = .ok (.iconst 1, 1) := by decide +kernel
theorem dL_law_749 : decode cL_law 749 = .ok (.iadd, 1) := by decide +kernel
theorem dL_law_750 : decode cL_law 750 = .ok (.iaload, 1) := by decide +kernel
theorem dL_law_751 : decode cL_law 751 = .ok (.invokevirtual 109, 3) := by decide +kernel
theorem dL_law_754 : decode cL_law 754 = .ok (.aload_n 2, 1) := by decide +kernel
theorem dL_law_755 : decode cL_law 755 = .ok (.aload_n 0, 1) := by decide +kernel
theorem dL_law_756 : decode cL_law 756 = .ok (.iload_n 3, 1) := by decide +kernel
theorem dL_law_757 : decode cL_law 757 = .ok (.iconst 1, 1) := by decide +kernel
theorem dL_law_758 : decode cL_law 758 = .ok (.iadd, 1) := by decide +kernel
theorem dL_law_759 : decode cL_law 759 = .ok (.iaload, 1) := by decide +kernel
theorem dL_law_760 : decode cL_law 760 = .ok (.invokevirtual 112, 3) := by decide +kernel
theorem dL_law_763 : decode cL_law 763 = .ok (.if_icmp .eq 65, 3) := by decide +kernel
theorem dL_law_766 : decode cL_law 766 = .ok (.iconst 0, 1) := by decide +kernel
theorem dL_law_767 : decode cL_law 767 = .ok (.ireturn, 1) := by decide +kernel
theorem dL_law_768 : decode cL_law 768 = .ok (.aload_n 1, 1) := by decide +kernel
theorem dL_law_769 : decode cL_law 769 = .ok (.aload_n 0, 1) := by decide +kernel
theorem dL_law_770 : decode cL_law 770 = .ok (.iload_n 3, 1) := by decide +kernel
theorem dL_law_771 : decode cL_law 771 = .ok (.iconst 1, 1) := by decide +kernel
theorem dL_law_772 : decode cL_law 772 = .ok (.iadd, 1) := by decide +kernel
theorem dL_law_773 : decode cL_law 773 = .ok (.iaload, 1) := by decide +kernel
theorem dL_law_774 : decode cL_law 774 = .ok (.invokevirtual 113, 3) := by decide +kernel
theorem dL_law_777 : decode cL_law 777 = .ok (.aload_n 2, 1) := by decide +kernel
theorem dL_law_778 : decode cL_law 778 = .ok (.aload_n 0, 1) := by decide +kernel
theorem dL_law_779 : decode cL_law 779 = .ok (.iload_n 3, 1) := by decide +kernel
theorem dL_law_780 : decode cL_law 780 = .ok (.iconst 1, 1) := by decide +kernel
theorem dL_law_781 : decode cL_law 781 = .ok (.iadd, 1) := by decide +kernel
theorem dL_law_782 : decode cL_law 782 = .ok (.iaload, 1) := by decide +kernel
theorem dL_law_783 : decode cL_law 783 = .ok (.invokevirtual 116, 3) := by decide +kernel
theorem dL_law_786 : decode cL_law 786 = .ok (.if_icmp .eq 42, 3) := by decide +kernel
theorem dL_law_789 : decode cL_law 789 = .ok (.iconst 0, 1) := by decide +kernel
theorem dL_law_790 : decode cL_law 790 = .ok (.ireturn, 1) := by decide +kernel
theorem dL_law_791 : decode cL_law 791 = .ok (.aload_n 1, 1) := by decide +kernel
theorem dL_law_792 : decode cL_law 792 = .ok (.aload_n 0, 1) := by decide +kernel
theorem dL_law_793 : decode cL_law 793 = .ok (.iload_n 3, 1) := by decide +kernel
theorem dL_law_794 : decode cL_law 794 = .ok (.iconst 1, 1) := by decide +kernel
theorem dL_law_795 : decode cL_law 795 = .ok (.iadd, 1) := by decide +kernel
theorem dL_law_796 : decode cL_law 796 = .ok (.iaload, 1) := by decide +kernel
theorem dL_law_797 : decode cL_law 797 = .ok (.invokevirtual 117, 3) := by decide +kernel
theorem dL_law_800 : decode cL_law 800 = .ok (.aload_n 2, 1) := by decide +kernel
theorem dL_law_801 : decode cL_law 801 = .ok (.aload_n 0, 1) := by decide +kernel
theorem dL_law_802 : decode cL_law 802 = .ok (.iload_n 3, 1) := by decide +kernel
theorem dL_law_803 : decode cL_law 803 = .ok (.iconst 1, 1) := by decide +kernel
theorem dL_law_804 : decode cL_law 804 = .ok (.iadd, 1) := by decide +kernel
theorem dL_law_805 : decode cL_law 805 = .ok (.iaload, 1) := by decide +kernel
theorem dL_law_806 : decode cL_law 806 = .ok (.invokevirtual 120, 3) := by decide +kernel
theorem dL_law_809 : decode cL_law 809 = .ok (.if_icmp .eq 19, 3) := by decide +kernel
theorem dL_law_812 : decode cL_law 812 = .ok (.iconst 0, 1) := by decide +kernel
theorem dL_law_813 : decode cL_law 813 = .ok (.ireturn, 1) := by decide +kernel
theorem dL_law_814 : decode cL_law 814 = .ok (.aload_n 1, 1) := by decide +kernel
theorem dL_law_815 : decode cL_law 815 = .ok (.invokevirtual 121, 3) := by decide +kernel
theorem dL_law_818 : decode cL_law 818 = .ok (.aload_n 2, 1) := by decide +kernel
theorem dL_law_819 : decode cL_law 819 = .ok (.invokevirtual 125, 3) := by decide +kernel
theorem dL_law_822 : decode cL_law 822 = .ok (.lcmp, 1) := by decide +kernel
theorem dL_law_823 : decode cL_law 823 = .ok (.ifCond .eq 5, 3) := by decide +kernel
theorem dL_law_826 : decode cL_law 826 = .ok (.iconst 0, 1) := by decide +kernel
theorem dL_law_827 : decode cL_law 827 = .ok (.ireturn, 1) := by decide +kernel
theorem dL_law_828 : decode cL_law 828 = .ok (.iinc 3 4, 3) := by decide +kernel
theorem dL_law_831 : decode cL_law 831 = .ok (.goto (-813), 3) := by decide +kernel
theorem dL_law_834 : decode cL_law 834 = .ok (.iconst 1, 1) := by decide +kernel
theorem dL_law_835 : decode cL_law 835 = .ok (.ireturn, 1) := by decide +kernel
end
section
/-! the words of the tables that calls carry along; each by its place; tokens of fields and calls: written by wip/whole/mkwords.py -/
def jv_T : List Cond := lw_tbl.filter goodWord
theorem jv_in {w : Cond} (i : Nat) (h : lw_tbl[i]? = some w) (g : goodWord w = true) : w ∈ jv_T := List.mem_filter.mpr ⟨List.mem_of_getElem? h, g⟩
theorem jv_good {ws : List Cond} (h : ∀ w ∈ ws, w ∈ jv_T) : GoodIn jv_T ws := fun w hw => ⟨h w hw, good_of_word (List.mem_filter.mp (h w hw)).2⟩
theorem mw_0 : (Jvm.Cond.selects "TemperNurses$Course" ({ cls := "TemperNurses$Course", name := "setCell", desc := "(II)V" } : Jvm.MethodName) ({ cls := "TemperNurses$Course", name := "setCell", desc := "(II)V" } : Jvm.MethodName)) ∈ jv_T := jv_in 0 (by decide +kernel) (by decide +kernel)
theorem mw_1 : (Jvm.Cond.selects "TemperNurses$TextReader" ({ cls := "TemperNurses$TextReader", name := "readToken", desc := "()V" } : Jvm.MethodName) ({ cls := "TemperNurses$TextReader", name := "readToken", desc := "()V" } : Jvm.MethodName)) ∈ jv_T := jv_in 1 (by decide +kernel) (by decide +kernel)
theorem mw_2 : (Jvm.Cond.selects "TemperNurses$TextReader" ({ cls := "TemperNurses$TextReader", name := "byteAt", desc := "(I)I" } : Jvm.MethodName) ({ cls := "TemperNurses$TextReader", name := "byteAt", desc := "(I)I" } : Jvm.MethodName)) ∈ jv_T := jv_in 2 (by decide +kernel) (by decide +kernel)
theorem mw_3 : (Jvm.Cond.selects "TemperNurses$TextReader" ({ cls := "TemperNurses$TextReader", name := "isLetter", desc := "(I)Z" } : Jvm.MethodName) ({ cls := "TemperNurses$TextReader", name := "isLetter", desc := "(I)Z" } : Jvm.MethodName)) ∈ jv_T := jv_in 3 (by decide +kernel) (by decide +kernel)
theorem mw_4 : (Jvm.Cond.selects "TemperNurses$TextReader" ({ cls := "TemperNurses$TextReader", name := "readLetters", desc := "()V" } : Jvm.MethodName) ({ cls := "TemperNurses$TextReader", name := "readLetters", desc := "()V" } : Jvm.MethodName)) ∈ jv_T := jv_in 4 (by decide +kernel) (by decide +kernel)
theorem mw_5 : (Jvm.Cond.selects "TemperNurses$TextReader" ({ cls := "TemperNurses$TextReader", name := "isDigit", desc := "(I)Z" } : Jvm.MethodName) ({ cls := "TemperNurses$TextReader", name := "isDigit", desc := "(I)Z" } : Jvm.MethodName)) ∈ jv_T := jv_in 5 (by decide +kernel) (by decide +kernel)
theorem mw_6 : (Jvm.Cond.selects "TemperNurses$TextReader" ({ cls := "TemperNurses$TextReader", name := "readDigits", desc := "()V" } : Jvm.MethodName) ({ cls := "TemperNurses$TextReader", name := "readDigits", desc := "()V" } : Jvm.MethodName)) ∈ jv_T := jv_in 6 (by decide +kernel) (by decide +kernel)
theorem mw_7 : (Jvm.Cond.selects "TemperNurses$TextReader" ({ cls := "TemperNurses$TextReader", name := "canStand", desc := "()Z" } : Jvm.MethodName) ({ cls := "TemperNurses$TextReader", name := "canStand", desc := "()Z" } : Jvm.MethodName)) ∈ jv_T := jv_in 7 (by decide +kernel) (by decide +kernel)
theorem mw_8 : (Jvm.Cond.selects "TemperNurses$TextReader" ({ cls := "TemperNurses$TextReader", name := "canBeginItem", desc := "()Z" } : Jvm.MethodName) ({ cls := "TemperNurses$TextReader", name := "canBeginItem", desc := "()Z" } : Jvm.MethodName)) ∈ jv_T := jv_in 8 (by decide +kernel) (by decide +kernel)
theorem mw_9 : (Jvm.Cond.selects "TemperNurses$TextReader" ({ cls := "TemperNurses$TextReader", name := "numbersOfItem", desc := "()I" } : Jvm.MethodName) ({ cls := "TemperNurses$TextReader", name := "numbersOfItem", desc := "()I" } : Jvm.MethodName)) ∈ jv_T := jv_in 9 (by decide +kernel) (by decide +kernel)
theorem mw_10 : (Jvm.Cond.selects "TemperNurses$TextReader" ({ cls := "TemperNurses$TextReader", name := "canBeTold", desc := "()Z" } : Jvm.MethodName) ({ cls := "TemperNurses$TextReader", name := "canBeTold", desc := "()Z" } : Jvm.MethodName)) ∈ jv_T := jv_in 10 (by decide +kernel) (by decide +kernel)
theorem mw_11 : (Jvm.Cond.selects "TemperNurses$TextReader" ({ cls := "TemperNurses$TextReader", name := "takeToken", desc := "()V" } : Jvm.MethodName) ({ cls := "TemperNurses$TextReader", name := "takeToken", desc := "()V" } : Jvm.MethodName)) ∈ jv_T := jv_in 11 (by decide +kernel) (by decide +kernel)
theorem mw_12 : (Jvm.Cond.selects "TemperNurses$TextReader" ({ cls := "TemperNurses$TextReader", name := "takeItem", desc := "()V" } : Jvm.MethodName) ({ cls := "TemperNurses$TextReader", name := "takeItem", desc := "()V" } : Jvm.MethodName)) ∈ jv_T := jv_in 12 (by decide +kernel) (by decide +kernel)
theorem mw_13 : (Jvm.Cond.selects "TemperNurses$Course" ({ cls := "TemperNurses$Course", name := "cell", desc := "(I)I" } : Jvm.MethodName) ({ cls := "TemperNurses$Course", name := "cell", desc := "(I)I" } : Jvm.MethodName)) ∈ jv_T := jv_in 13 (by decide +kernel) (by decide +kernel)
theorem mw_14 : (Jvm.Cond.selects "TemperNurses$Course" ({ cls := "TemperNurses$Course", name := "isLowestOfRing", desc := "(I)Z" } : Jvm.MethodName) ({ cls := "TemperNurses$Course", name := "isLowestOfRing", desc := "(I)Z" } : Jvm.MethodName)) ∈ jv_T := jv_in 14 (by decide +kernel) (by decide +kernel)
theorem mw_15 : (Jvm.Cond.selects "TemperNurses$Planner" ({ cls := "TemperNurses$Planner", name := "tryYears", desc := "(II)V" } : Jvm.MethodName) ({ cls := "TemperNurses$Planner", name := "tryYears", desc := "(II)V" } : Jvm.MethodName)) ∈ jv_T := jv_in 15 (by decide +kernel) (by decide +kernel)
theorem mw_16 : (Jvm.Cond.selects "TemperNurses$Planner" ({ cls := "TemperNurses$Planner", name := "tryPlaces", desc := "(II)V" } : Jvm.MethodName) ({ cls := "TemperNurses$Planner", name := "tryPlaces", desc := "(II)V" } : Jvm.MethodName)) ∈ jv_T := jv_in 16 (by decide +kernel) (by decide +kernel)
theorem mw_17 : (Jvm.Cond.selects "TemperNurses$BedMaker" ({ cls := "TemperNurses$BedMaker", name := "tryOthers", desc := "(II)V" } : Jvm.MethodName) ({ cls := "TemperNurses$BedMaker", name := "tryOthers", desc := "(II)V" } : Jvm.MethodName)) ∈ jv_T := jv_in 17 (by decide +kernel) (by decide +kernel)
theorem mw_18 : (Jvm.Cond.selects "TemperNurses$BedMaker" ({ cls := "TemperNurses$BedMaker", name := "mayShare", desc := "(II)Z" } : Jvm.MethodName) ({ cls := "TemperNurses$BedMaker", name := "mayShare", desc := "(II)Z" } : Jvm.MethodName)) ∈ jv_T := jv_in 18 (by decide +kernel) (by decide +kernel)
theorem mw_19 : (Jvm.Cond.selects "TemperNurses" ({ cls := "TemperNurses", name := "countLooseWays", desc := "(II)I" } : Jvm.MethodName) ({ cls := "TemperNurses", name := "countLooseWays", desc := "(II)I" } : Jvm.MethodName)) ∈ jv_T := jv_in 19 (by decide +kernel) (by decide +kernel)
theorem mw_20 : (Jvm.Cond.selects "TemperNurses$Listener" ({ cls := "TemperNurses$Listener", name := "isAsHeard", desc := "(I)Z" } : Jvm.MethodName) ({ cls := "TemperNurses$Listener", name := "isAsHeard", desc := "(I)Z" } : Jvm.MethodName)) ∈ jv_T := jv_in 20 (by decide +kernel) (by decide +kernel)
theorem mw_21 : (Jvm.Cond.selects "TemperNurses$Listener" ({ cls := "TemperNurses$Listener", name := "countBanging", desc := "(II)I" } : Jvm.MethodName) ({ cls := "TemperNurses$Listener", name := "countBanging", desc := "(II)I" } : Jvm.MethodName)) ∈ jv_T := jv_in 21 (by decide +kernel) (by decide +kernel)
theorem mw_22 : (Jvm.Cond.selects "TemperNurses" ({ cls := "TemperNurses", name := "imageOf", desc := "(I)LTemperNurses$Course;" } : Jvm.MethodName) ({ cls := "TemperNurses", name := "imageOf", desc := "(I)LTemperNurses$Course;" } : Jvm.MethodName)) ∈ jv_T := jv_in 22 (by decide +kernel) (by decide +kernel)
theorem mw_23 : (Jvm.Cond.selects "TemperNursesModel" ({ cls := "TemperNursesModel", name := "lookAt", desc := "(I)V" } : Jvm.MethodName) ({ cls := "TemperNursesModel", name := "lookAt", desc := "(I)V" } : Jvm.MethodName)) ∈ jv_T := jv_in 23 (by decide +kernel) (by decide +kernel)
theorem mw_24 : (Jvm.Cond.selects "TemperNursesModel" ({ cls := "TemperNursesModel", name := "isBetween", desc := "(III)Z" } : Jvm.MethodName) ({ cls := "TemperNursesModel", name := "isBetween", desc := "(III)Z" } : Jvm.MethodName)) ∈ jv_T := jv_in 24 (by decide +kernel) (by decide +kernel)
theorem mw_25 : (Jvm.Cond.selects "TemperNursesModel" ({ cls := "TemperNursesModel", name := "takesItem", desc := "()Z" } : Jvm.MethodName) ({ cls := "TemperNursesModel", name := "takesItem", desc := "()Z" } : Jvm.MethodName)) ∈ jv_T := jv_in 25 (by decide +kernel) (by decide +kernel)
theorem mw_26 : (Jvm.Cond.selects "TemperNursesModel" ({ cls := "TemperNursesModel", name := "isLetter", desc := "(I)Z" } : Jvm.MethodName) ({ cls := "TemperNursesModel", name := "isLetter", desc := "(I)Z" } : Jvm.MethodName)) ∈ jv_T := jv_in 26 (by decide +kernel) (by decide +kernel)
theorem mw_27 : (Jvm.Cond.selects "TemperNursesModel" ({ cls := "TemperNursesModel", name := "takesTemper", desc := "()Z" } : Jvm.MethodName) ({ cls := "TemperNursesModel", name := "takesTemper", desc := "()Z" } : Jvm.MethodName)) ∈ jv_T := jv_in 27 (by decide +kernel) (by decide +kernel)
theorem mw_28 : (Jvm.Cond.selects "TemperNursesModel" ({ cls := "TemperNursesModel", name := "takes", desc := "(III)Z" } : Jvm.MethodName) ({ cls := "TemperNursesModel", name := "takes", desc := "(III)Z" } : Jvm.MethodName)) ∈ jv_T := jv_in 28 (by decide +kernel) (by decide +kernel)
theorem mw_29 : (Jvm.Cond.selects "TemperNursesModel" ({ cls := "TemperNursesModel", name := "takesNurse", desc := "()Z" } : Jvm.MethodName) ({ cls := "TemperNursesModel", name := "takesNurse", desc := "()Z" } : Jvm.MethodName)) ∈ jv_T := jv_in 29 (by decide +kernel) (by decide +kernel)
theorem mw_30 : (Jvm.Cond.selects "TemperNursesModel" ({ cls := "TemperNursesModel", name := "takesClash", desc := "()Z" } : Jvm.MethodName) ({ cls := "TemperNursesModel", name := "takesClash", desc := "()Z" } : Jvm.MethodName)) ∈ jv_T := jv_in 30 (by decide +kernel) (by decide +kernel)
theorem mw_31 : (Jvm.Cond.selects "TemperNursesModel" ({ cls := "TemperNursesModel", name := "takeAll", desc := "()V" } : Jvm.MethodName) ({ cls := "TemperNursesModel", name := "takeAll", desc := "()V" } : Jvm.MethodName)) ∈ jv_T := jv_in 31 (by decide +kernel) (by decide +kernel)
theorem mw_32 : (Jvm.Cond.selects "TemperNursesModel" ({ cls := "TemperNursesModel", name := "isTemper", desc := "(I)Z" } : Jvm.MethodName) ({ cls := "TemperNursesModel", name := "isTemper", desc := "(I)Z" } : Jvm.MethodName)) ∈ jv_T := jv_in 32 (by decide +kernel) (by decide +kernel)
theorem mw_33 : (Jvm.Cond.selects "TemperNursesModel" ({ cls := "TemperNursesModel", name := "heat", desc := "(I)I" } : Jvm.MethodName) ({ cls := "TemperNursesModel", name := "heat", desc := "(I)I" } : Jvm.MethodName)) ∈ jv_T := jv_in 33 (by decide +kernel) (by decide +kernel)
theorem mw_34 : (Jvm.Cond.selects "TemperNursesModel" ({ cls := "TemperNursesModel", name := "ring", desc := "(I)I" } : Jvm.MethodName) ({ cls := "TemperNursesModel", name := "ring", desc := "(I)I" } : Jvm.MethodName)) ∈ jv_T := jv_in 34 (by decide +kernel) (by decide +kernel)
theorem mw_35 : (Jvm.Cond.selects "TemperNursesModel" ({ cls := "TemperNursesModel", name := "isNurse", desc := "(I)Z" } : Jvm.MethodName) ({ cls := "TemperNursesModel", name := "isNurse", desc := "(I)Z" } : Jvm.MethodName)) ∈ jv_T := jv_in 35 (by decide +kernel) (by decide +kernel)
theorem mw_36 : (Jvm.Cond.selects "TemperNursesModel" ({ cls := "TemperNursesModel", name := "maySend", desc := "(II)Z" } : Jvm.MethodName) ({ cls := "TemperNursesModel", name := "maySend", desc := "(II)Z" } : Jvm.MethodName)) ∈ jv_T := jv_in 36 (by decide +kernel) (by decide +kernel)
theorem mw_37 : (Jvm.Cond.selects "TemperNursesModel" ({ cls := "TemperNursesModel", name := "whom", desc := "(I)I" } : Jvm.MethodName) ({ cls := "TemperNursesModel", name := "whom", desc := "(I)I" } : Jvm.MethodName)) ∈ jv_T := jv_in 37 (by decide +kernel) (by decide +kernel)
theorem mw_38 : (Jvm.Cond.selects "TemperNursesModel" ({ cls := "TemperNursesModel", name := "save", desc := "()V" } : Jvm.MethodName) ({ cls := "TemperNursesModel", name := "save", desc := "()V" } : Jvm.MethodName)) ∈ jv_T := jv_in 38 (by decide +kernel) (by decide +kernel)
theorem mw_39 : (Jvm.Cond.selects "TemperNursesModel" ({ cls := "TemperNursesModel", name := "right", desc := "()I" } : Jvm.MethodName) ({ cls := "TemperNursesModel", name := "right", desc := "()I" } : Jvm.MethodName)) ∈ jv_T := jv_in 39 (by decide +kernel) (by decide +kernel)
theorem mw_40 : (Jvm.Cond.selects "TemperNursesModel" ({ cls := "TemperNursesModel", name := "aged", desc := "(III)I" } : Jvm.MethodName) ({ cls := "TemperNursesModel", name := "aged", desc := "(III)I" } : Jvm.MethodName)) ∈ jv_T := jv_in 40 (by decide +kernel) (by decide +kernel)
theorem mw_41 : (Jvm.Cond.selects "TemperNursesModel" ({ cls := "TemperNursesModel", name := "broken", desc := "()I" } : Jvm.MethodName) ({ cls := "TemperNursesModel", name := "broken", desc := "()I" } : Jvm.MethodName)) ∈ jv_T := jv_in 41 (by decide +kernel) (by decide +kernel)
theorem mw_42 : (Jvm.Cond.selects "TemperNursesModel" ({ cls := "TemperNursesModel", name := "soonest", desc := "()I" } : Jvm.MethodName) ({ cls := "TemperNursesModel", name := "soonest", desc := "()I" } : Jvm.MethodName)) ∈ jv_T := jv_in 42 (by decide +kernel) (by decide +kernel)
theorem mw_43 : (Jvm.Cond.selects "TemperNursesModel" ({ cls := "TemperNursesModel", name := "whenBroken", desc := "(II)I" } : Jvm.MethodName) ({ cls := "TemperNursesModel", name := "whenBroken", desc := "(II)I" } : Jvm.MethodName)) ∈ jv_T := jv_in 43 (by decide +kernel) (by decide +kernel)
theorem mw_44 : (Jvm.Cond.selects "TemperNursesModel" ({ cls := "TemperNursesModel", name := "ways", desc := "()I" } : Jvm.MethodName) ({ cls := "TemperNursesModel", name := "ways", desc := "()I" } : Jvm.MethodName)) ∈ jv_T := jv_in 44 (by decide +kernel) (by decide +kernel)
theorem mw_45 : (Jvm.Cond.selects "TemperNursesModel" ({ cls := "TemperNursesModel", name := "mayBe", desc := "(I)Z" } : Jvm.MethodName) ({ cls := "TemperNursesModel", name := "mayBe", desc := "(I)Z" } : Jvm.MethodName)) ∈ jv_T := jv_in 45 (by decide +kernel) (by decide +kernel)
theorem mw_46 : (Jvm.Cond.selects "TemperNursesModel" ({ cls := "TemperNursesModel", name := "hotIn", desc := "(II)I" } : Jvm.MethodName) ({ cls := "TemperNursesModel", name := "hotIn", desc := "(II)I" } : Jvm.MethodName)) ∈ jv_T := jv_in 46 (by decide +kernel) (by decide +kernel)
theorem mw_47 : (Jvm.Cond.selects "TemperNursesModel" ({ cls := "TemperNursesModel", name := "worthBehind", desc := "(II)I" } : Jvm.MethodName) ({ cls := "TemperNursesModel", name := "worthBehind", desc := "(II)I" } : Jvm.MethodName)) ∈ jv_T := jv_in 47 (by decide +kernel) (by decide +kernel)
theorem mw_48 : (Jvm.Cond.selects "TemperNursesModel" ({ cls := "TemperNursesModel", name := "bedsBy", desc := "(II)I" } : Jvm.MethodName) ({ cls := "TemperNursesModel", name := "bedsBy", desc := "(II)I" } : Jvm.MethodName)) ∈ jv_T := jv_in 48 (by decide +kernel) (by decide +kernel)
theorem mw_49 : (Jvm.Cond.selects "TemperNursesModel" ({ cls := "TemperNursesModel", name := "isBed", desc := "(III)Z" } : Jvm.MethodName) ({ cls := "TemperNursesModel", name := "isBed", desc := "(III)Z" } : Jvm.MethodName)) ∈ jv_T := jv_in 49 (by decide +kernel) (by decide +kernel)
theorem mw_50 : (Jvm.Cond.selects "TemperNursesModel" ({ cls := "TemperNursesModel", name := "markAs", desc := "(II)I" } : Jvm.MethodName) ({ cls := "TemperNursesModel", name := "markAs", desc := "(II)I" } : Jvm.MethodName)) ∈ jv_T := jv_in 50 (by decide +kernel) (by decide +kernel)
theorem mw_51 : (Jvm.Cond.selects "TemperNursesModel" ({ cls := "TemperNursesModel", name := "markAs0", desc := "(I)I" } : Jvm.MethodName) ({ cls := "TemperNursesModel", name := "markAs0", desc := "(I)I" } : Jvm.MethodName)) ∈ jv_T := jv_in 51 (by decide +kernel) (by decide +kernel)
theorem mw_52 : (Jvm.Cond.initialized "TemperNursesLaw") ∈ jv_T := jv_in 52 (by decide +kernel) (by decide +kernel)
theorem mw_53 : (Jvm.Cond.initialized "TemperNurses") ∈ jv_T := jv_in 53 (by decide +kernel) (by decide +kernel)
theorem mw_54 : (Jvm.Cond.initialized "TemperNurses$Hill") ∈ jv_T := jv_in 54 (by decide +kernel) (by decide +kernel)
theorem mw_55 : (Jvm.Cond.initialized "TemperNurses$TextReader") ∈ jv_T := jv_in 55 (by decide +kernel) (by decide +kernel)
theorem mw_56 : (Jvm.Cond.initialized "TemperNurses$Course") ∈ jv_T := jv_in 56 (by decide +kernel) (by decide +kernel)
theorem mw_57 : (Jvm.Cond.initialized "TemperNurses$House") ∈ jv_T := jv_in 57 (by decide +kernel) (by decide +kernel)
theorem mw_58 : (Jvm.Cond.initialized "TemperNurses$Planner") ∈ jv_T := jv_in 58 (by decide +kernel) (by decide +kernel)
theorem mw_59 : (Jvm.Cond.initialized "TemperNurses$BedMaker") ∈ jv_T := jv_in 59 (by decide +kernel) (by decide +kernel)
theorem mw_60 : (Jvm.Cond.initialized "TemperNurses$Listener") ∈ jv_T := jv_in 60 (by decide +kernel) (by decide +kernel)
theorem mw_61 : (Jvm.Cond.initialized "TemperNurses$Kinds") ∈ jv_T := jv_in 61 (by decide +kernel) (by decide +kernel)
theorem mw_62 : (Jvm.Cond.initialized "TemperNursesModel") ∈ jv_T := jv_in 62 (by decide +kernel) (by decide +kernel)
theorem mw_63 : (Jvm.Cond.initialized "java/util/Arrays") ∈ jv_T := jv_in 63 (by decide +kernel) (by decide +kernel)
theorem mw_64 : (Jvm.Cond.initialized "java/lang/System") ∈ jv_T := jv_in 64 (by decide +kernel) (by decide +kernel)
theorem mw_65 : (Jvm.Cond.initialized "java/lang/Integer") ∈ jv_T := jv_in 65 (by decide +kernel) (by decide +kernel)
theorem mw_66 : (Jvm.Cond.initialized "java/lang/Math") ∈ jv_T := jv_in 66 (by decide +kernel) (by decide +kernel)
theorem mw_68 : (Jvm.Cond.instantiable "TemperNurses" (12 : Nat)) ∈ jv_T := jv_in 68 (by decide +kernel) (by decide +kernel)
theorem mw_70 : (Jvm.Cond.instanceMethod ({ cls := "TemperNurses", name := "<init>", desc := "()V" } : Jvm.MethodName)) ∈ jv_T := jv_in 70 (by decide +kernel) (by decide +kernel)
theorem mw_71 : (Jvm.Cond.code ({ cls := "TemperNurses", name := "<init>", desc := "()V" } : Jvm.MethodName) prog_1_method_1_code (1 : Nat) (Option.none : Option Jvm.ClassFile.FieldType)) ∈ jv_T := jv_in 71 (by decide +kernel) (by decide +kernel)
theorem mw_72 : (Jvm.Cond.methodLink "TemperNurses" (1 : Nat) ({ cls := "java/lang/Object", name := "<init>", desc := "()V" } : Jvm.MethodName)) ∈ jv_T := jv_in 72 (by decide +kernel) (by decide +kernel)
theorem mw_73 : (Jvm.Cond.instanceMethod ({ cls := "java/lang/Object", name := "<init>", desc := "()V" } : Jvm.MethodName)) ∈ jv_T := jv_in 73 (by decide +kernel) (by decide +kernel)
theorem mw_74 : (Jvm.Cond.code ({ cls := "java/lang/Object", name := "<init>", desc := "()V" } : Jvm.MethodName) object_method_1_code (1 : Nat) (Option.none : Option Jvm.ClassFile.FieldType)) ∈ jv_T := jv_in 74 (by decide +kernel) (by decide +kernel)
theorem mw_75 : (Jvm.Cond.classLink "TemperNurses" (7 : Nat) "TemperNurses$Hill") ∈ jv_T := jv_in 75 (by decide +kernel) (by decide +kernel)
theorem mw_76 : (Jvm.Cond.instantiable "TemperNurses$Hill" (9 : Nat)) ∈ jv_T := jv_in 76 (by decide +kernel) (by decide +kernel)
theorem mw_78 : (Jvm.Cond.instanceMethod ({ cls := "TemperNurses$Hill", name := "<init>", desc := "()V" } : Jvm.MethodName)) ∈ jv_T := jv_in 78 (by decide +kernel) (by decide +kernel)
theorem mw_79 : (Jvm.Cond.code ({ cls := "TemperNurses$Hill", name := "<init>", desc := "()V" } : Jvm.MethodName) prog_4_method_1_code (1 : Nat) (Option.none : Option Jvm.ClassFile.FieldType)) ∈ jv_T := jv_in 79 (by decide +kernel) (by decide +kernel)
theorem mw_80 : (Jvm.Cond.methodLink "TemperNurses$Hill" (3 : Nat) ({ cls := "java/lang/Object", name := "<init>", desc := "()V" } : Jvm.MethodName)) ∈ jv_T := jv_in 80 (by decide +kernel) (by decide +kernel)
theorem mw_81 : (Jvm.Cond.fieldLink "TemperNurses$Hill" (33 : Nat) "TemperNurses$Hill" "tempers" "I") ∈ jv_T := jv_in 81 (by decide +kernel) (by decide +kernel)
theorem mw_82 : (Jvm.Cond.fieldLink "TemperNurses$House" (19 : Nat) "TemperNurses$Hill" "tempers" "I") ∈ jv_T := jv_in 82 (by decide +kernel) (by decide +kernel)
theorem mw_83 : (Jvm.Cond.fieldLink "TemperNurses$BedMaker" (45 : Nat) "TemperNurses$Hill" "tempers" "I") ∈ jv_T := jv_in 83 (by decide +kernel) (by decide +kernel)
theorem mw_84 : (Jvm.Cond.fieldLink "TemperNurses$Planner" (48 : Nat) "TemperNurses$Hill" "tempers" "I") ∈ jv_T := jv_in 84 (by decide +kernel) (by decide +kernel)
theorem mw_85 : (Jvm.Cond.fieldLink "TemperNurses$Listener" (32 : Nat) "TemperNurses$Hill" "tempers" "I") ∈ jv_T := jv_in 85 (by decide +kernel) (by decide +kernel)
theorem mw_86 : (Jvm.Cond.fieldLink "TemperNurses$TextReader" (70 : Nat) "TemperNurses$Hill" "tempers" "I") ∈ jv_T := jv_in 86 (by decide +kernel) (by decide +kernel)
theorem mw_87 : (Jvm.Cond.fieldLink "TemperNurses" (184 : Nat) "TemperNurses$Hill" "tempers" "I") ∈ jv_T := jv_in 87 (by decide +kernel) (by decide +kernel)
theorem mw_88 : (Jvm.Cond.fieldLink "TemperNurses$Hill" (37 : Nat) "TemperNurses$Hill" "nurses" "I") ∈ jv_T := jv_in 88 (by decide +kernel) (by decide +kernel)
theorem mw_89 : (Jvm.Cond.fieldLink "TemperNurses$Planner" (53 : Nat) "TemperNurses$Hill" "nurses" "I") ∈ jv_T := jv_in 89 (by decide +kernel) (by decide +kernel)
theorem mw_90 : (Jvm.Cond.fieldLink "TemperNurses$TextReader" (73 : Nat) "TemperNurses$Hill" "nurses" "I") ∈ jv_T := jv_in 90 (by decide +kernel) (by decide +kernel)
theorem mw_91 : (Jvm.Cond.fieldLink "TemperNurses" (280 : Nat) "TemperNurses$Hill" "nurses" "I") ∈ jv_T := jv_in 91 (by decide +kernel) (by decide +kernel)
theorem mw_92 : (Jvm.Cond.fieldLink "TemperNurses$Hill" (9 : Nat) "TemperNurses$Hill" "heats" "[I") ∈ jv_T := jv_in 92 (by decide +kernel) (by decide +kernel)
theorem mw_93 : (Jvm.Cond.fieldLink "TemperNurses$Course" (23 : Nat) "TemperNurses$Hill" "heats" "[I") ∈ jv_T := jv_in 93 (by decide +kernel) (by decide +kernel)
theorem mw_94 : (Jvm.Cond.fieldLink "TemperNurses$Hill" (15 : Nat) "TemperNurses$Hill" "grows" "[I") ∈ jv_T := jv_in 94 (by decide +kernel) (by decide +kernel)
theorem mw_95 : (Jvm.Cond.fieldLink "TemperNurses$Kinds" (44 : Nat) "TemperNurses$Hill" "grows" "[I") ∈ jv_T := jv_in 95 (by decide +kernel) (by decide +kernel)
theorem mw_96 : (Jvm.Cond.fieldLink "TemperNurses" (126 : Nat) "TemperNurses$Hill" "grows" "[I") ∈ jv_T := jv_in 96 (by decide +kernel) (by decide +kernel)
theorem mw_97 : (Jvm.Cond.fieldLink "TemperNurses$House" (73 : Nat) "TemperNurses$Hill" "grows" "[I") ∈ jv_T := jv_in 97 (by decide +kernel) (by decide +kernel)
theorem mw_98 : (Jvm.Cond.fieldLink "TemperNurses$Hill" (18 : Nat) "TemperNurses$Hill" "dues" "[I") ∈ jv_T := jv_in 98 (by decide +kernel) (by decide +kernel)
theorem mw_99 : (Jvm.Cond.fieldLink "TemperNurses" (129 : Nat) "TemperNurses$Hill" "dues" "[I") ∈ jv_T := jv_in 99 (by decide +kernel) (by decide +kernel)
theorem mw_100 : (Jvm.Cond.fieldLink "TemperNurses$House" (93 : Nat) "TemperNurses$Hill" "dues" "[I") ∈ jv_T := jv_in 100 (by decide +kernel) (by decide +kernel)
theorem mw_101 : (Jvm.Cond.fieldLink "TemperNurses$Hill" (21 : Nat) "TemperNurses$Hill" "clashes" "[I") ∈ jv_T := jv_in 101 (by decide +kernel) (by decide +kernel)
theorem mw_102 : (Jvm.Cond.fieldLink "TemperNurses$BedMaker" (60 : Nat) "TemperNurses$Hill" "clashes" "[I") ∈ jv_T := jv_in 102 (by decide +kernel) (by decide +kernel)
theorem mw_103 : (Jvm.Cond.fieldLink "TemperNurses" (138 : Nat) "TemperNurses$Hill" "clashes" "[I") ∈ jv_T := jv_in 103 (by decide +kernel) (by decide +kernel)
theorem mw_104 : (Jvm.Cond.fieldLink "TemperNurses$House" (67 : Nat) "TemperNurses$Hill" "clashes" "[I") ∈ jv_T := jv_in 104 (by decide +kernel) (by decide +kernel)
theorem mw_105 : (Jvm.Cond.fieldLink "TemperNurses$Hill" (24 : Nat) "TemperNurses$Hill" "tames" "[I") ∈ jv_T := jv_in 105 (by decide +kernel) (by decide +kernel)
theorem mw_106 : (Jvm.Cond.fieldLink "TemperNurses" (147 : Nat) "TemperNurses$Hill" "tames" "[I") ∈ jv_T := jv_in 106 (by decide +kernel) (by decide +kernel)
theorem mw_107 : (Jvm.Cond.fieldLink "TemperNurses$House" (70 : Nat) "TemperNurses$Hill" "tames" "[I") ∈ jv_T := jv_in 107 (by decide +kernel) (by decide +kernel)
theorem mw_108 : (Jvm.Cond.fieldLink "TemperNurses$Hill" (27 : Nat) "TemperNurses$Hill" "rooms" "[I") ∈ jv_T := jv_in 108 (by decide +kernel) (by decide +kernel)
theorem mw_109 : (Jvm.Cond.fieldLink "TemperNurses" (150 : Nat) "TemperNurses$Hill" "rooms" "[I") ∈ jv_T := jv_in 109 (by decide +kernel) (by decide +kernel)
theorem mw_110 : (Jvm.Cond.fieldLink "TemperNurses$House" (64 : Nat) "TemperNurses$Hill" "rooms" "[I") ∈ jv_T := jv_in 110 (by decide +kernel) (by decide +kernel)
theorem mw_111 : (Jvm.Cond.fieldLink "TemperNurses$Hill" (30 : Nat) "TemperNurses$Hill" "holds" "[I") ∈ jv_T := jv_in 111 (by decide +kernel) (by decide +kernel)
theorem mw_112 : (Jvm.Cond.fieldLink "TemperNurses" (153 : Nat) "TemperNurses$Hill" "holds" "[I") ∈ jv_T := jv_in 112 (by decide +kernel) (by decide +kernel)
theorem mw_113 : (Jvm.Cond.fieldLink "TemperNurses$House" (55 : Nat) "TemperNurses$Hill" "holds" "[I") ∈ jv_T := jv_in 113 (by decide +kernel) (by decide +kernel)
theorem mw_114 : (Jvm.Cond.lays "TemperNurses$Hill" "TemperNurses$Hill" "tempers" "I") ∈ jv_T := jv_in 114 (by decide +kernel) (by decide +kernel)
theorem mw_116 : (Jvm.Cond.lays "TemperNurses$Hill" "TemperNurses$Hill" "nurses" "I") ∈ jv_T := jv_in 116 (by decide +kernel) (by decide +kernel)
theorem mw_118 : (Jvm.Cond.laysFinal "TemperNurses$Hill" "TemperNurses$Hill" "heats" "[I") ∈ jv_T := jv_in 118 (by decide +kernel) (by decide +kernel)
theorem mw_120 : (Jvm.Cond.laysFinal "TemperNurses$Hill" "TemperNurses$Hill" "grows" "[I") ∈ jv_T := jv_in 120 (by decide +kernel) (by decide +kernel)
theorem mw_122 : (Jvm.Cond.laysFinal "TemperNurses$Hill" "TemperNurses$Hill" "dues" "[I") ∈ jv_T := jv_in 122 (by decide +kernel) (by decide +kernel)
theorem mw_124 : (Jvm.Cond.laysFinal "TemperNurses$Hill" "TemperNurses$Hill" "clashes" "[I") ∈ jv_T := jv_in 124 (by decide +kernel) (by decide +kernel)
theorem mw_126 : (Jvm.Cond.laysFinal "TemperNurses$Hill" "TemperNurses$Hill" "tames" "[I") ∈ jv_T := jv_in 126 (by decide +kernel) (by decide +kernel)
theorem mw_128 : (Jvm.Cond.laysFinal "TemperNurses$Hill" "TemperNurses$Hill" "rooms" "[I") ∈ jv_T := jv_in 128 (by decide +kernel) (by decide +kernel)
theorem mw_130 : (Jvm.Cond.laysFinal "TemperNurses$Hill" "TemperNurses$Hill" "holds" "[I") ∈ jv_T := jv_in 130 (by decide +kernel) (by decide +kernel)
theorem mw_133 : (Jvm.Cond.arrayClass Jvm.ClassFile.FieldType.int) ∈ jv_T := jv_in 133 (by decide +kernel) (by decide +kernel)
theorem mw_134 : (Jvm.Cond.classLink "TemperNurses" (16 : Nat) "TemperNurses$TextReader") ∈ jv_T := jv_in 134 (by decide +kernel) (by decide +kernel)
theorem mw_135 : (Jvm.Cond.instantiable "TemperNurses$TextReader" (10 : Nat)) ∈ jv_T := jv_in 135 (by decide +kernel) (by decide +kernel)
theorem mw_137 : (Jvm.Cond.instanceMethod ({ cls := "TemperNurses$TextReader", name := "<init>", desc := "()V" } : Jvm.MethodName)) ∈ jv_T := jv_in 137 (by decide +kernel) (by decide +kernel)
theorem mw_138 : (Jvm.Cond.code ({ cls := "TemperNurses$TextReader", name := "<init>", desc := "()V" } : Jvm.MethodName) prog_9_method_1_code (1 : Nat) (Option.none : Option Jvm.ClassFile.FieldType)) ∈ jv_T := jv_in 138 (by decide +kernel) (by decide +kernel)
theorem mw_139 : (Jvm.Cond.methodLink "TemperNurses$TextReader" (3 : Nat) ({ cls := "java/lang/Object", name := "<init>", desc := "()V" } : Jvm.MethodName)) ∈ jv_T := jv_in 139 (by decide +kernel) (by decide +kernel)
theorem mw_140 : (Jvm.Cond.classLink "TemperNurses$TextReader" (9 : Nat) "TemperNurses$Hill") ∈ jv_T := jv_in 140 (by decide +kernel) (by decide +kernel)
theorem mw_142 : (Jvm.Cond.fieldLink "TemperNurses$TextReader" (12 : Nat) "TemperNurses$TextReader" "draft" "LTemperNurses$Hill;") ∈ jv_T := jv_in 142 (by decide +kernel) (by decide +kernel)
theorem mw_143 : (Jvm.Cond.fieldLink "TemperNurses" (106 : Nat) "TemperNurses$TextReader" "draft" "LTemperNurses$Hill;") ∈ jv_T := jv_in 143 (by decide +kernel) (by decide +kernel)
theorem mw_144 : (Jvm.Cond.fieldLink "TemperNurses$TextReader" (25 : Nat) "TemperNurses$TextReader" "length" "I") ∈ jv_T := jv_in 144 (by decide +kernel) (by decide +kernel)
theorem mw_145 : (Jvm.Cond.fieldLink "TemperNurses" (95 : Nat) "TemperNurses$TextReader" "length" "I") ∈ jv_T := jv_in 145 (by decide +kernel) (by decide +kernel)
theorem mw_146 : (Jvm.Cond.fieldLink "TemperNurses$TextReader" (18 : Nat) "TemperNurses$TextReader" "bytes" "[I") ∈ jv_T := jv_in 146 (by decide +kernel) (by decide +kernel)
theorem mw_147 : (Jvm.Cond.fieldLink "TemperNurses$TextReader" (41 : Nat) "TemperNurses$TextReader" "kind" "I") ∈ jv_T := jv_in 147 (by decide +kernel) (by decide +kernel)
theorem mw_148 : (Jvm.Cond.fieldLink "TemperNurses$TextReader" (48 : Nat) "TemperNurses$TextReader" "start" "I") ∈ jv_T := jv_in 148 (by decide +kernel) (by decide +kernel)
theorem mw_149 : (Jvm.Cond.fieldLink "TemperNurses$TextReader" (32 : Nat) "TemperNurses$TextReader" "next" "I") ∈ jv_T := jv_in 149 (by decide +kernel) (by decide +kernel)
theorem mw_150 : (Jvm.Cond.fieldLink "TemperNurses$TextReader" (67 : Nat) "TemperNurses$TextReader" "value" "I") ∈ jv_T := jv_in 150 (by decide +kernel) (by decide +kernel)
theorem mw_151 : (Jvm.Cond.fieldLink "TemperNurses$TextReader" (35 : Nat) "TemperNurses$TextReader" "item" "I") ∈ jv_T := jv_in 151 (by decide +kernel) (by decide +kernel)
theorem mw_152 : (Jvm.Cond.fieldLink "TemperNurses$TextReader" (57 : Nat) "TemperNurses$TextReader" "toldSoFar" "I") ∈ jv_T := jv_in 152 (by decide +kernel) (by decide +kernel)
theorem mw_153 : (Jvm.Cond.fieldLink "TemperNurses$TextReader" (22 : Nat) "TemperNurses$TextReader" "numbers" "[I") ∈ jv_T := jv_in 153 (by decide +kernel) (by decide +kernel)
theorem mw_154 : (Jvm.Cond.laysFinal "TemperNurses$TextReader" "TemperNurses$TextReader" "draft" "LTemperNurses$Hill;") ∈ jv_T := jv_in 154 (by decide +kernel) (by decide +kernel)
theorem mw_156 : (Jvm.Cond.lays "TemperNurses$TextReader" "TemperNurses$TextReader" "length" "I") ∈ jv_T := jv_in 156 (by decide +kernel) (by decide +kernel)
theorem mw_158 : (Jvm.Cond.laysFinal "TemperNurses$TextReader" "TemperNurses$TextReader" "bytes" "[I") ∈ jv_T := jv_in 158 (by decide +kernel) (by decide +kernel)
theorem mw_160 : (Jvm.Cond.lays "TemperNurses$TextReader" "TemperNurses$TextReader" "kind" "I") ∈ jv_T := jv_in 160 (by decide +kernel) (by decide +kernel)
theorem mw_162 : (Jvm.Cond.lays "TemperNurses$TextReader" "TemperNurses$TextReader" "start" "I") ∈ jv_T := jv_in 162 (by decide +kernel) (by decide +kernel)
theorem mw_164 : (Jvm.Cond.lays "TemperNurses$TextReader" "TemperNurses$TextReader" "next" "I") ∈ jv_T := jv_in 164 (by decide +kernel) (by decide +kernel)
theorem mw_166 : (Jvm.Cond.lays "TemperNurses$TextReader" "TemperNurses$TextReader" "value" "I") ∈ jv_T := jv_in 166 (by decide +kernel) (by decide +kernel)
theorem mw_168 : (Jvm.Cond.lays "TemperNurses$TextReader" "TemperNurses$TextReader" "item" "I") ∈ jv_T := jv_in 168 (by decide +kernel) (by decide +kernel)
theorem mw_170 : (Jvm.Cond.lays "TemperNurses$TextReader" "TemperNurses$TextReader" "toldSoFar" "I") ∈ jv_T := jv_in 170 (by decide +kernel) (by decide +kernel)
theorem mw_172 : (Jvm.Cond.laysFinal "TemperNurses$TextReader" "TemperNurses$TextReader" "numbers" "[I") ∈ jv_T := jv_in 172 (by decide +kernel) (by decide +kernel)
theorem mw_175 : (Jvm.Cond.classLink "TemperNurses" (23 : Nat) "TemperNurses$Course") ∈ jv_T := jv_in 175 (by decide +kernel) (by decide +kernel)
theorem mw_176 : (Jvm.Cond.instantiable "TemperNurses$Course" (2 : Nat)) ∈ jv_T := jv_in 176 (by decide +kernel) (by decide +kernel)
theorem mw_178 : (Jvm.Cond.instanceMethod ({ cls := "TemperNurses$Course", name := "<init>", desc := "()V" } : Jvm.MethodName)) ∈ jv_T := jv_in 178 (by decide +kernel) (by decide +kernel)
theorem mw_179 : (Jvm.Cond.code ({ cls := "TemperNurses$Course", name := "<init>", desc := "()V" } : Jvm.MethodName) prog_3_method_1_code (1 : Nat) (Option.none : Option Jvm.ClassFile.FieldType)) ∈ jv_T := jv_in 179 (by decide +kernel) (by decide +kernel)
theorem mw_180 : (Jvm.Cond.methodLink "TemperNurses$Course" (5 : Nat) ({ cls := "java/lang/Object", name := "<init>", desc := "()V" } : Jvm.MethodName)) ∈ jv_T := jv_in 180 (by decide +kernel) (by decide +kernel)
theorem mw_181 : (Jvm.Cond.fieldLink "TemperNurses$Course" (11 : Nat) "TemperNurses$Course" "rows" "[I") ∈ jv_T := jv_in 181 (by decide +kernel) (by decide +kernel)
theorem mw_182 : (Jvm.Cond.fieldLink "TemperNurses$Course" (15 : Nat) "TemperNurses$Course" "past" "I") ∈ jv_T := jv_in 182 (by decide +kernel) (by decide +kernel)
theorem mw_183 : (Jvm.Cond.fieldLink "TemperNurses" (208 : Nat) "TemperNurses$Course" "past" "I") ∈ jv_T := jv_in 183 (by decide +kernel) (by decide +kernel)
theorem mw_184 : (Jvm.Cond.laysFinal "TemperNurses$Course" "TemperNurses$Course" "rows" "[I") ∈ jv_T := jv_in 184 (by decide +kernel) (by decide +kernel)
theorem mw_186 : (Jvm.Cond.lays "TemperNurses$Course" "TemperNurses$Course" "past" "I") ∈ jv_T := jv_in 186 (by decide +kernel) (by decide +kernel)
theorem mw_189 : (Jvm.Cond.classLink "TemperNurses" (30 : Nat) "TemperNurses$House") ∈ jv_T := jv_in 189 (by decide +kernel) (by decide +kernel)
theorem mw_190 : (Jvm.Cond.instantiable "TemperNurses$House" (2 : Nat)) ∈ jv_T := jv_in 190 (by decide +kernel) (by decide +kernel)
theorem mw_191 : (Jvm.Cond.methodLink "TemperNurses" (32 : Nat) ({ cls := "TemperNurses$House", name := "<init>", desc := "(LTemperNurses$Hill;LTemperNurses$Course;)V" } : Jvm.MethodName)) ∈ jv_T := jv_in 191 (by decide +kernel) (by decide +kernel)
theorem mw_192 : (Jvm.Cond.instanceMethod ({ cls := "TemperNurses$House", name := "<init>", desc := "(LTemperNurses$Hill;LTemperNurses$Course;)V" } : Jvm.MethodName)) ∈ jv_T := jv_in 192 (by decide +kernel) (by decide +kernel)
theorem mw_193 : (Jvm.Cond.code ({ cls := "TemperNurses$House", name := "<init>", desc := "(LTemperNurses$Hill;LTemperNurses$Course;)V" } : Jvm.MethodName) prog_5_method_1_code (3 : Nat) (Option.none : Option Jvm.ClassFile.FieldType)) ∈ jv_T := jv_in 193 (by decide +kernel) (by decide +kernel)
theorem mw_194 : (Jvm.Cond.methodLink "TemperNurses$House" (3 : Nat) ({ cls := "java/lang/Object", name := "<init>", desc := "()V" } : Jvm.MethodName)) ∈ jv_T := jv_in 194 (by decide +kernel) (by decide +kernel)
theorem mw_195 : (Jvm.Cond.fieldLink "TemperNurses$House" (9 : Nat) "TemperNurses$House" "told" "LTemperNurses$Hill;") ∈ jv_T := jv_in 195 (by decide +kernel) (by decide +kernel)
theorem mw_196 : (Jvm.Cond.fieldLink "TemperNurses$BedMaker" (39 : Nat) "TemperNurses$House" "told" "LTemperNurses$Hill;") ∈ jv_T := jv_in 196 (by decide +kernel) (by decide +kernel)
theorem mw_197 : (Jvm.Cond.fieldLink "TemperNurses$Planner" (42 : Nat) "TemperNurses$House" "told" "LTemperNurses$Hill;") ∈ jv_T := jv_in 197 (by decide +kernel) (by decide +kernel)
theorem mw_198 : (Jvm.Cond.fieldLink "TemperNurses$Kinds" (34 : Nat) "TemperNurses$House" "told" "LTemperNurses$Hill;") ∈ jv_T := jv_in 198 (by decide +kernel) (by decide +kernel)
theorem mw_199 : (Jvm.Cond.fieldLink "TemperNurses$Listener" (26 : Nat) "TemperNurses$House" "told" "LTemperNurses$Hill;") ∈ jv_T := jv_in 199 (by decide +kernel) (by decide +kernel)
theorem mw_200 : (Jvm.Cond.fieldLink "TemperNurses$House" (15 : Nat) "TemperNurses$House" "course" "LTemperNurses$Course;") ∈ jv_T := jv_in 200 (by decide +kernel) (by decide +kernel)
theorem mw_201 : (Jvm.Cond.fieldLink "TemperNurses$Kinds" (17 : Nat) "TemperNurses$House" "course" "LTemperNurses$Course;") ∈ jv_T := jv_in 201 (by decide +kernel) (by decide +kernel)
theorem mw_202 : (Jvm.Cond.fieldLink "TemperNurses$Listener" (37 : Nat) "TemperNurses$House" "course" "LTemperNurses$Course;") ∈ jv_T := jv_in 202 (by decide +kernel) (by decide +kernel)
theorem mw_203 : (Jvm.Cond.fieldLink "TemperNurses$BedMaker" (67 : Nat) "TemperNurses$House" "course" "LTemperNurses$Course;") ∈ jv_T := jv_in 203 (by decide +kernel) (by decide +kernel)
theorem mw_204 : (Jvm.Cond.fieldLink "TemperNurses$Planner" (80 : Nat) "TemperNurses$House" "course" "LTemperNurses$Course;") ∈ jv_T := jv_in 204 (by decide +kernel) (by decide +kernel)
theorem mw_205 : (Jvm.Cond.laysFinal "TemperNurses$House" "TemperNurses$House" "told" "LTemperNurses$Hill;") ∈ jv_T := jv_in 205 (by decide +kernel) (by decide +kernel)
theorem mw_207 : (Jvm.Cond.laysFinal "TemperNurses$House" "TemperNurses$House" "course" "LTemperNurses$Course;") ∈ jv_T := jv_in 207 (by decide +kernel) (by decide +kernel)
theorem mw_210 : (Jvm.Cond.classLink "TemperNurses" (39 : Nat) "TemperNurses$Planner") ∈ jv_T := jv_in 210 (by decide +kernel) (by decide +kernel)
theorem mw_211 : (Jvm.Cond.instantiable "TemperNurses$Planner" (7 : Nat)) ∈ jv_T := jv_in 211 (by decide +kernel) (by decide +kernel)
theorem mw_212 : (Jvm.Cond.methodLink "TemperNurses" (41 : Nat) ({ cls := "TemperNurses$Planner", name := "<init>", desc := "(LTemperNurses$House;)V" } : Jvm.MethodName)) ∈ jv_T := jv_in 212 (by decide +kernel) (by decide +kernel)
theorem mw_213 : (Jvm.Cond.instanceMethod ({ cls := "TemperNurses$Planner", name := "<init>", desc := "(LTemperNurses$House;)V" } : Jvm.MethodName)) ∈ jv_T := jv_in 213 (by decide +kernel) (by decide +kernel)
theorem mw_214 : (Jvm.Cond.code ({ cls := "TemperNurses$Planner", name := "<init>", desc := "(LTemperNurses$House;)V" } : Jvm.MethodName) prog_8_method_1_code (2 : Nat) (Option.none : Option Jvm.ClassFile.FieldType)) ∈ jv_T := jv_in 214 (by decide +kernel) (by decide +kernel)
theorem mw_215 : (Jvm.Cond.methodLink "TemperNurses$Planner" (3 : Nat) ({ cls := "java/lang/Object", name := "<init>", desc := "()V" } : Jvm.MethodName)) ∈ jv_T := jv_in 215 (by decide +kernel) (by decide +kernel)
theorem mw_216 : (Jvm.Cond.fieldLink "TemperNurses$Planner" (24 : Nat) "TemperNurses$Planner" "house" "LTemperNurses$House;") ∈ jv_T := jv_in 216 (by decide +kernel) (by decide +kernel)
theorem mw_217 : (Jvm.Cond.fieldLink "TemperNurses$Planner" (9 : Nat) "TemperNurses$Planner" "tried" "[I") ∈ jv_T := jv_in 217 (by decide +kernel) (by decide +kernel)
theorem mw_218 : (Jvm.Cond.fieldLink "TemperNurses$Planner" (15 : Nat) "TemperNurses$Planner" "having" "[I") ∈ jv_T := jv_in 218 (by decide +kernel) (by decide +kernel)
theorem mw_219 : (Jvm.Cond.fieldLink "TemperNurses$Planner" (18 : Nat) "TemperNurses$Planner" "yearsBy" "[I") ∈ jv_T := jv_in 219 (by decide +kernel) (by decide +kernel)
theorem mw_220 : (Jvm.Cond.fieldLink "TemperNurses$Planner" (60 : Nat) "TemperNurses$Planner" "fewestYears" "I") ∈ jv_T := jv_in 220 (by decide +kernel) (by decide +kernel)
theorem mw_221 : (Jvm.Cond.fieldLink "TemperNurses$Planner" (21 : Nat) "TemperNurses$Planner" "chosen" "[I") ∈ jv_T := jv_in 221 (by decide +kernel) (by decide +kernel)
theorem mw_222 : (Jvm.Cond.fieldLink "TemperNurses" (226 : Nat) "TemperNurses$Planner" "chosen" "[I") ∈ jv_T := jv_in 222 (by decide +kernel) (by decide +kernel)
theorem mw_223 : (Jvm.Cond.fieldLink "TemperNurses$Planner" (28 : Nat) "TemperNurses$Planner" "most" "I") ∈ jv_T := jv_in 223 (by decide +kernel) (by decide +kernel)
theorem mw_224 : (Jvm.Cond.fieldLink "TemperNurses" (223 : Nat) "TemperNurses$Planner" "most" "I") ∈ jv_T := jv_in 224 (by decide +kernel) (by decide +kernel)
theorem mw_225 : (Jvm.Cond.laysFinal "TemperNurses$Planner" "TemperNurses$Planner" "house" "LTemperNurses$House;") ∈ jv_T := jv_in 225 (by decide +kernel) (by decide +kernel)
theorem mw_227 : (Jvm.Cond.laysFinal "TemperNurses$Planner" "TemperNurses$Planner" "tried" "[I") ∈ jv_T := jv_in 227 (by decide +kernel) (by decide +kernel)
theorem mw_229 : (Jvm.Cond.laysFinal "TemperNurses$Planner" "TemperNurses$Planner" "having" "[I") ∈ jv_T := jv_in 229 (by decide +kernel) (by decide +kernel)
theorem mw_231 : (Jvm.Cond.laysFinal "TemperNurses$Planner" "TemperNurses$Planner" "yearsBy" "[I") ∈ jv_T := jv_in 231 (by decide +kernel) (by decide +kernel)
theorem mw_233 : (Jvm.Cond.lays "TemperNurses$Planner" "TemperNurses$Planner" "fewestYears" "I") ∈ jv_T := jv_in 233 (by decide +kernel) (by decide +kernel)
theorem mw_235 : (Jvm.Cond.laysFinal "TemperNurses$Planner" "TemperNurses$Planner" "chosen" "[I") ∈ jv_T := jv_in 235 (by decide +kernel) (by decide +kernel)
theorem mw_237 : (Jvm.Cond.lays "TemperNurses$Planner" "TemperNurses$Planner" "most" "I") ∈ jv_T := jv_in 237 (by decide +kernel) (by decide +kernel)
theorem mw_240 : (Jvm.Cond.classLink "TemperNurses" (48 : Nat) "TemperNurses$BedMaker") ∈ jv_T := jv_in 240 (by decide +kernel) (by decide +kernel)
theorem mw_241 : (Jvm.Cond.instantiable "TemperNurses$BedMaker" (5 : Nat)) ∈ jv_T := jv_in 241 (by decide +kernel) (by decide +kernel)
theorem mw_242 : (Jvm.Cond.methodLink "TemperNurses" (50 : Nat) ({ cls := "TemperNurses$BedMaker", name := "<init>", desc := "(LTemperNurses$House;)V" } : Jvm.MethodName)) ∈ jv_T := jv_in 242 (by decide +kernel) (by decide +kernel)
theorem mw_243 : (Jvm.Cond.instanceMethod ({ cls := "TemperNurses$BedMaker", name := "<init>", desc := "(LTemperNurses$House;)V" } : Jvm.MethodName)) ∈ jv_T := jv_in 243 (by decide +kernel) (by decide +kernel)
theorem mw_244 : (Jvm.Cond.code ({ cls := "TemperNurses$BedMaker", name := "<init>", desc := "(LTemperNurses$House;)V" } : Jvm.MethodName) prog_2_method_1_code (2 : Nat) (Option.none : Option Jvm.ClassFile.FieldType)) ∈ jv_T := jv_in 244 (by decide +kernel) (by decide +kernel)
theorem mw_245 : (Jvm.Cond.methodLink "TemperNurses$BedMaker" (3 : Nat) ({ cls := "java/lang/Object", name := "<init>", desc := "()V" } : Jvm.MethodName)) ∈ jv_T := jv_in 245 (by decide +kernel) (by decide +kernel)
theorem mw_246 : (Jvm.Cond.fieldLink "TemperNurses$BedMaker" (18 : Nat) "TemperNurses$BedMaker" "house" "LTemperNurses$House;") ∈ jv_T := jv_in 246 (by decide +kernel) (by decide +kernel)
theorem mw_247 : (Jvm.Cond.fieldLink "TemperNurses$BedMaker" (9 : Nat) "TemperNurses$BedMaker" "tried" "[I") ∈ jv_T := jv_in 247 (by decide +kernel) (by decide +kernel)
theorem mw_248 : (Jvm.Cond.fieldLink "TemperNurses$BedMaker" (22 : Nat) "TemperNurses$BedMaker" "limit" "I") ∈ jv_T := jv_in 248 (by decide +kernel) (by decide +kernel)
theorem mw_249 : (Jvm.Cond.fieldLink "TemperNurses$BedMaker" (15 : Nat) "TemperNurses$BedMaker" "chosen" "[I") ∈ jv_T := jv_in 249 (by decide +kernel) (by decide +kernel)
theorem mw_250 : (Jvm.Cond.fieldLink "TemperNurses" (237 : Nat) "TemperNurses$BedMaker" "chosen" "[I") ∈ jv_T := jv_in 250 (by decide +kernel) (by decide +kernel)
theorem mw_251 : (Jvm.Cond.fieldLink "TemperNurses$BedMaker" (26 : Nat) "TemperNurses$BedMaker" "most" "I") ∈ jv_T := jv_in 251 (by decide +kernel) (by decide +kernel)
theorem mw_252 : (Jvm.Cond.fieldLink "TemperNurses" (236 : Nat) "TemperNurses$BedMaker" "most" "I") ∈ jv_T := jv_in 252 (by decide +kernel) (by decide +kernel)
theorem mw_253 : (Jvm.Cond.laysFinal "TemperNurses$BedMaker" "TemperNurses$BedMaker" "house" "LTemperNurses$House;") ∈ jv_T := jv_in 253 (by decide +kernel) (by decide +kernel)
theorem mw_255 : (Jvm.Cond.laysFinal "TemperNurses$BedMaker" "TemperNurses$BedMaker" "tried" "[I") ∈ jv_T := jv_in 255 (by decide +kernel) (by decide +kernel)
theorem mw_257 : (Jvm.Cond.lays "TemperNurses$BedMaker" "TemperNurses$BedMaker" "limit" "I") ∈ jv_T := jv_in 257 (by decide +kernel) (by decide +kernel)
theorem mw_259 : (Jvm.Cond.laysFinal "TemperNurses$BedMaker" "TemperNurses$BedMaker" "chosen" "[I") ∈ jv_T := jv_in 259 (by decide +kernel) (by decide +kernel)
theorem mw_261 : (Jvm.Cond.lays "TemperNurses$BedMaker" "TemperNurses$BedMaker" "most" "I") ∈ jv_T := jv_in 261 (by decide +kernel) (by decide +kernel)
theorem mw_264 : (Jvm.Cond.classLink "TemperNurses" (55 : Nat) "TemperNurses$Listener") ∈ jv_T := jv_in 264 (by decide +kernel) (by decide +kernel)
theorem mw_265 : (Jvm.Cond.instantiable "TemperNurses$Listener" (4 : Nat)) ∈ jv_T := jv_in 265 (by decide +kernel) (by decide +kernel)
theorem mw_266 : (Jvm.Cond.methodLink "TemperNurses" (57 : Nat) ({ cls := "TemperNurses$Listener", name := "<init>", desc := "(LTemperNurses$House;)V" } : Jvm.MethodName)) ∈ jv_T := jv_in 266 (by decide +kernel) (by decide +kernel)
theorem mw_267 : (Jvm.Cond.instanceMethod ({ cls := "TemperNurses$Listener", name := "<init>", desc := "(LTemperNurses$House;)V" } : Jvm.MethodName)) ∈ jv_T := jv_in 267 (by decide +kernel) (by decide +kernel)
theorem mw_268 : (Jvm.Cond.code ({ cls := "TemperNurses$Listener", name := "<init>", desc := "(LTemperNurses$House;)V" } : Jvm.MethodName) prog_7_method_1_code (2 : Nat) (Option.none : Option Jvm.ClassFile.FieldType)) ∈ jv_T := jv_in 268 (by decide +kernel) (by decide +kernel)
theorem mw_269 : (Jvm.Cond.methodLink "TemperNurses$Listener" (3 : Nat) ({ cls := "java/lang/Object", name := "<init>", desc := "()V" } : Jvm.MethodName)) ∈ jv_T := jv_in 269 (by decide +kernel) (by decide +kernel)
theorem mw_270 : (Jvm.Cond.fieldLink "TemperNurses$Listener" (18 : Nat) "TemperNurses$Listener" "house" "LTemperNurses$House;") ∈ jv_T := jv_in 270 (by decide +kernel) (by decide +kernel)
theorem mw_271 : (Jvm.Cond.fieldLink "TemperNurses$Listener" (9 : Nat) "TemperNurses$Listener" "bangsAt" "[I") ∈ jv_T := jv_in 271 (by decide +kernel) (by decide +kernel)
theorem mw_272 : (Jvm.Cond.fieldLink "TemperNurses$Listener" (15 : Nat) "TemperNurses$Listener" "bangs" "[I") ∈ jv_T := jv_in 272 (by decide +kernel) (by decide +kernel)
theorem mw_273 : (Jvm.Cond.fieldLink "TemperNurses$Listener" (22 : Nat) "TemperNurses$Listener" "heard" "I") ∈ jv_T := jv_in 273 (by decide +kernel) (by decide +kernel)
theorem mw_274 : (Jvm.Cond.fieldLink "TemperNurses" (246 : Nat) "TemperNurses$Listener" "heard" "I") ∈ jv_T := jv_in 274 (by decide +kernel) (by decide +kernel)
theorem mw_275 : (Jvm.Cond.laysFinal "TemperNurses$Listener" "TemperNurses$Listener" "house" "LTemperNurses$House;") ∈ jv_T := jv_in 275 (by decide +kernel) (by decide +kernel)
theorem mw_277 : (Jvm.Cond.laysFinal "TemperNurses$Listener" "TemperNurses$Listener" "bangsAt" "[I") ∈ jv_T := jv_in 277 (by decide +kernel) (by decide +kernel)
theorem mw_279 : (Jvm.Cond.laysFinal "TemperNurses$Listener" "TemperNurses$Listener" "bangs" "[I") ∈ jv_T := jv_in 279 (by decide +kernel) (by decide +kernel)
theorem mw_281 : (Jvm.Cond.lays "TemperNurses$Listener" "TemperNurses$Listener" "heard" "I") ∈ jv_T := jv_in 281 (by decide +kernel) (by decide +kernel)
theorem mw_284 : (Jvm.Cond.classLink "TemperNurses" (62 : Nat) "TemperNurses$Kinds") ∈ jv_T := jv_in 284 (by decide +kernel) (by decide +kernel)
theorem mw_285 : (Jvm.Cond.instantiable "TemperNurses$Kinds" (2 : Nat)) ∈ jv_T := jv_in 285 (by decide +kernel) (by decide +kernel)
theorem mw_286 : (Jvm.Cond.methodLink "TemperNurses" (64 : Nat) ({ cls := "TemperNurses$Kinds", name := "<init>", desc := "(LTemperNurses$House;)V" } : Jvm.MethodName)) ∈ jv_T := jv_in 286 (by decide +kernel) (by decide +kernel)
theorem mw_287 : (Jvm.Cond.instanceMethod ({ cls := "TemperNurses$Kinds", name := "<init>", desc := "(LTemperNurses$House;)V" } : Jvm.MethodName)) ∈ jv_T := jv_in 287 (by decide +kernel) (by decide +kernel)
theorem mw_288 : (Jvm.Cond.code ({ cls := "TemperNurses$Kinds", name := "<init>", desc := "(LTemperNurses$House;)V" } : Jvm.MethodName) prog_6_method_1_code (2 : Nat) (Option.none : Option Jvm.ClassFile.FieldType)) ∈ jv_T := jv_in 288 (by decide +kernel) (by decide +kernel)
theorem mw_289 : (Jvm.Cond.methodLink "TemperNurses$Kinds" (1 : Nat) ({ cls := "java/lang/Object", name := "<init>", desc := "()V" } : Jvm.MethodName)) ∈ jv_T := jv_in 289 (by decide +kernel) (by decide +kernel)
theorem mw_290 : (Jvm.Cond.fieldLink "TemperNurses$Kinds" (7 : Nat) "TemperNurses$Kinds" "house" "LTemperNurses$House;") ∈ jv_T := jv_in 290 (by decide +kernel) (by decide +kernel)
theorem mw_291 : (Jvm.Cond.fieldLink "TemperNurses$Kinds" (13 : Nat) "TemperNurses$Kinds" "traced" "J") ∈ jv_T := jv_in 291 (by decide +kernel) (by decide +kernel)
theorem mw_292 : (Jvm.Cond.fieldLink "TemperNurses" (283 : Nat) "TemperNurses$Kinds" "traced" "J") ∈ jv_T := jv_in 292 (by decide +kernel) (by decide +kernel)
theorem mw_293 : (Jvm.Cond.laysFinal "TemperNurses$Kinds" "TemperNurses$Kinds" "house" "LTemperNurses$House;") ∈ jv_T := jv_in 293 (by decide +kernel) (by decide +kernel)
theorem mw_295 : (Jvm.Cond.lays "TemperNurses$Kinds" "TemperNurses$Kinds" "traced" "J") ∈ jv_T := jv_in 295 (by decide +kernel) (by decide +kernel)
theorem mw_298 : (Jvm.Cond.methodLink "TemperNurses" (83 : Nat) ({ cls := "TemperNurses$Course", name := "begin", desc := "(LTemperNurses$Hill;)V" } : Jvm.MethodName)) ∈ jv_T := jv_in 298 (by decide +kernel) (by decide +kernel)
theorem mw_299 : (Jvm.Cond.instanceMethod ({ cls := "TemperNurses$Course", name := "begin", desc := "(LTemperNurses$Hill;)V" } : Jvm.MethodName)) ∈ jv_T := jv_in 299 (by decide +kernel) (by decide +kernel)
theorem mw_300 : (Jvm.Cond.selects "TemperNurses$Course" ({ cls := "TemperNurses$Course", name := "begin", desc := "(LTemperNurses$Hill;)V" } : Jvm.MethodName) ({ cls := "TemperNurses$Course", name := "begin", desc := "(LTemperNurses$Hill;)V" } : Jvm.MethodName)) ∈ jv_T := jv_in 300 (by decide +kernel) (by decide +kernel)
theorem mw_301 : (Jvm.Cond.code ({ cls := "TemperNurses$Course", name := "begin", desc := "(LTemperNurses$Hill;)V" } : Jvm.MethodName) prog_3_method_2_code (3 : Nat) (Option.none : Option Jvm.ClassFile.FieldType)) ∈ jv_T := jv_in 301 (by decide +kernel) (by decide +kernel)
theorem mw_302 : (Jvm.Cond.methodLink "TemperNurses$Course" (19 : Nat) ({ cls := "TemperNurses$Course", name := "setYear", desc := "(I)V" } : Jvm.MethodName)) ∈ jv_T := jv_in 302 (by decide +kernel) (by decide +kernel)
theorem mw_303 : (Jvm.Cond.instanceMethod ({ cls := "TemperNurses$Course", name := "setYear", desc := "(I)V" } : Jvm.MethodName)) ∈ jv_T := jv_in 303 (by decide +kernel) (by decide +kernel)
theorem mw_304 : (Jvm.Cond.selects "TemperNurses$Course" ({ cls := "TemperNurses$Course", name := "setYear", desc := "(I)V" } : Jvm.MethodName) ({ cls := "TemperNurses$Course", name := "setYear", desc := "(I)V" } : Jvm.MethodName)) ∈ jv_T := jv_in 304 (by decide +kernel) (by decide +kernel)
theorem mw_305 : (Jvm.Cond.code ({ cls := "TemperNurses$Course", name := "setYear", desc := "(I)V" } : Jvm.MethodName) prog_3_method_10_code (2 : Nat) (Option.none : Option Jvm.ClassFile.FieldType)) ∈ jv_T := jv_in 305 (by decide +kernel) (by decide +kernel)
theorem mw_306 : (Jvm.Cond.methodLink "TemperNurses$Course" (48 : Nat) ({ cls := "TemperNurses$Course", name := "setCell", desc := "(II)V" } : Jvm.MethodName)) ∈ jv_T := jv_in 306 (by decide +kernel) (by decide +kernel)
theorem mw_308 : (Jvm.Cond.instanceMethod ({ cls := "TemperNurses$Course", name := "setCell", desc := "(II)V" } : Jvm.MethodName)) ∈ jv_T := jv_in 308 (by decide +kernel) (by decide +kernel)
theorem mw_309 : (Jvm.Cond.code ({ cls := "TemperNurses$Course", name := "setCell", desc := "(II)V" } : Jvm.MethodName) prog_3_method_18_code (4 : Nat) (Option.none : Option Jvm.ClassFile.FieldType)) ∈ jv_T := jv_in 309 (by decide +kernel) (by decide +kernel)
theorem mw_310 : (Jvm.Cond.methodLink "TemperNurses$Course" (28 : Nat) ({ cls := "TemperNurses$Course", name := "setHeat", desc := "(II)V" } : Jvm.MethodName)) ∈ jv_T := jv_in 310 (by decide +kernel) (by decide +kernel)
theorem mw_311 : (Jvm.Cond.instanceMethod ({ cls := "TemperNurses$Course", name := "setHeat", desc := "(II)V" } : Jvm.MethodName)) ∈ jv_T := jv_in 311 (by decide +kernel) (by decide +kernel)
theorem mw_312 : (Jvm.Cond.selects "TemperNurses$Course" ({ cls := "TemperNurses$Course", name := "setHeat", desc := "(II)V" } : Jvm.MethodName) ({ cls := "TemperNurses$Course", name := "setHeat", desc := "(II)V" } : Jvm.MethodName)) ∈ jv_T := jv_in 312 (by decide +kernel) (by decide +kernel)
theorem mw_313 : (Jvm.Cond.code ({ cls := "TemperNurses$Course", name := "setHeat", desc := "(II)V" } : Jvm.MethodName) prog_3_method_11_code (3 : Nat) (Option.none : Option Jvm.ClassFile.FieldType)) ∈ jv_T := jv_in 313 (by decide +kernel) (by decide +kernel)
theorem mw_314 : (Jvm.Cond.methodLink "TemperNurses$Course" (32 : Nat) ({ cls := "TemperNurses$Course", name := "setPlace", desc := "(II)V" } : Jvm.MethodName)) ∈ jv_T := jv_in 314 (by decide +kernel) (by decide +kernel)
theorem mw_315 : (Jvm.Cond.instanceMethod ({ cls := "TemperNurses$Course", name := "setPlace", desc := "(II)V" } : Jvm.MethodName)) ∈ jv_T := jv_in 315 (by decide +kernel) (by decide +kernel)
theorem mw_316 : (Jvm.Cond.selects "TemperNurses$Course" ({ cls := "TemperNurses$Course", name := "setPlace", desc := "(II)V" } : Jvm.MethodName) ({ cls := "TemperNurses$Course", name := "setPlace", desc := "(II)V" } : Jvm.MethodName)) ∈ jv_T := jv_in 316 (by decide +kernel) (by decide +kernel)
theorem mw_317 : (Jvm.Cond.code ({ cls := "TemperNurses$Course", name := "setPlace", desc := "(II)V" } : Jvm.MethodName) prog_3_method_12_code (3 : Nat) (Option.none : Option Jvm.ClassFile.FieldType)) ∈ jv_T := jv_in 317 (by decide +kernel) (by decide +kernel)
theorem mw_318 : (Jvm.Cond.methodLink "TemperNurses$Course" (35 : Nat) ({ cls := "TemperNurses$Course", name := "setOwner", desc := "(II)V" } : Jvm.MethodName)) ∈ jv_T := jv_in 318 (by decide +kernel) (by decide +kernel)
theorem mw_319 : (Jvm.Cond.instanceMethod ({ cls := "TemperNurses$Course", name := "setOwner", desc := "(II)V" } : Jvm.MethodName)) ∈ jv_T := jv_in 319 (by decide +kernel) (by decide +kernel)
theorem mw_320 : (Jvm.Cond.selects "TemperNurses$Course" ({ cls := "TemperNurses$Course", name := "setOwner", desc := "(II)V" } : Jvm.MethodName) ({ cls := "TemperNurses$Course", name := "setOwner", desc := "(II)V" } : Jvm.MethodName)) ∈ jv_T := jv_in 320 (by decide +kernel) (by decide +kernel)
theorem mw_321 : (Jvm.Cond.code ({ cls := "TemperNurses$Course", name := "setOwner", desc := "(II)V" } : Jvm.MethodName) prog_3_method_13_code (3 : Nat) (Option.none : Option Jvm.ClassFile.FieldType)) ∈ jv_T := jv_in 321 (by decide +kernel) (by decide +kernel)
theorem mw_322 : (Jvm.Cond.fieldLink "TemperNurses" (10 : Nat) "TemperNurses" "told" "LTemperNurses$Hill;") ∈ jv_T := jv_in 322 (by decide +kernel) (by decide +kernel)
theorem mw_323 : (Jvm.Cond.fieldLink "TemperNurses" (19 : Nat) "TemperNurses" "reader" "LTemperNurses$TextReader;") ∈ jv_T := jv_in 323 (by decide +kernel) (by decide +kernel)
theorem mw_324 : (Jvm.Cond.fieldLink "TemperNurses" (26 : Nat) "TemperNurses" "course" "LTemperNurses$Course;") ∈ jv_T := jv_in 324 (by decide +kernel) (by decide +kernel)
theorem mw_325 : (Jvm.Cond.fieldLink "TemperNurses" (35 : Nat) "TemperNurses" "house" "LTemperNurses$House;") ∈ jv_T := jv_in 325 (by decide +kernel) (by decide +kernel)
theorem mw_326 : (Jvm.Cond.fieldLink "TemperNurses" (44 : Nat) "TemperNurses" "planner" "LTemperNurses$Planner;") ∈ jv_T := jv_in 326 (by decide +kernel) (by decide +kernel)
theorem mw_327 : (Jvm.Cond.fieldLink "TemperNurses" (51 : Nat) "TemperNurses" "bedMaker" "LTemperNurses$BedMaker;") ∈ jv_T := jv_in 327 (by decide +kernel) (by decide +kernel)
theorem mw_328 : (Jvm.Cond.fieldLink "TemperNurses" (58 : Nat) "TemperNurses" "listener" "LTemperNurses$Listener;") ∈ jv_T := jv_in 328 (by decide +kernel) (by decide +kernel)
theorem mw_329 : (Jvm.Cond.fieldLink "TemperNurses" (65 : Nat) "TemperNurses" "kinds" "LTemperNurses$Kinds;") ∈ jv_T := jv_in 329 (by decide +kernel) (by decide +kernel)
theorem mw_330 : (Jvm.Cond.fieldLink "TemperNurses" (69 : Nat) "TemperNurses" "image0" "LTemperNurses$Course;") ∈ jv_T := jv_in 330 (by decide +kernel) (by decide +kernel)
theorem mw_331 : (Jvm.Cond.fieldLink "TemperNurses" (72 : Nat) "TemperNurses" "image1" "LTemperNurses$Course;") ∈ jv_T := jv_in 331 (by decide +kernel) (by decide +kernel)
theorem mw_332 : (Jvm.Cond.fieldLink "TemperNurses" (75 : Nat) "TemperNurses" "kept" "[Z") ∈ jv_T := jv_in 332 (by decide +kernel) (by decide +kernel)
theorem mw_333 : (Jvm.Cond.fieldLink "TemperNurses" (79 : Nat) "TemperNurses" "looseWays" "[I") ∈ jv_T := jv_in 333 (by decide +kernel) (by decide +kernel)
theorem mw_334 : (Jvm.Cond.laysFinal "TemperNurses" "TemperNurses" "told" "LTemperNurses$Hill;") ∈ jv_T := jv_in 334 (by decide +kernel) (by decide +kernel)
theorem mw_336 : (Jvm.Cond.laysFinal "TemperNurses" "TemperNurses" "reader" "LTemperNurses$TextReader;") ∈ jv_T := jv_in 336 (by decide +kernel) (by decide +kernel)
theorem mw_338 : (Jvm.Cond.laysFinal "TemperNurses" "TemperNurses" "course" "LTemperNurses$Course;") ∈ jv_T := jv_in 338 (by decide +kernel) (by decide +kernel)
theorem mw_340 : (Jvm.Cond.laysFinal "TemperNurses" "TemperNurses" "house" "LTemperNurses$House;") ∈ jv_T := jv_in 340 (by decide +kernel) (by decide +kernel)
theorem mw_342 : (Jvm.Cond.laysFinal "TemperNurses" "TemperNurses" "planner" "LTemperNurses$Planner;") ∈ jv_T := jv_in 342 (by decide +kernel) (by decide +kernel)
theorem mw_344 : (Jvm.Cond.laysFinal "TemperNurses" "TemperNurses" "bedMaker" "LTemperNurses$BedMaker;") ∈ jv_T := jv_in 344 (by decide +kernel) (by decide +kernel)
theorem mw_346 : (Jvm.Cond.laysFinal "TemperNurses" "TemperNurses" "listener" "LTemperNurses$Listener;") ∈ jv_T := jv_in 346 (by decide +kernel) (by decide +kernel)
theorem mw_348 : (Jvm.Cond.laysFinal "TemperNurses" "TemperNurses" "kinds" "LTemperNurses$Kinds;") ∈ jv_T := jv_in 348 (by decide +kernel) (by decide +kernel)
theorem mw_350 : (Jvm.Cond.laysFinal "TemperNurses" "TemperNurses" "image0" "LTemperNurses$Course;") ∈ jv_T := jv_in 350 (by decide +kernel) (by decide +kernel)
theorem mw_352 : (Jvm.Cond.laysFinal "TemperNurses" "TemperNurses" "image1" "LTemperNurses$Course;") ∈ jv_T := jv_in 352 (by decide +kernel) (by decide +kernel)
theorem mw_354 : (Jvm.Cond.laysFinal "TemperNurses" "TemperNurses" "kept" "[Z") ∈ jv_T := jv_in 354 (by decide +kernel) (by decide +kernel)
theorem mw_356 : (Jvm.Cond.laysFinal "TemperNurses" "TemperNurses" "looseWays" "[I") ∈ jv_T := jv_in 356 (by decide +kernel) (by decide +kernel)
theorem mw_359 : (Jvm.Cond.arrayClass Jvm.ClassFile.FieldType.boolean) ∈ jv_T := jv_in 359 (by decide +kernel) (by decide +kernel)
theorem mw_361 : (Jvm.Cond.instanceMethod ({ cls := "TemperNurses", name := "type", desc := "(I)I" } : Jvm.MethodName)) ∈ jv_T := jv_in 361 (by decide +kernel) (by decide +kernel)
theorem mw_362 : (Jvm.Cond.selects "TemperNurses" ({ cls := "TemperNurses", name := "type", desc := "(I)I" } : Jvm.MethodName) ({ cls := "TemperNurses", name := "type", desc := "(I)I" } : Jvm.MethodName)) ∈ jv_T := jv_in 362 (by decide +kernel) (by decide +kernel)
theorem mw_363 : (Jvm.Cond.code ({ cls := "TemperNurses", name := "type", desc := "(I)I" } : Jvm.MethodName) prog_1_method_2_code (2 : Nat) (Option.some Jvm.ClassFile.FieldType.int)) ∈ jv_T := jv_in 363 (by decide +kernel) (by decide +kernel)
theorem mw_364 : (Jvm.Cond.methodLink "TemperNurses" (87 : Nat) ({ cls := "TemperNurses", name := "isWithin", desc := "(III)Z" } : Jvm.MethodName)) ∈ jv_T := jv_in 364 (by decide +kernel) (by decide +kernel)
theorem mw_365 : (Jvm.Cond.static ({ cls := "TemperNurses", name := "isWithin", desc := "(III)Z" } : Jvm.MethodName)) ∈ jv_T := jv_in 365 (by decide +kernel) (by decide +kernel)
theorem mw_366 : (Jvm.Cond.code ({ cls := "TemperNurses", name := "isWithin", desc := "(III)Z" } : Jvm.MethodName) prog_1_method_29_code (3 : Nat) (Option.some Jvm.ClassFile.FieldType.boolean)) ∈ jv_T := jv_in 366 (by decide +kernel) (by decide +kernel)
theorem mw_367 : (Jvm.Cond.methodLink "TemperNurses" (91 : Nat) ({ cls := "TemperNurses$TextReader", name := "append", desc := "(I)Z" } : Jvm.MethodName)) ∈ jv_T := jv_in 367 (by decide +kernel) (by decide +kernel)
theorem mw_368 : (Jvm.Cond.instanceMethod ({ cls := "TemperNurses$TextReader", name := "append", desc := "(I)Z" } : Jvm.MethodName)) ∈ jv_T := jv_in 368 (by decide +kernel) (by decide +kernel)
theorem mw_369 : (Jvm.Cond.selects "TemperNurses$TextReader" ({ cls := "TemperNurses$TextReader", name := "append", desc := "(I)Z" } : Jvm.MethodName) ({ cls := "TemperNurses$TextReader", name := "append", desc := "(I)Z" } : Jvm.MethodName)) ∈ jv_T := jv_in 369 (by decide +kernel) (by decide +kernel)
theorem mw_370 : (Jvm.Cond.code ({ cls := "TemperNurses$TextReader", name := "append", desc := "(I)Z" } : Jvm.MethodName) prog_9_method_2_code (2 : Nat) (Option.some Jvm.ClassFile.FieldType.boolean)) ∈ jv_T := jv_in 370 (by decide +kernel) (by decide +kernel)
theorem mw_372 : (Jvm.Cond.instanceMethod ({ cls := "TemperNurses", name := "clear", desc := "()I" } : Jvm.MethodName)) ∈ jv_T := jv_in 372 (by decide +kernel) (by decide +kernel)
theorem mw_373 : (Jvm.Cond.selects "TemperNurses" ({ cls := "TemperNurses", name := "clear", desc := "()I" } : Jvm.MethodName) ({ cls := "TemperNurses", name := "clear", desc := "()I" } : Jvm.MethodName)) ∈ jv_T := jv_in 373 (by decide +kernel) (by decide +kernel)
theorem mw_374 : (Jvm.Cond.code ({ cls := "TemperNurses", name := "clear", desc := "()I" } : Jvm.MethodName) prog_1_method_3_code (1 : Nat) (Option.some Jvm.ClassFile.FieldType.int)) ∈ jv_T := jv_in 374 (by decide +kernel) (by decide +kernel)
theorem mw_375 : (Jvm.Cond.methodLink "TemperNurses" (99 : Nat) ({ cls := "TemperNurses$TextReader", name := "empty", desc := "()I" } : Jvm.MethodName)) ∈ jv_T := jv_in 375 (by decide +kernel) (by decide +kernel)
theorem mw_376 : (Jvm.Cond.instanceMethod ({ cls := "TemperNurses$TextReader", name := "empty", desc := "()I" } : Jvm.MethodName)) ∈ jv_T := jv_in 376 (by decide +kernel) (by decide +kernel)
theorem mw_377 : (Jvm.Cond.selects "TemperNurses$TextReader" ({ cls := "TemperNurses$TextReader", name := "empty", desc := "()I" } : Jvm.MethodName) ({ cls := "TemperNurses$TextReader", name := "empty", desc := "()I" } : Jvm.MethodName)) ∈ jv_T := jv_in 377 (by decide +kernel) (by decide +kernel)
theorem mw_378 : (Jvm.Cond.code ({ cls := "TemperNurses$TextReader", name := "empty", desc := "()I" } : Jvm.MethodName) prog_9_method_3_code (2 : Nat) (Option.some Jvm.ClassFile.FieldType.int)) ∈ jv_T := jv_in 378 (by decide +kernel) (by decide +kernel)
theorem mw_380 : (Jvm.Cond.instanceMethod ({ cls := "TemperNurses", name := "hill", desc := "()I" } : Jvm.MethodName)) ∈ jv_T := jv_in 380 (by decide +kernel) (by decide +kernel)
theorem mw_381 : (Jvm.Cond.selects "TemperNurses" ({ cls := "TemperNurses", name := "hill", desc := "()I" } : Jvm.MethodName) ({ cls := "TemperNurses", name := "hill", desc := "()I" } : Jvm.MethodName)) ∈ jv_T := jv_in 381 (by decide +kernel) (by decide +kernel)
theorem mw_382 : (Jvm.Cond.code ({ cls := "TemperNurses", name := "hill", desc := "()I" } : Jvm.MethodName) prog_1_method_4_code (2 : Nat) (Option.some Jvm.ClassFile.FieldType.int)) ∈ jv_T := jv_in 382 (by decide +kernel) (by decide +kernel)
theorem mw_383 : (Jvm.Cond.methodLink "TemperNurses" (103 : Nat) ({ cls := "TemperNurses$TextReader", name := "readAll", desc := "()I" } : Jvm.MethodName)) ∈ jv_T := jv_in 383 (by decide +kernel) (by decide +kernel)
theorem mw_384 : (Jvm.Cond.instanceMethod ({ cls := "TemperNurses$TextReader", name := "readAll", desc := "()I" } : Jvm.MethodName)) ∈ jv_T := jv_in 384 (by decide +kernel) (by decide +kernel)
theorem mw_385 : (Jvm.Cond.selects "TemperNurses$TextReader" ({ cls := "TemperNurses$TextReader", name := "readAll", desc := "()I" } : Jvm.MethodName) ({ cls := "TemperNurses$TextReader", name := "readAll", desc := "()I" } : Jvm.MethodName)) ∈ jv_T := jv_in 385 (by decide +kernel) (by decide +kernel)
theorem mw_386 : (Jvm.Cond.code ({ cls := "TemperNurses$TextReader", name := "readAll", desc := "()I" } : Jvm.MethodName) prog_9_method_4_code (3 : Nat) (Option.some Jvm.ClassFile.FieldType.int)) ∈ jv_T := jv_in 386 (by decide +kernel) (by decide +kernel)
theorem mw_387 : (Jvm.Cond.methodLink "TemperNurses$TextReader" (29 : Nat) ({ cls := "TemperNurses$Hill", name := "wipe", desc := "()V" } : Jvm.MethodName)) ∈ jv_T := jv_in 387 (by decide +kernel) (by decide +kernel)
theorem mw_388 : (Jvm.Cond.instanceMethod ({ cls := "TemperNurses$Hill", name := "wipe", desc := "()V" } : Jvm.MethodName)) ∈ jv_T := jv_in 388 (by decide +kernel) (by decide +kernel)
theorem mw_389 : (Jvm.Cond.selects "TemperNurses$Hill" ({ cls := "TemperNurses$Hill", name := "wipe", desc := "()V" } : Jvm.MethodName) ({ cls := "TemperNurses$Hill", name := "wipe", desc := "()V" } : Jvm.MethodName)) ∈ jv_T := jv_in 389 (by decide +kernel) (by decide +kernel)
theorem mw_390 : (Jvm.Cond.code ({ cls := "TemperNurses$Hill", name := "wipe", desc := "()V" } : Jvm.MethodName) prog_4_method_4_code (1 : Nat) (Option.none : Option Jvm.ClassFile.FieldType)) ∈ jv_T := jv_in 390 (by decide +kernel) (by decide +kernel)
theorem mw_391 : (Jvm.Cond.methodLink "TemperNurses$Hill" (40 : Nat) ({ cls := "java/util/Arrays", name := "fill", desc := "([II)V" } : Jvm.MethodName)) ∈ jv_T := jv_in 391 (by decide +kernel) (by decide +kernel)
theorem mw_392 : (Jvm.Cond.static ({ cls := "java/util/Arrays", name := "fill", desc := "([II)V" } : Jvm.MethodName)) ∈ jv_T := jv_in 392 (by decide +kernel) (by decide +kernel)
theorem mw_393 : (Jvm.Cond.code ({ cls := "java/util/Arrays", name := "fill", desc := "([II)V" } : Jvm.MethodName) prog_15_method_103_code (4 : Nat) (Option.none : Option Jvm.ClassFile.FieldType)) ∈ jv_T := jv_in 393 (by decide +kernel) (by decide +kernel)
theorem mw_394 : (Jvm.Cond.methodLink "TemperNurses$TextReader" (38 : Nat) ({ cls := "TemperNurses$TextReader", name := "readToken", desc := "()V" } : Jvm.MethodName)) ∈ jv_T := jv_in 394 (by decide +kernel) (by decide +kernel)
theorem mw_396 : (Jvm.Cond.instanceMethod ({ cls := "TemperNurses$TextReader", name := "readToken", desc := "()V" } : Jvm.MethodName)) ∈ jv_T := jv_in 396 (by decide +kernel) (by decide +kernel)
theorem mw_397 : (Jvm.Cond.code ({ cls := "TemperNurses$TextReader", name := "readToken", desc := "()V" } : Jvm.MethodName) prog_9_method_11_code (1 : Nat) (Option.none : Option Jvm.ClassFile.FieldType)) ∈ jv_T := jv_in 397 (by decide +kernel) (by decide +kernel)
theorem mw_398 : (Jvm.Cond.methodLink "TemperNurses$TextReader" (110 : Nat) ({ cls := "TemperNurses$TextReader", name := "byteAt", desc := "(I)I" } : Jvm.MethodName)) ∈ jv_T := jv_in 398 (by decide +kernel) (by decide +kernel)
theorem mw_400 : (Jvm.Cond.instanceMethod ({ cls := "TemperNurses$TextReader", name := "byteAt", desc := "(I)I" } : Jvm.MethodName)) ∈ jv_T := jv_in 400 (by decide +kernel) (by decide +kernel)
theorem mw_401 : (Jvm.Cond.code ({ cls := "TemperNurses$TextReader", name := "byteAt", desc := "(I)I" } : Jvm.MethodName) prog_9_method_16_code (2 : Nat) (Option.some Jvm.ClassFile.FieldType.int)) ∈ jv_T := jv_in 401 (by decide +kernel) (by decide +kernel)
theorem mw_403 : (Jvm.Cond.methodLink "TemperNurses$TextReader" (114 : Nat) ({ cls := "TemperNurses$TextReader", name := "isLetter", desc := "(I)Z" } : Jvm.MethodName)) ∈ jv_T := jv_in 403 (by decide +kernel) (by decide +kernel)
theorem mw_405 : (Jvm.Cond.instanceMethod ({ cls := "TemperNurses$TextReader", name := "isLetter", desc := "(I)Z" } : Jvm.MethodName)) ∈ jv_T := jv_in 405 (by decide +kernel) (by decide +kernel)
theorem mw_406 : (Jvm.Cond.code ({ cls := "TemperNurses$TextReader", name := "isLetter", desc := "(I)Z" } : Jvm.MethodName) prog_9_method_14_code (2 : Nat) (Option.some Jvm.ClassFile.FieldType.boolean)) ∈ jv_T := jv_in 406 (by decide +kernel) (by decide +kernel)
theorem mw_407 : (Jvm.Cond.methodLink "TemperNurses$TextReader" (117 : Nat) ({ cls := "TemperNurses$TextReader", name := "readLetters", desc := "()V" } : Jvm.MethodName)) ∈ jv_T := jv_in 407 (by decide +kernel) (by decide +kernel)
theorem mw_409 : (Jvm.Cond.instanceMethod ({ cls := "TemperNurses$TextReader", name := "readLetters", desc := "()V" } : Jvm.MethodName)) ∈ jv_T := jv_in 409 (by decide +kernel) (by decide +kernel)
theorem mw_410 : (Jvm.Cond.code ({ cls := "TemperNurses$TextReader", name := "readLetters", desc := "()V" } : Jvm.MethodName) prog_9_method_12_code (1 : Nat) (Option.none : Option Jvm.ClassFile.FieldType)) ∈ jv_T := jv_in 410 (by decide +kernel) (by decide +kernel)
theorem mw_411 : (Jvm.Cond.methodLink "TemperNurses$TextReader" (120 : Nat) ({ cls := "TemperNurses$TextReader", name := "isDigit", desc := "(I)Z" } : Jvm.MethodName)) ∈ jv_T := jv_in 411 (by decide +kernel) (by decide +kernel)
theorem mw_413 : (Jvm.Cond.instanceMethod ({ cls := "TemperNurses$TextReader", name := "isDigit", desc := "(I)Z" } : Jvm.MethodName)) ∈ jv_T := jv_in 413 (by decide +kernel) (by decide +kernel)
theorem mw_414 : (Jvm.Cond.code ({ cls := "TemperNurses$TextReader", name := "isDigit", desc := "(I)Z" } : Jvm.MethodName) prog_9_method_15_code (2 : Nat) (Option.some Jvm.ClassFile.FieldType.boolean)) ∈ jv_T := jv_in 414 (by decide +kernel) (by decide +kernel)
theorem mw_415 : (Jvm.Cond.methodLink "TemperNurses$TextReader" (123 : Nat) ({ cls := "TemperNurses$TextReader", name := "readDigits", desc := "()V" } : Jvm.MethodName)) ∈ jv_T := jv_in 415 (by decide +kernel) (by decide +kernel)
theorem mw_417 : (Jvm.Cond.instanceMethod ({ cls := "TemperNurses$TextReader", name := "readDigits", desc := "()V" } : Jvm.MethodName)) ∈ jv_T := jv_in 417 (by decide +kernel) (by decide +kernel)
theorem mw_418 : (Jvm.Cond.code ({ cls := "TemperNurses$TextReader", name := "readDigits", desc := "()V" } : Jvm.MethodName) prog_9_method_13_code (2 : Nat) (Option.none : Option Jvm.ClassFile.FieldType)) ∈ jv_T := jv_in 418 (by decide +kernel) (by decide +kernel)
theorem mw_419 : (Jvm.Cond.methodLink "TemperNurses$TextReader" (44 : Nat) ({ cls := "TemperNurses$TextReader", name := "canStand", desc := "()Z" } : Jvm.MethodName)) ∈ jv_T := jv_in 419 (by decide +kernel) (by decide +kernel)
theorem mw_421 : (Jvm.Cond.instanceMethod ({ cls := "TemperNurses$TextReader", name := "canStand", desc := "()Z" } : Jvm.MethodName)) ∈ jv_T := jv_in 421 (by decide +kernel) (by decide +kernel)
theorem mw_422 : (Jvm.Cond.code ({ cls := "TemperNurses$TextReader", name := "canStand", desc := "()Z" } : Jvm.MethodName) prog_9_method_5_code (1 : Nat) (Option.some Jvm.ClassFile.FieldType.boolean)) ∈ jv_T := jv_in 422 (by decide +kernel) (by decide +kernel)
theorem mw_423 : (Jvm.Cond.methodLink "TemperNurses$TextReader" (54 : Nat) ({ cls := "TemperNurses$TextReader", name := "canBeginItem", desc := "()Z" } : Jvm.MethodName)) ∈ jv_T := jv_in 423 (by decide +kernel) (by decide +kernel)
theorem mw_425 : (Jvm.Cond.instanceMethod ({ cls := "TemperNurses$TextReader", name := "canBeginItem", desc := "()Z" } : Jvm.MethodName)) ∈ jv_T := jv_in 425 (by decide +kernel) (by decide +kernel)
theorem mw_426 : (Jvm.Cond.code ({ cls := "TemperNurses$TextReader", name := "canBeginItem", desc := "()Z" } : Jvm.MethodName) prog_9_method_6_code (1 : Nat) (Option.some Jvm.ClassFile.FieldType.boolean)) ∈ jv_T := jv_in 426 (by decide +kernel) (by decide +kernel)
theorem mw_427 : (Jvm.Cond.methodLink "TemperNurses$TextReader" (60 : Nat) ({ cls := "TemperNurses$TextReader", name := "numbersOfItem", desc := "()I" } : Jvm.MethodName)) ∈ jv_T := jv_in 427 (by decide +kernel) (by decide +kernel)
theorem mw_429 : (Jvm.Cond.instanceMethod ({ cls := "TemperNurses$TextReader", name := "numbersOfItem", desc := "()I" } : Jvm.MethodName)) ∈ jv_T := jv_in 429 (by decide +kernel) (by decide +kernel)
theorem mw_430 : (Jvm.Cond.code ({ cls := "TemperNurses$TextReader", name := "numbersOfItem", desc := "()I" } : Jvm.MethodName) prog_9_method_8_code (1 : Nat) (Option.some Jvm.ClassFile.FieldType.int)) ∈ jv_T := jv_in 430 (by decide +kernel) (by decide +kernel)
theorem mw_431 : (Jvm.Cond.methodLink "TemperNurses$TextReader" (64 : Nat) ({ cls := "TemperNurses$TextReader", name := "canBeTold", desc := "()Z" } : Jvm.MethodName)) ∈ jv_T := jv_in 431 (by decide +kernel) (by decide +kernel)
theorem mw_433 : (Jvm.Cond.instanceMethod ({ cls := "TemperNurses$TextReader", name := "canBeTold", desc := "()Z" } : Jvm.MethodName)) ∈ jv_T := jv_in 433 (by decide +kernel) (by decide +kernel)
theorem mw_434 : (Jvm.Cond.code ({ cls := "TemperNurses$TextReader", name := "canBeTold", desc := "()Z" } : Jvm.MethodName) prog_9_method_7_code (2 : Nat) (Option.some Jvm.ClassFile.FieldType.boolean)) ∈ jv_T := jv_in 434 (by decide +kernel) (by decide +kernel)
theorem mw_435 : (Jvm.Cond.fieldLink "TemperNurses$TextReader" (80 : Nat) "TemperNurses$TextReader" "TEMPER_LEAST" "[I") ∈ jv_T := jv_in 435 (by decide +kernel) (by decide +kernel)
theorem mw_437 : (Jvm.Cond.fieldLink "TemperNurses$TextReader" (83 : Nat) "TemperNurses$TextReader" "TEMPER_MOST" "[I") ∈ jv_T := jv_in 437 (by decide +kernel) (by decide +kernel)
theorem mw_439 : (Jvm.Cond.fieldLink "TemperNurses$TextReader" (86 : Nat) "TemperNurses$TextReader" "NURSE_LEAST" "[I") ∈ jv_T := jv_in 439 (by decide +kernel) (by decide +kernel)
theorem mw_441 : (Jvm.Cond.fieldLink "TemperNurses$TextReader" (89 : Nat) "TemperNurses$TextReader" "NURSE_MOST" "[I") ∈ jv_T := jv_in 441 (by decide +kernel) (by decide +kernel)
theorem mw_443 : (Jvm.Cond.methodLink "TemperNurses$TextReader" (92 : Nat) ({ cls := "TemperNurses$Hill", name := "hasTemper", desc := "(I)Z" } : Jvm.MethodName)) ∈ jv_T := jv_in 443 (by decide +kernel) (by decide +kernel)
theorem mw_444 : (Jvm.Cond.instanceMethod ({ cls := "TemperNurses$Hill", name := "hasTemper", desc := "(I)Z" } : Jvm.MethodName)) ∈ jv_T := jv_in 444 (by decide +kernel) (by decide +kernel)
theorem mw_445 : (Jvm.Cond.selects "TemperNurses$Hill" ({ cls := "TemperNurses$Hill", name := "hasTemper", desc := "(I)Z" } : Jvm.MethodName) ({ cls := "TemperNurses$Hill", name := "hasTemper", desc := "(I)Z" } : Jvm.MethodName)) ∈ jv_T := jv_in 445 (by decide +kernel) (by decide +kernel)
theorem mw_446 : (Jvm.Cond.code ({ cls := "TemperNurses$Hill", name := "hasTemper", desc := "(I)Z" } : Jvm.MethodName) prog_4_method_2_code (2 : Nat) (Option.some Jvm.ClassFile.FieldType.boolean)) ∈ jv_T := jv_in 446 (by decide +kernel) (by decide +kernel)
theorem mw_447 : (Jvm.Cond.methodLink "TemperNurses$TextReader" (51 : Nat) ({ cls := "TemperNurses$TextReader", name := "takeToken", desc := "()V" } : Jvm.MethodName)) ∈ jv_T := jv_in 447 (by decide +kernel) (by decide +kernel)
theorem mw_449 : (Jvm.Cond.instanceMethod ({ cls := "TemperNurses$TextReader", name := "takeToken", desc := "()V" } : Jvm.MethodName)) ∈ jv_T := jv_in 449 (by decide +kernel) (by decide +kernel)
theorem mw_450 : (Jvm.Cond.code ({ cls := "TemperNurses$TextReader", name := "takeToken", desc := "()V" } : Jvm.MethodName) prog_9_method_9_code (1 : Nat) (Option.none : Option Jvm.ClassFile.FieldType)) ∈ jv_T := jv_in 450 (by decide +kernel) (by decide +kernel)
theorem mw_451 : (Jvm.Cond.methodLink "TemperNurses$TextReader" (96 : Nat) ({ cls := "TemperNurses$TextReader", name := "takeItem", desc := "()V" } : Jvm.MethodName)) ∈ jv_T := jv_in 451 (by decide +kernel) (by decide +kernel)
theorem mw_453 : (Jvm.Cond.instanceMethod ({ cls := "TemperNurses$TextReader", name := "takeItem", desc := "()V" } : Jvm.MethodName)) ∈ jv_T := jv_in 453 (by decide +kernel) (by decide +kernel)
theorem mw_454 : (Jvm.Cond.code ({ cls := "TemperNurses$TextReader", name := "takeItem", desc := "()V" } : Jvm.MethodName) prog_9_method_10_code (1 : Nat) (Option.none : Option Jvm.ClassFile.FieldType)) ∈ jv_T := jv_in 454 (by decide +kernel) (by decide +kernel)
theorem mw_455 : (Jvm.Cond.methodLink "TemperNurses$TextReader" (99 : Nat) ({ cls := "TemperNurses$Hill", name := "addTemper", desc := "(III)V" } : Jvm.MethodName)) ∈ jv_T := jv_in 455 (by decide +kernel) (by decide +kernel)
theorem mw_456 : (Jvm.Cond.instanceMethod ({ cls := "TemperNurses$Hill", name := "addTemper", desc := "(III)V" } : Jvm.MethodName)) ∈ jv_T := jv_in 456 (by decide +kernel) (by decide +kernel)
theorem mw_457 : (Jvm.Cond.selects "TemperNurses$Hill" ({ cls := "TemperNurses$Hill", name := "addTemper", desc := "(III)V" } : Jvm.MethodName) ({ cls := "TemperNurses$Hill", name := "addTemper", desc := "(III)V" } : Jvm.MethodName)) ∈ jv_T := jv_in 457 (by decide +kernel) (by decide +kernel)
theorem mw_458 : (Jvm.Cond.code ({ cls := "TemperNurses$Hill", name := "addTemper", desc := "(III)V" } : Jvm.MethodName) prog_4_method_5_code (4 : Nat) (Option.none : Option Jvm.ClassFile.FieldType)) ∈ jv_T := jv_in 458 (by decide +kernel) (by decide +kernel)
theorem mw_459 : (Jvm.Cond.methodLink "TemperNurses$TextReader" (103 : Nat) ({ cls := "TemperNurses$Hill", name := "addNurse", desc := "(III)V" } : Jvm.MethodName)) ∈ jv_T := jv_in 459 (by decide +kernel) (by decide +kernel)
theorem mw_460 : (Jvm.Cond.instanceMethod ({ cls := "TemperNurses$Hill", name := "addNurse", desc := "(III)V" } : Jvm.MethodName)) ∈ jv_T := jv_in 460 (by decide +kernel) (by decide +kernel)
theorem mw_461 : (Jvm.Cond.selects "TemperNurses$Hill" ({ cls := "TemperNurses$Hill", name := "addNurse", desc := "(III)V" } : Jvm.MethodName) ({ cls := "TemperNurses$Hill", name := "addNurse", desc := "(III)V" } : Jvm.MethodName)) ∈ jv_T := jv_in 461 (by decide +kernel) (by decide +kernel)
theorem mw_462 : (Jvm.Cond.code ({ cls := "TemperNurses$Hill", name := "addNurse", desc := "(III)V" } : Jvm.MethodName) prog_4_method_6_code (4 : Nat) (Option.none : Option Jvm.ClassFile.FieldType)) ∈ jv_T := jv_in 462 (by decide +kernel) (by decide +kernel)
theorem mw_463 : (Jvm.Cond.methodLink "TemperNurses$TextReader" (106 : Nat) ({ cls := "TemperNurses$Hill", name := "addClash", desc := "(II)V" } : Jvm.MethodName)) ∈ jv_T := jv_in 463 (by decide +kernel) (by decide +kernel)
theorem mw_464 : (Jvm.Cond.instanceMethod ({ cls := "TemperNurses$Hill", name := "addClash", desc := "(II)V" } : Jvm.MethodName)) ∈ jv_T := jv_in 464 (by decide +kernel) (by decide +kernel)
theorem mw_465 : (Jvm.Cond.selects "TemperNurses$Hill" ({ cls := "TemperNurses$Hill", name := "addClash", desc := "(II)V" } : Jvm.MethodName) ({ cls := "TemperNurses$Hill", name := "addClash", desc := "(II)V" } : Jvm.MethodName)) ∈ jv_T := jv_in 465 (by decide +kernel) (by decide +kernel)
theorem mw_466 : (Jvm.Cond.code ({ cls := "TemperNurses$Hill", name := "addClash", desc := "(II)V" } : Jvm.MethodName) prog_4_method_7_code (3 : Nat) (Option.none : Option Jvm.ClassFile.FieldType)) ∈ jv_T := jv_in 466 (by decide +kernel) (by decide +kernel)
theorem mw_467 : (Jvm.Cond.methodLink "TemperNurses$Hill" (46 : Nat) ({ cls := "TemperNurses$Hill", name := "hasTemper", desc := "(I)Z" } : Jvm.MethodName)) ∈ jv_T := jv_in 467 (by decide +kernel) (by decide +kernel)
theorem mw_469 : (Jvm.Cond.static ({ cls := "TemperNurses", name := "bit", desc := "(I)I" } : Jvm.MethodName)) ∈ jv_T := jv_in 469 (by decide +kernel) (by decide +kernel)
theorem mw_470 : (Jvm.Cond.code ({ cls := "TemperNurses", name := "bit", desc := "(I)I" } : Jvm.MethodName) prog_1_method_30_code (1 : Nat) (Option.some Jvm.ClassFile.FieldType.int)) ∈ jv_T := jv_in 470 (by decide +kernel) (by decide +kernel)
theorem mw_471 : (Jvm.Cond.methodLink "TemperNurses" (109 : Nat) ({ cls := "TemperNurses$Hill", name := "take", desc := "(LTemperNurses$Hill;)V" } : Jvm.MethodName)) ∈ jv_T := jv_in 471 (by decide +kernel) (by decide +kernel)
theorem mw_472 : (Jvm.Cond.instanceMethod ({ cls := "TemperNurses$Hill", name := "take", desc := "(LTemperNurses$Hill;)V" } : Jvm.MethodName)) ∈ jv_T := jv_in 472 (by decide +kernel) (by decide +kernel)
theorem mw_473 : (Jvm.Cond.selects "TemperNurses$Hill" ({ cls := "TemperNurses$Hill", name := "take", desc := "(LTemperNurses$Hill;)V" } : Jvm.MethodName) ({ cls := "TemperNurses$Hill", name := "take", desc := "(LTemperNurses$Hill;)V" } : Jvm.MethodName)) ∈ jv_T := jv_in 473 (by decide +kernel) (by decide +kernel)
theorem mw_474 : (Jvm.Cond.code ({ cls := "TemperNurses$Hill", name := "take", desc := "(LTemperNurses$Hill;)V" } : Jvm.MethodName) prog_4_method_8_code (2 : Nat) (Option.none : Option Jvm.ClassFile.FieldType)) ∈ jv_T := jv_in 474 (by decide +kernel) (by decide +kernel)
theorem mw_475 : (Jvm.Cond.methodLink "TemperNurses$Hill" (54 : Nat) ({ cls := "java/lang/System", name := "arraycopy", desc := "(Ljava/lang/Object;ILjava/lang/Object;II)V" } : Jvm.MethodName)) ∈ jv_T := jv_in 475 (by decide +kernel) (by decide +kernel)
theorem mw_476 : (Jvm.Cond.static ({ cls := "java/lang/System", name := "arraycopy", desc := "(Ljava/lang/Object;ILjava/lang/Object;II)V" } : Jvm.MethodName)) ∈ jv_T := jv_in 476 (by decide +kernel) (by decide +kernel)
theorem mw_477 : (Jvm.Cond.native ({ cls := "java/lang/System", name := "arraycopy", desc := "(Ljava/lang/Object;ILjava/lang/Object;II)V" } : Jvm.MethodName)) ∈ jv_T := jv_in 477 (by decide +kernel) (by decide +kernel)
theorem mw_478 : (Jvm.Cond.methodLink "TemperNurses" (112 : Nat) ({ cls := "TemperNurses$Listener", name := "empty", desc := "()I" } : Jvm.MethodName)) ∈ jv_T := jv_in 478 (by decide +kernel) (by decide +kernel)
theorem mw_479 : (Jvm.Cond.instanceMethod ({ cls := "TemperNurses$Listener", name := "empty", desc := "()I" } : Jvm.MethodName)) ∈ jv_T := jv_in 479 (by decide +kernel) (by decide +kernel)
theorem mw_480 : (Jvm.Cond.selects "TemperNurses$Listener" ({ cls := "TemperNurses$Listener", name := "empty", desc := "()I" } : Jvm.MethodName) ({ cls := "TemperNurses$Listener", name := "empty", desc := "()I" } : Jvm.MethodName)) ∈ jv_T := jv_in 480 (by decide +kernel) (by decide +kernel)
theorem mw_481 : (Jvm.Cond.code ({ cls := "TemperNurses$Listener", name := "empty", desc := "()I" } : Jvm.MethodName) prog_7_method_3_code (2 : Nat) (Option.some Jvm.ClassFile.FieldType.int)) ∈ jv_T := jv_in 481 (by decide +kernel) (by decide +kernel)
theorem mw_482 : (Jvm.Cond.methodLink "TemperNurses" (113 : Nat) ({ cls := "java/util/Arrays", name := "fill", desc := "([ZZ)V" } : Jvm.MethodName)) ∈ jv_T := jv_in 482 (by decide +kernel) (by decide +kernel)
theorem mw_483 : (Jvm.Cond.static ({ cls := "java/util/Arrays", name := "fill", desc := "([ZZ)V" } : Jvm.MethodName)) ∈ jv_T := jv_in 483 (by decide +kernel) (by decide +kernel)
theorem mw_484 : (Jvm.Cond.code ({ cls := "java/util/Arrays", name := "fill", desc := "([ZZ)V" } : Jvm.MethodName) prog_15_method_111_code (4 : Nat) (Option.none : Option Jvm.ClassFile.FieldType)) ∈ jv_T := jv_in 484 (by decide +kernel) (by decide +kernel)
theorem mw_486 : (Jvm.Cond.instanceMethod ({ cls := "TemperNurses", name := "temper", desc := "(II)I" } : Jvm.MethodName)) ∈ jv_T := jv_in 486 (by decide +kernel) (by decide +kernel)
theorem mw_487 : (Jvm.Cond.selects "TemperNurses" ({ cls := "TemperNurses", name := "temper", desc := "(II)I" } : Jvm.MethodName) ({ cls := "TemperNurses", name := "temper", desc := "(II)I" } : Jvm.MethodName)) ∈ jv_T := jv_in 487 (by decide +kernel) (by decide +kernel)
theorem mw_488 : (Jvm.Cond.code ({ cls := "TemperNurses", name := "temper", desc := "(II)I" } : Jvm.MethodName) prog_1_method_5_code (3 : Nat) (Option.some Jvm.ClassFile.FieldType.int)) ∈ jv_T := jv_in 488 (by decide +kernel) (by decide +kernel)
theorem mw_489 : (Jvm.Cond.methodLink "TemperNurses" (119 : Nat) ({ cls := "TemperNurses$Hill", name := "hasTemper", desc := "(I)Z" } : Jvm.MethodName)) ∈ jv_T := jv_in 489 (by decide +kernel) (by decide +kernel)
theorem mw_490 : (Jvm.Cond.methodLink "TemperNurses" (122 : Nat) ({ cls := "TemperNurses$Course", name := "heat", desc := "(I)I" } : Jvm.MethodName)) ∈ jv_T := jv_in 490 (by decide +kernel) (by decide +kernel)
theorem mw_491 : (Jvm.Cond.instanceMethod ({ cls := "TemperNurses$Course", name := "heat", desc := "(I)I" } : Jvm.MethodName)) ∈ jv_T := jv_in 491 (by decide +kernel) (by decide +kernel)
theorem mw_492 : (Jvm.Cond.selects "TemperNurses$Course" ({ cls := "TemperNurses$Course", name := "heat", desc := "(I)I" } : Jvm.MethodName) ({ cls := "TemperNurses$Course", name := "heat", desc := "(I)I" } : Jvm.MethodName)) ∈ jv_T := jv_in 492 (by decide +kernel) (by decide +kernel)
theorem mw_493 : (Jvm.Cond.code ({ cls := "TemperNurses$Course", name := "heat", desc := "(I)I" } : Jvm.MethodName) prog_3_method_7_code (2 : Nat) (Option.some Jvm.ClassFile.FieldType.int)) ∈ jv_T := jv_in 493 (by decide +kernel) (by decide +kernel)
theorem mw_494 : (Jvm.Cond.methodLink "TemperNurses$Course" (44 : Nat) ({ cls := "TemperNurses$Course", name := "cell", desc := "(I)I" } : Jvm.MethodName)) ∈ jv_T := jv_in 494 (by decide +kernel) (by decide +kernel)
theorem mw_496 : (Jvm.Cond.instanceMethod ({ cls := "TemperNurses$Course", name := "cell", desc := "(I)I" } : Jvm.MethodName)) ∈ jv_T := jv_in 496 (by decide +kernel) (by decide +kernel)
theorem mw_497 : (Jvm.Cond.code ({ cls := "TemperNurses$Course", name := "cell", desc := "(I)I" } : Jvm.MethodName) prog_3_method_17_code (3 : Nat) (Option.some Jvm.ClassFile.FieldType.int)) ∈ jv_T := jv_in 497 (by decide +kernel) (by decide +kernel)
theorem mw_498 : (Jvm.Cond.methodLink "TemperNurses" (132 : Nat) ({ cls := "TemperNurses$Course", name := "place", desc := "(I)I" } : Jvm.MethodName)) ∈ jv_T := jv_in 498 (by decide +kernel) (by decide +kernel)
theorem mw_499 : (Jvm.Cond.instanceMethod ({ cls := "TemperNurses$Course", name := "place", desc := "(I)I" } : Jvm.MethodName)) ∈ jv_T := jv_in 499 (by decide +kernel) (by decide +kernel)
theorem mw_500 : (Jvm.Cond.selects "TemperNurses$Course" ({ cls := "TemperNurses$Course", name := "place", desc := "(I)I" } : Jvm.MethodName) ({ cls := "TemperNurses$Course", name := "place", desc := "(I)I" } : Jvm.MethodName)) ∈ jv_T := jv_in 500 (by decide +kernel) (by decide +kernel)
theorem mw_501 : (Jvm.Cond.code ({ cls := "TemperNurses$Course", name := "place", desc := "(I)I" } : Jvm.MethodName) prog_3_method_8_code (2 : Nat) (Option.some Jvm.ClassFile.FieldType.int)) ∈ jv_T := jv_in 501 (by decide +kernel) (by decide +kernel)
theorem mw_502 : (Jvm.Cond.methodLink "TemperNurses" (135 : Nat) ({ cls := "TemperNurses$Course", name := "owner", desc := "(I)I" } : Jvm.MethodName)) ∈ jv_T := jv_in 502 (by decide +kernel) (by decide +kernel)
theorem mw_503 : (Jvm.Cond.instanceMethod ({ cls := "TemperNurses$Course", name := "owner", desc := "(I)I" } : Jvm.MethodName)) ∈ jv_T := jv_in 503 (by decide +kernel) (by decide +kernel)
theorem mw_504 : (Jvm.Cond.selects "TemperNurses$Course" ({ cls := "TemperNurses$Course", name := "owner", desc := "(I)I" } : Jvm.MethodName) ({ cls := "TemperNurses$Course", name := "owner", desc := "(I)I" } : Jvm.MethodName)) ∈ jv_T := jv_in 504 (by decide +kernel) (by decide +kernel)
theorem mw_505 : (Jvm.Cond.code ({ cls := "TemperNurses$Course", name := "owner", desc := "(I)I" } : Jvm.MethodName) prog_3_method_9_code (2 : Nat) (Option.some Jvm.ClassFile.FieldType.int)) ∈ jv_T := jv_in 505 (by decide +kernel) (by decide +kernel)
theorem mw_506 : (Jvm.Cond.methodLink "TemperNurses" (141 : Nat) ({ cls := "TemperNurses$Course", name := "ring", desc := "(I)I" } : Jvm.MethodName)) ∈ jv_T := jv_in 506 (by decide +kernel) (by decide +kernel)
theorem mw_507 : (Jvm.Cond.instanceMethod ({ cls := "TemperNurses$Course", name := "ring", desc := "(I)I" } : Jvm.MethodName)) ∈ jv_T := jv_in 507 (by decide +kernel) (by decide +kernel)
theorem mw_508 : (Jvm.Cond.selects "TemperNurses$Course" ({ cls := "TemperNurses$Course", name := "ring", desc := "(I)I" } : Jvm.MethodName) ({ cls := "TemperNurses$Course", name := "ring", desc := "(I)I" } : Jvm.MethodName)) ∈ jv_T := jv_in 508 (by decide +kernel) (by decide +kernel)
theorem mw_509 : (Jvm.Cond.code ({ cls := "TemperNurses$Course", name := "ring", desc := "(I)I" } : Jvm.MethodName) prog_3_method_14_code (4 : Nat) (Option.some Jvm.ClassFile.FieldType.int)) ∈ jv_T := jv_in 509 (by decide +kernel) (by decide +kernel)
theorem mw_510 : (Jvm.Cond.methodLink "TemperNurses$Course" (51 : Nat) ({ cls := "TemperNurses$Course", name := "owner", desc := "(I)I" } : Jvm.MethodName)) ∈ jv_T := jv_in 510 (by decide +kernel) (by decide +kernel)
theorem mw_512 : (Jvm.Cond.instanceMethod ({ cls := "TemperNurses", name := "nurse", desc := "(II)I" } : Jvm.MethodName)) ∈ jv_T := jv_in 512 (by decide +kernel) (by decide +kernel)
theorem mw_513 : (Jvm.Cond.selects "TemperNurses" ({ cls := "TemperNurses", name := "nurse", desc := "(II)I" } : Jvm.MethodName) ({ cls := "TemperNurses", name := "nurse", desc := "(II)I" } : Jvm.MethodName)) ∈ jv_T := jv_in 513 (by decide +kernel) (by decide +kernel)
theorem mw_514 : (Jvm.Cond.code ({ cls := "TemperNurses", name := "nurse", desc := "(II)I" } : Jvm.MethodName) prog_1_method_6_code (3 : Nat) (Option.some Jvm.ClassFile.FieldType.int)) ∈ jv_T := jv_in 514 (by decide +kernel) (by decide +kernel)
theorem mw_515 : (Jvm.Cond.methodLink "TemperNurses" (144 : Nat) ({ cls := "TemperNurses$Hill", name := "hasNurse", desc := "(I)Z" } : Jvm.MethodName)) ∈ jv_T := jv_in 515 (by decide +kernel) (by decide +kernel)
theorem mw_516 : (Jvm.Cond.instanceMethod ({ cls := "TemperNurses$Hill", name := "hasNurse", desc := "(I)Z" } : Jvm.MethodName)) ∈ jv_T := jv_in 516 (by decide +kernel) (by decide +kernel)
theorem mw_517 : (Jvm.Cond.selects "TemperNurses$Hill" ({ cls := "TemperNurses$Hill", name := "hasNurse", desc := "(I)Z" } : Jvm.MethodName) ({ cls := "TemperNurses$Hill", name := "hasNurse", desc := "(I)Z" } : Jvm.MethodName)) ∈ jv_T := jv_in 517 (by decide +kernel) (by decide +kernel)
theorem mw_518 : (Jvm.Cond.code ({ cls := "TemperNurses$Hill", name := "hasNurse", desc := "(I)Z" } : Jvm.MethodName) prog_4_method_3_code (2 : Nat) (Option.some Jvm.ClassFile.FieldType.boolean)) ∈ jv_T := jv_in 518 (by decide +kernel) (by decide +kernel)
theorem mw_519 : (Jvm.Cond.methodLink "TemperNurses" (156 : Nat) ({ cls := "TemperNurses$House", name := "thoseWith", desc := "(I)I" } : Jvm.MethodName)) ∈ jv_T := jv_in 519 (by decide +kernel) (by decide +kernel)
theorem mw_520 : (Jvm.Cond.instanceMethod ({ cls := "TemperNurses$House", name := "thoseWith", desc := "(I)I" } : Jvm.MethodName)) ∈ jv_T := jv_in 520 (by decide +kernel) (by decide +kernel)
theorem mw_521 : (Jvm.Cond.selects "TemperNurses$House" ({ cls := "TemperNurses$House", name := "thoseWith", desc := "(I)I" } : Jvm.MethodName) ({ cls := "TemperNurses$House", name := "thoseWith", desc := "(I)I" } : Jvm.MethodName)) ∈ jv_T := jv_in 521 (by decide +kernel) (by decide +kernel)
theorem mw_522 : (Jvm.Cond.code ({ cls := "TemperNurses$House", name := "thoseWith", desc := "(I)I" } : Jvm.MethodName) prog_5_method_4_code (4 : Nat) (Option.some Jvm.ClassFile.FieldType.int)) ∈ jv_T := jv_in 522 (by decide +kernel) (by decide +kernel)
theorem mw_523 : (Jvm.Cond.methodLink "TemperNurses$House" (34 : Nat) ({ cls := "TemperNurses$Course", name := "place", desc := "(I)I" } : Jvm.MethodName)) ∈ jv_T := jv_in 523 (by decide +kernel) (by decide +kernel)
theorem mw_525 : (Jvm.Cond.methodLink "TemperNurses" (159 : Nat) ({ cls := "TemperNurses$House", name := "thoseThatMayBeSentTo", desc := "(I)I" } : Jvm.MethodName)) ∈ jv_T := jv_in 525 (by decide +kernel) (by decide +kernel)
theorem mw_526 : (Jvm.Cond.instanceMethod ({ cls := "TemperNurses$House", name := "thoseThatMayBeSentTo", desc := "(I)I" } : Jvm.MethodName)) ∈ jv_T := jv_in 526 (by decide +kernel) (by decide +kernel)
theorem mw_527 : (Jvm.Cond.selects "TemperNurses$House" ({ cls := "TemperNurses$House", name := "thoseThatMayBeSentTo", desc := "(I)I" } : Jvm.MethodName) ({ cls := "TemperNurses$House", name := "thoseThatMayBeSentTo", desc := "(I)I" } : Jvm.MethodName)) ∈ jv_T := jv_in 527 (by decide +kernel) (by decide +kernel)
theorem mw_528 : (Jvm.Cond.code ({ cls := "TemperNurses$House", name := "thoseThatMayBeSentTo", desc := "(I)I" } : Jvm.MethodName) prog_5_method_5_code (4 : Nat) (Option.some Jvm.ClassFile.FieldType.int)) ∈ jv_T := jv_in 528 (by decide +kernel) (by decide +kernel)
theorem mw_529 : (Jvm.Cond.methodLink "TemperNurses$House" (37 : Nat) ({ cls := "TemperNurses$House", name := "mayBeSent", desc := "(II)Z" } : Jvm.MethodName)) ∈ jv_T := jv_in 529 (by decide +kernel) (by decide +kernel)
theorem mw_530 : (Jvm.Cond.instanceMethod ({ cls := "TemperNurses$House", name := "mayBeSent", desc := "(II)Z" } : Jvm.MethodName)) ∈ jv_T := jv_in 530 (by decide +kernel) (by decide +kernel)
theorem mw_531 : (Jvm.Cond.selects "TemperNurses$House" ({ cls := "TemperNurses$House", name := "mayBeSent", desc := "(II)Z" } : Jvm.MethodName) ({ cls := "TemperNurses$House", name := "mayBeSent", desc := "(II)Z" } : Jvm.MethodName)) ∈ jv_T := jv_in 531 (by decide +kernel) (by decide +kernel)
theorem mw_532 : (Jvm.Cond.code ({ cls := "TemperNurses$House", name := "mayBeSent", desc := "(II)Z" } : Jvm.MethodName) prog_5_method_6_code (3 : Nat) (Option.some Jvm.ClassFile.FieldType.boolean)) ∈ jv_T := jv_in 532 (by decide +kernel) (by decide +kernel)
theorem mw_533 : (Jvm.Cond.methodLink "TemperNurses$House" (41 : Nat) ({ cls := "TemperNurses$House", name := "thoseWith", desc := "(I)I" } : Jvm.MethodName)) ∈ jv_T := jv_in 533 (by decide +kernel) (by decide +kernel)
theorem mw_534 : (Jvm.Cond.methodLink "TemperNurses$House" (44 : Nat) ({ cls := "TemperNurses$House", name := "mayJoin", desc := "(III)Z" } : Jvm.MethodName)) ∈ jv_T := jv_in 534 (by decide +kernel) (by decide +kernel)
theorem mw_535 : (Jvm.Cond.instanceMethod ({ cls := "TemperNurses$House", name := "mayJoin", desc := "(III)Z" } : Jvm.MethodName)) ∈ jv_T := jv_in 535 (by decide +kernel) (by decide +kernel)
theorem mw_536 : (Jvm.Cond.selects "TemperNurses$House" ({ cls := "TemperNurses$House", name := "mayJoin", desc := "(III)Z" } : Jvm.MethodName) ({ cls := "TemperNurses$House", name := "mayJoin", desc := "(III)Z" } : Jvm.MethodName)) ∈ jv_T := jv_in 536 (by decide +kernel) (by decide +kernel)
theorem mw_537 : (Jvm.Cond.code ({ cls := "TemperNurses$House", name := "mayJoin", desc := "(III)Z" } : Jvm.MethodName) prog_5_method_7_code (4 : Nat) (Option.some Jvm.ClassFile.FieldType.boolean)) ∈ jv_T := jv_in 537 (by decide +kernel) (by decide +kernel)
theorem mw_538 : (Jvm.Cond.methodLink "TemperNurses$House" (48 : Nat) ({ cls := "TemperNurses$Hill", name := "hasTemper", desc := "(I)Z" } : Jvm.MethodName)) ∈ jv_T := jv_in 538 (by decide +kernel) (by decide +kernel)
theorem mw_539 : (Jvm.Cond.methodLink "TemperNurses$House" (52 : Nat) ({ cls := "TemperNurses$Hill", name := "hasNurse", desc := "(I)Z" } : Jvm.MethodName)) ∈ jv_T := jv_in 539 (by decide +kernel) (by decide +kernel)
theorem mw_540 : (Jvm.Cond.methodLink "TemperNurses$House" (25 : Nat) ({ cls := "TemperNurses$Course", name := "heat", desc := "(I)I" } : Jvm.MethodName)) ∈ jv_T := jv_in 540 (by decide +kernel) (by decide +kernel)
theorem mw_541 : (Jvm.Cond.methodLink "TemperNurses$House" (59 : Nat) ({ cls := "java/lang/Integer", name := "bitCount", desc := "(I)I" } : Jvm.MethodName)) ∈ jv_T := jv_in 541 (by decide +kernel) (by decide +kernel)
theorem mw_542 : (Jvm.Cond.static ({ cls := "java/lang/Integer", name := "bitCount", desc := "(I)I" } : Jvm.MethodName)) ∈ jv_T := jv_in 542 (by decide +kernel) (by decide +kernel)
theorem mw_543 : (Jvm.Cond.code ({ cls := "java/lang/Integer", name := "bitCount", desc := "(I)I" } : Jvm.MethodName) prog_12_method_49_code (1 : Nat) (Option.some Jvm.ClassFile.FieldType.int)) ∈ jv_T := jv_in 543 (by decide +kernel) (by decide +kernel)
theorem mw_544 : (Jvm.Cond.constant "java/lang/Integer" (265 : Nat) (1431655765 : Int32)) ∈ jv_T := jv_in 544 (by decide +kernel) (by decide +kernel)
theorem mw_545 : (Jvm.Cond.constant "java/lang/Integer" (266 : Nat) (858993459 : Int32)) ∈ jv_T := jv_in 545 (by decide +kernel) (by decide +kernel)
theorem mw_546 : (Jvm.Cond.constant "java/lang/Integer" (267 : Nat) (252645135 : Int32)) ∈ jv_T := jv_in 546 (by decide +kernel) (by decide +kernel)
theorem mw_548 : (Jvm.Cond.instanceMethod ({ cls := "TemperNurses", name := "sends", desc := "(II)I" } : Jvm.MethodName)) ∈ jv_T := jv_in 548 (by decide +kernel) (by decide +kernel)
theorem mw_549 : (Jvm.Cond.selects "TemperNurses" ({ cls := "TemperNurses", name := "sends", desc := "(II)I" } : Jvm.MethodName) ({ cls := "TemperNurses", name := "sends", desc := "(II)I" } : Jvm.MethodName)) ∈ jv_T := jv_in 549 (by decide +kernel) (by decide +kernel)
theorem mw_550 : (Jvm.Cond.code ({ cls := "TemperNurses", name := "sends", desc := "(II)I" } : Jvm.MethodName) prog_1_method_7_code (3 : Nat) (Option.some Jvm.ClassFile.FieldType.int)) ∈ jv_T := jv_in 550 (by decide +kernel) (by decide +kernel)
theorem mw_551 : (Jvm.Cond.methodLink "TemperNurses" (162 : Nat) ({ cls := "TemperNurses$House", name := "mayBeSent", desc := "(II)Z" } : Jvm.MethodName)) ∈ jv_T := jv_in 551 (by decide +kernel) (by decide +kernel)
theorem mw_552 : (Jvm.Cond.methodLink "TemperNurses" (166 : Nat) ({ cls := "TemperNurses$Course", name := "remember", desc := "()V" } : Jvm.MethodName)) ∈ jv_T := jv_in 552 (by decide +kernel) (by decide +kernel)
theorem mw_553 : (Jvm.Cond.instanceMethod ({ cls := "TemperNurses$Course", name := "remember", desc := "()V" } : Jvm.MethodName)) ∈ jv_T := jv_in 553 (by decide +kernel) (by decide +kernel)
theorem mw_554 : (Jvm.Cond.selects "TemperNurses$Course" ({ cls := "TemperNurses$Course", name := "remember", desc := "()V" } : Jvm.MethodName) ({ cls := "TemperNurses$Course", name := "remember", desc := "()V" } : Jvm.MethodName)) ∈ jv_T := jv_in 554 (by decide +kernel) (by decide +kernel)
theorem mw_555 : (Jvm.Cond.code ({ cls := "TemperNurses$Course", name := "remember", desc := "()V" } : Jvm.MethodName) prog_3_method_4_code (1 : Nat) (Option.none : Option Jvm.ClassFile.FieldType)) ∈ jv_T := jv_in 555 (by decide +kernel) (by decide +kernel)
theorem mw_556 : (Jvm.Cond.methodLink "TemperNurses$Course" (38 : Nat) ({ cls := "java/lang/System", name := "arraycopy", desc := "(Ljava/lang/Object;ILjava/lang/Object;II)V" } : Jvm.MethodName)) ∈ jv_T := jv_in 556 (by decide +kernel) (by decide +kernel)
theorem mw_557 : (Jvm.Cond.methodLink "TemperNurses" (169 : Nat) ({ cls := "TemperNurses$Course", name := "setPlace", desc := "(II)V" } : Jvm.MethodName)) ∈ jv_T := jv_in 557 (by decide +kernel) (by decide +kernel)
theorem mw_558 : (Jvm.Cond.methodLink "TemperNurses" (173 : Nat) ({ cls := "java/lang/Integer", name := "bitCount", desc := "(I)I" } : Jvm.MethodName)) ∈ jv_T := jv_in 558 (by decide +kernel) (by decide +kernel)
theorem mw_560 : (Jvm.Cond.instanceMethod ({ cls := "TemperNurses", name := "fetches", desc := "(I)I" } : Jvm.MethodName)) ∈ jv_T := jv_in 560 (by decide +kernel) (by decide +kernel)
theorem mw_561 : (Jvm.Cond.selects "TemperNurses" ({ cls := "TemperNurses", name := "fetches", desc := "(I)I" } : Jvm.MethodName) ({ cls := "TemperNurses", name := "fetches", desc := "(I)I" } : Jvm.MethodName)) ∈ jv_T := jv_in 561 (by decide +kernel) (by decide +kernel)
theorem mw_562 : (Jvm.Cond.code ({ cls := "TemperNurses", name := "fetches", desc := "(I)I" } : Jvm.MethodName) prog_1_method_8_code (3 : Nat) (Option.some Jvm.ClassFile.FieldType.int)) ∈ jv_T := jv_in 562 (by decide +kernel) (by decide +kernel)
theorem mw_564 : (Jvm.Cond.instanceMethod ({ cls := "TemperNurses", name := "visits", desc := "(I)I" } : Jvm.MethodName)) ∈ jv_T := jv_in 564 (by decide +kernel) (by decide +kernel)
theorem mw_565 : (Jvm.Cond.selects "TemperNurses" ({ cls := "TemperNurses", name := "visits", desc := "(I)I" } : Jvm.MethodName) ({ cls := "TemperNurses", name := "visits", desc := "(I)I" } : Jvm.MethodName)) ∈ jv_T := jv_in 565 (by decide +kernel) (by decide +kernel)
theorem mw_566 : (Jvm.Cond.code ({ cls := "TemperNurses", name := "visits", desc := "(I)I" } : Jvm.MethodName) prog_1_method_9_code (3 : Nat) (Option.some Jvm.ClassFile.FieldType.int)) ∈ jv_T := jv_in 566 (by decide +kernel) (by decide +kernel)
theorem mw_567 : (Jvm.Cond.methodLink "TemperNurses" (178 : Nat) ({ cls := "TemperNurses$Course", name := "setHeat", desc := "(II)V" } : Jvm.MethodName)) ∈ jv_T := jv_in 567 (by decide +kernel) (by decide +kernel)
theorem mw_569 : (Jvm.Cond.instanceMethod ({ cls := "TemperNurses", name := "mixes", desc := "(II)I" } : Jvm.MethodName)) ∈ jv_T := jv_in 569 (by decide +kernel) (by decide +kernel)
theorem mw_570 : (Jvm.Cond.selects "TemperNurses" ({ cls := "TemperNurses", name := "mixes", desc := "(II)I" } : Jvm.MethodName) ({ cls := "TemperNurses", name := "mixes", desc := "(II)I" } : Jvm.MethodName)) ∈ jv_T := jv_in 570 (by decide +kernel) (by decide +kernel)
theorem mw_571 : (Jvm.Cond.code ({ cls := "TemperNurses", name := "mixes", desc := "(II)I" } : Jvm.MethodName) prog_1_method_10_code (4 : Nat) (Option.some Jvm.ClassFile.FieldType.int)) ∈ jv_T := jv_in 571 (by decide +kernel) (by decide +kernel)
theorem mw_572 : (Jvm.Cond.methodLink "TemperNurses" (181 : Nat) ({ cls := "TemperNurses$Course", name := "setOwner", desc := "(II)V" } : Jvm.MethodName)) ∈ jv_T := jv_in 572 (by decide +kernel) (by decide +kernel)
theorem mw_573 : (Jvm.Cond.methodLink "TemperNurses" (187 : Nat) ({ cls := "TemperNurses$Course", name := "mixesToRight", desc := "(I)I" } : Jvm.MethodName)) ∈ jv_T := jv_in 573 (by decide +kernel) (by decide +kernel)
theorem mw_574 : (Jvm.Cond.instanceMethod ({ cls := "TemperNurses$Course", name := "mixesToRight", desc := "(I)I" } : Jvm.MethodName)) ∈ jv_T := jv_in 574 (by decide +kernel) (by decide +kernel)
theorem mw_575 : (Jvm.Cond.selects "TemperNurses$Course" ({ cls := "TemperNurses$Course", name := "mixesToRight", desc := "(I)I" } : Jvm.MethodName) ({ cls := "TemperNurses$Course", name := "mixesToRight", desc := "(I)I" } : Jvm.MethodName)) ∈ jv_T := jv_in 575 (by decide +kernel) (by decide +kernel)
theorem mw_576 : (Jvm.Cond.code ({ cls := "TemperNurses$Course", name := "mixesToRight", desc := "(I)I" } : Jvm.MethodName) prog_3_method_15_code (4 : Nat) (Option.some Jvm.ClassFile.FieldType.int)) ∈ jv_T := jv_in 576 (by decide +kernel) (by decide +kernel)
theorem mw_577 : (Jvm.Cond.methodLink "TemperNurses$Course" (54 : Nat) ({ cls := "TemperNurses$Course", name := "isLowestOfRing", desc := "(I)Z" } : Jvm.MethodName)) ∈ jv_T := jv_in 577 (by decide +kernel) (by decide +kernel)
theorem mw_579 : (Jvm.Cond.instanceMethod ({ cls := "TemperNurses$Course", name := "isLowestOfRing", desc := "(I)Z" } : Jvm.MethodName)) ∈ jv_T := jv_in 579 (by decide +kernel) (by decide +kernel)
theorem mw_580 : (Jvm.Cond.code ({ cls := "TemperNurses$Course", name := "isLowestOfRing", desc := "(I)Z" } : Jvm.MethodName) prog_3_method_16_code (4 : Nat) (Option.some Jvm.ClassFile.FieldType.boolean)) ∈ jv_T := jv_in 580 (by decide +kernel) (by decide +kernel)
theorem mw_582 : (Jvm.Cond.instanceMethod ({ cls := "TemperNurses", name := "years", desc := "(I)I" } : Jvm.MethodName)) ∈ jv_T := jv_in 582 (by decide +kernel) (by decide +kernel)
theorem mw_583 : (Jvm.Cond.selects "TemperNurses" ({ cls := "TemperNurses", name := "years", desc := "(I)I" } : Jvm.MethodName) ({ cls := "TemperNurses", name := "years", desc := "(I)I" } : Jvm.MethodName)) ∈ jv_T := jv_in 583 (by decide +kernel) (by decide +kernel)
theorem mw_584 : (Jvm.Cond.code ({ cls := "TemperNurses", name := "years", desc := "(I)I" } : Jvm.MethodName) prog_1_method_11_code (3 : Nat) (Option.some Jvm.ClassFile.FieldType.int)) ∈ jv_T := jv_in 584 (by decide +kernel) (by decide +kernel)
theorem mw_585 : (Jvm.Cond.methodLink "TemperNurses" (190 : Nat) ({ cls := "TemperNurses$Course", name := "year", desc := "()I" } : Jvm.MethodName)) ∈ jv_T := jv_in 585 (by decide +kernel) (by decide +kernel)
theorem mw_586 : (Jvm.Cond.instanceMethod ({ cls := "TemperNurses$Course", name := "year", desc := "()I" } : Jvm.MethodName)) ∈ jv_T := jv_in 586 (by decide +kernel) (by decide +kernel)
theorem mw_587 : (Jvm.Cond.selects "TemperNurses$Course" ({ cls := "TemperNurses$Course", name := "year", desc := "()I" } : Jvm.MethodName) ({ cls := "TemperNurses$Course", name := "year", desc := "()I" } : Jvm.MethodName)) ∈ jv_T := jv_in 587 (by decide +kernel) (by decide +kernel)
theorem mw_588 : (Jvm.Cond.code ({ cls := "TemperNurses$Course", name := "year", desc := "()I" } : Jvm.MethodName) prog_3_method_6_code (1 : Nat) (Option.some Jvm.ClassFile.FieldType.int)) ∈ jv_T := jv_in 588 (by decide +kernel) (by decide +kernel)
theorem mw_589 : (Jvm.Cond.methodLink "TemperNurses" (193 : Nat) ({ cls := "TemperNurses$House", name := "heatIn", desc := "(II)I" } : Jvm.MethodName)) ∈ jv_T := jv_in 589 (by decide +kernel) (by decide +kernel)
theorem mw_590 : (Jvm.Cond.instanceMethod ({ cls := "TemperNurses$House", name := "heatIn", desc := "(II)I" } : Jvm.MethodName)) ∈ jv_T := jv_in 590 (by decide +kernel) (by decide +kernel)
theorem mw_591 : (Jvm.Cond.selects "TemperNurses$House" ({ cls := "TemperNurses$House", name := "heatIn", desc := "(II)I" } : Jvm.MethodName) ({ cls := "TemperNurses$House", name := "heatIn", desc := "(II)I" } : Jvm.MethodName)) ∈ jv_T := jv_in 591 (by decide +kernel) (by decide +kernel)
theorem mw_592 : (Jvm.Cond.code ({ cls := "TemperNurses$House", name := "heatIn", desc := "(II)I" } : Jvm.MethodName) prog_5_method_8_code (7 : Nat) (Option.some Jvm.ClassFile.FieldType.int)) ∈ jv_T := jv_in 592 (by decide +kernel) (by decide +kernel)
theorem mw_593 : (Jvm.Cond.methodLink "TemperNurses$House" (76 : Nat) ({ cls := "TemperNurses$House", name := "heatNextYear", desc := "(III)I" } : Jvm.MethodName)) ∈ jv_T := jv_in 593 (by decide +kernel) (by decide +kernel)
theorem mw_594 : (Jvm.Cond.static ({ cls := "TemperNurses$House", name := "heatNextYear", desc := "(III)I" } : Jvm.MethodName)) ∈ jv_T := jv_in 594 (by decide +kernel) (by decide +kernel)
theorem mw_595 : (Jvm.Cond.code ({ cls := "TemperNurses$House", name := "heatNextYear", desc := "(III)I" } : Jvm.MethodName) prog_5_method_11_code (3 : Nat) (Option.some Jvm.ClassFile.FieldType.int)) ∈ jv_T := jv_in 595 (by decide +kernel) (by decide +kernel)
theorem mw_596 : (Jvm.Cond.methodLink "TemperNurses$House" (96 : Nat) ({ cls := "java/lang/Math", name := "min", desc := "(II)I" } : Jvm.MethodName)) ∈ jv_T := jv_in 596 (by decide +kernel) (by decide +kernel)
theorem mw_597 : (Jvm.Cond.static ({ cls := "java/lang/Math", name := "min", desc := "(II)I" } : Jvm.MethodName)) ∈ jv_T := jv_in 597 (by decide +kernel) (by decide +kernel)
theorem mw_598 : (Jvm.Cond.code ({ cls := "java/lang/Math", name := "min", desc := "(II)I" } : Jvm.MethodName) prog_13_method_69_code (2 : Nat) (Option.some Jvm.ClassFile.FieldType.int)) ∈ jv_T := jv_in 598 (by decide +kernel) (by decide +kernel)
theorem mw_599 : (Jvm.Cond.methodLink "TemperNurses$House" (84 : Nat) ({ cls := "java/lang/Math", name := "max", desc := "(II)I" } : Jvm.MethodName)) ∈ jv_T := jv_in 599 (by decide +kernel) (by decide +kernel)
theorem mw_600 : (Jvm.Cond.static ({ cls := "java/lang/Math", name := "max", desc := "(II)I" } : Jvm.MethodName)) ∈ jv_T := jv_in 600 (by decide +kernel) (by decide +kernel)
theorem mw_601 : (Jvm.Cond.code ({ cls := "java/lang/Math", name := "max", desc := "(II)I" } : Jvm.MethodName) prog_13_method_65_code (2 : Nat) (Option.some Jvm.ClassFile.FieldType.int)) ∈ jv_T := jv_in 601 (by decide +kernel) (by decide +kernel)
theorem mw_602 : (Jvm.Cond.methodLink "TemperNurses" (197 : Nat) ({ cls := "TemperNurses$Course", name := "setYear", desc := "(I)V" } : Jvm.MethodName)) ∈ jv_T := jv_in 602 (by decide +kernel) (by decide +kernel)
theorem mw_603 : (Jvm.Cond.methodLink "TemperNurses" (201 : Nat) ({ cls := "TemperNurses$House", name := "broken", desc := "()I" } : Jvm.MethodName)) ∈ jv_T := jv_in 603 (by decide +kernel) (by decide +kernel)
theorem mw_604 : (Jvm.Cond.instanceMethod ({ cls := "TemperNurses$House", name := "broken", desc := "()I" } : Jvm.MethodName)) ∈ jv_T := jv_in 604 (by decide +kernel) (by decide +kernel)
theorem mw_605 : (Jvm.Cond.selects "TemperNurses$House" ({ cls := "TemperNurses$House", name := "broken", desc := "()I" } : Jvm.MethodName) ({ cls := "TemperNurses$House", name := "broken", desc := "()I" } : Jvm.MethodName)) ∈ jv_T := jv_in 605 (by decide +kernel) (by decide +kernel)
theorem mw_606 : (Jvm.Cond.code ({ cls := "TemperNurses$House", name := "broken", desc := "()I" } : Jvm.MethodName) prog_5_method_2_code (3 : Nat) (Option.some Jvm.ClassFile.FieldType.int)) ∈ jv_T := jv_in 606 (by decide +kernel) (by decide +kernel)
theorem mw_608 : (Jvm.Cond.instanceMethod ({ cls := "TemperNurses", name := "undo", desc := "()I" } : Jvm.MethodName)) ∈ jv_T := jv_in 608 (by decide +kernel) (by decide +kernel)
theorem mw_609 : (Jvm.Cond.selects "TemperNurses" ({ cls := "TemperNurses", name := "undo", desc := "()I" } : Jvm.MethodName) ({ cls := "TemperNurses", name := "undo", desc := "()I" } : Jvm.MethodName)) ∈ jv_T := jv_in 609 (by decide +kernel) (by decide +kernel)
theorem mw_610 : (Jvm.Cond.code ({ cls := "TemperNurses", name := "undo", desc := "()I" } : Jvm.MethodName) prog_1_method_12_code (1 : Nat) (Option.some Jvm.ClassFile.FieldType.int)) ∈ jv_T := jv_in 610 (by decide +kernel) (by decide +kernel)
theorem mw_611 : (Jvm.Cond.methodLink "TemperNurses" (204 : Nat) ({ cls := "TemperNurses$Course", name := "stepBack", desc := "()Z" } : Jvm.MethodName)) ∈ jv_T := jv_in 611 (by decide +kernel) (by decide +kernel)
theorem mw_612 : (Jvm.Cond.instanceMethod ({ cls := "TemperNurses$Course", name := "stepBack", desc := "()Z" } : Jvm.MethodName)) ∈ jv_T := jv_in 612 (by decide +kernel) (by decide +kernel)
theorem mw_613 : (Jvm.Cond.selects "TemperNurses$Course" ({ cls := "TemperNurses$Course", name := "stepBack", desc := "()Z" } : Jvm.MethodName) ({ cls := "TemperNurses$Course", name := "stepBack", desc := "()Z" } : Jvm.MethodName)) ∈ jv_T := jv_in 613 (by decide +kernel) (by decide +kernel)
theorem mw_614 : (Jvm.Cond.code ({ cls := "TemperNurses$Course", name := "stepBack", desc := "()Z" } : Jvm.MethodName) prog_3_method_5_code (1 : Nat) (Option.some Jvm.ClassFile.FieldType.boolean)) ∈ jv_T := jv_in 614 (by decide +kernel) (by decide +kernel)
theorem mw_616 : (Jvm.Cond.instanceMethod ({ cls := "TemperNurses", name := "now", desc := "(I)I" } : Jvm.MethodName)) ∈ jv_T := jv_in 616 (by decide +kernel) (by decide +kernel)
theorem mw_617 : (Jvm.Cond.selects "TemperNurses" ({ cls := "TemperNurses", name := "now", desc := "(I)I" } : Jvm.MethodName) ({ cls := "TemperNurses", name := "now", desc := "(I)I" } : Jvm.MethodName)) ∈ jv_T := jv_in 617 (by decide +kernel) (by decide +kernel)
theorem mw_618 : (Jvm.Cond.code ({ cls := "TemperNurses", name := "now", desc := "(I)I" } : Jvm.MethodName) prog_1_method_13_code (2 : Nat) (Option.some Jvm.ClassFile.FieldType.int)) ∈ jv_T := jv_in 618 (by decide +kernel) (by decide +kernel)
theorem mw_619 : (Jvm.Cond.methodLink "TemperNurses" (211 : Nat) ({ cls := "TemperNurses$Planner", name := "soonest", desc := "()I" } : Jvm.MethodName)) ∈ jv_T := jv_in 619 (by decide +kernel) (by decide +kernel)
theorem mw_620 : (Jvm.Cond.instanceMethod ({ cls := "TemperNurses$Planner", name := "soonest", desc := "()I" } : Jvm.MethodName)) ∈ jv_T := jv_in 620 (by decide +kernel) (by decide +kernel)
theorem mw_621 : (Jvm.Cond.selects "TemperNurses$Planner" ({ cls := "TemperNurses$Planner", name := "soonest", desc := "()I" } : Jvm.MethodName) ({ cls := "TemperNurses$Planner", name := "soonest", desc := "()I" } : Jvm.MethodName)) ∈ jv_T := jv_in 621 (by decide +kernel) (by decide +kernel)
theorem mw_622 : (Jvm.Cond.code ({ cls := "TemperNurses$Planner", name := "soonest", desc := "()I" } : Jvm.MethodName) prog_8_method_3_code (3 : Nat) (Option.some Jvm.ClassFile.FieldType.int)) ∈ jv_T := jv_in 622 (by decide +kernel) (by decide +kernel)
theorem mw_623 : (Jvm.Cond.methodLink "TemperNurses$Planner" (56 : Nat) ({ cls := "TemperNurses$House", name := "yearsTillBroken", desc := "(II)I" } : Jvm.MethodName)) ∈ jv_T := jv_in 623 (by decide +kernel) (by decide +kernel)
theorem mw_624 : (Jvm.Cond.instanceMethod ({ cls := "TemperNurses$House", name := "yearsTillBroken", desc := "(II)I" } : Jvm.MethodName)) ∈ jv_T := jv_in 624 (by decide +kernel) (by decide +kernel)
theorem mw_625 : (Jvm.Cond.selects "TemperNurses$House" ({ cls := "TemperNurses$House", name := "yearsTillBroken", desc := "(II)I" } : Jvm.MethodName) ({ cls := "TemperNurses$House", name := "yearsTillBroken", desc := "(II)I" } : Jvm.MethodName)) ∈ jv_T := jv_in 625 (by decide +kernel) (by decide +kernel)
theorem mw_626 : (Jvm.Cond.code ({ cls := "TemperNurses$House", name := "yearsTillBroken", desc := "(II)I" } : Jvm.MethodName) prog_5_method_9_code (5 : Nat) (Option.some Jvm.ClassFile.FieldType.int)) ∈ jv_T := jv_in 626 (by decide +kernel) (by decide +kernel)
theorem mw_627 : (Jvm.Cond.methodLink "TemperNurses$Planner" (32 : Nat) ({ cls := "java/util/Arrays", name := "fill", desc := "([II)V" } : Jvm.MethodName)) ∈ jv_T := jv_in 627 (by decide +kernel) (by decide +kernel)
theorem mw_628 : (Jvm.Cond.methodLink "TemperNurses$Planner" (63 : Nat) ({ cls := "TemperNurses$Planner", name := "tryYears", desc := "(II)V" } : Jvm.MethodName)) ∈ jv_T := jv_in 628 (by decide +kernel) (by decide +kernel)
theorem mw_630 : (Jvm.Cond.instanceMethod ({ cls := "TemperNurses$Planner", name := "tryYears", desc := "(II)V" } : Jvm.MethodName)) ∈ jv_T := jv_in 630 (by decide +kernel) (by decide +kernel)
theorem mw_631 : (Jvm.Cond.code ({ cls := "TemperNurses$Planner", name := "tryYears", desc := "(II)V" } : Jvm.MethodName) prog_8_method_5_code (6 : Nat) (Option.none : Option Jvm.ClassFile.FieldType)) ∈ jv_T := jv_in 631 (by decide +kernel) (by decide +kernel)
theorem mw_632 : (Jvm.Cond.methodLink "TemperNurses$Planner" (84 : Nat) ({ cls := "TemperNurses$Course", name := "heat", desc := "(I)I" } : Jvm.MethodName)) ∈ jv_T := jv_in 632 (by decide +kernel) (by decide +kernel)
theorem mw_633 : (Jvm.Cond.methodLink "TemperNurses$Planner" (72 : Nat) ({ cls := "TemperNurses$House", name := "mayJoin", desc := "(III)Z" } : Jvm.MethodName)) ∈ jv_T := jv_in 633 (by decide +kernel) (by decide +kernel)
theorem mw_635 : (Jvm.Cond.methodLink "TemperNurses$Planner" (89 : Nat) ({ cls := "java/lang/Math", name := "max", desc := "(II)I" } : Jvm.MethodName)) ∈ jv_T := jv_in 635 (by decide +kernel) (by decide +kernel)
theorem mw_636 : (Jvm.Cond.methodLink "TemperNurses" (214 : Nat) ({ cls := "TemperNurses$House", name := "heatOfAll", desc := "()I" } : Jvm.MethodName)) ∈ jv_T := jv_in 636 (by decide +kernel) (by decide +kernel)
theorem mw_637 : (Jvm.Cond.instanceMethod ({ cls := "TemperNurses$House", name := "heatOfAll", desc := "()I" } : Jvm.MethodName)) ∈ jv_T := jv_in 637 (by decide +kernel) (by decide +kernel)
theorem mw_638 : (Jvm.Cond.selects "TemperNurses$House" ({ cls := "TemperNurses$House", name := "heatOfAll", desc := "()I" } : Jvm.MethodName) ({ cls := "TemperNurses$House", name := "heatOfAll", desc := "()I" } : Jvm.MethodName)) ∈ jv_T := jv_in 638 (by decide +kernel) (by decide +kernel)
theorem mw_639 : (Jvm.Cond.code ({ cls := "TemperNurses$House", name := "heatOfAll", desc := "()I" } : Jvm.MethodName) prog_5_method_3_code (3 : Nat) (Option.some Jvm.ClassFile.FieldType.int)) ∈ jv_T := jv_in 639 (by decide +kernel) (by decide +kernel)
theorem mw_641 : (Jvm.Cond.instanceMethod ({ cls := "TemperNurses", name := "when", desc := "(II)I" } : Jvm.MethodName)) ∈ jv_T := jv_in 641 (by decide +kernel) (by decide +kernel)
theorem mw_642 : (Jvm.Cond.selects "TemperNurses" ({ cls := "TemperNurses", name := "when", desc := "(II)I" } : Jvm.MethodName) ({ cls := "TemperNurses", name := "when", desc := "(II)I" } : Jvm.MethodName)) ∈ jv_T := jv_in 642 (by decide +kernel) (by decide +kernel)
theorem mw_643 : (Jvm.Cond.code ({ cls := "TemperNurses", name := "when", desc := "(II)I" } : Jvm.MethodName) prog_1_method_14_code (3 : Nat) (Option.some Jvm.ClassFile.FieldType.int)) ∈ jv_T := jv_in 643 (by decide +kernel) (by decide +kernel)
theorem mw_644 : (Jvm.Cond.methodLink "TemperNurses" (217 : Nat) ({ cls := "TemperNurses$House", name := "yearsTillBroken", desc := "(II)I" } : Jvm.MethodName)) ∈ jv_T := jv_in 644 (by decide +kernel) (by decide +kernel)
theorem mw_646 : (Jvm.Cond.instanceMethod ({ cls := "TemperNurses", name := "hot", desc := "(II)I" } : Jvm.MethodName)) ∈ jv_T := jv_in 646 (by decide +kernel) (by decide +kernel)
theorem mw_647 : (Jvm.Cond.selects "TemperNurses" ({ cls := "TemperNurses", name := "hot", desc := "(II)I" } : Jvm.MethodName) ({ cls := "TemperNurses", name := "hot", desc := "(II)I" } : Jvm.MethodName)) ∈ jv_T := jv_in 647 (by decide +kernel) (by decide +kernel)
theorem mw_648 : (Jvm.Cond.code ({ cls := "TemperNurses", name := "hot", desc := "(II)I" } : Jvm.MethodName) prog_1_method_15_code (3 : Nat) (Option.some Jvm.ClassFile.FieldType.int)) ∈ jv_T := jv_in 648 (by decide +kernel) (by decide +kernel)
theorem mw_650 : (Jvm.Cond.instanceMethod ({ cls := "TemperNurses", name := "plan", desc := "(I)I" } : Jvm.MethodName)) ∈ jv_T := jv_in 650 (by decide +kernel) (by decide +kernel)
theorem mw_651 : (Jvm.Cond.selects "TemperNurses" ({ cls := "TemperNurses", name := "plan", desc := "(I)I" } : Jvm.MethodName) ({ cls := "TemperNurses", name := "plan", desc := "(I)I" } : Jvm.MethodName)) ∈ jv_T := jv_in 651 (by decide +kernel) (by decide +kernel)
theorem mw_652 : (Jvm.Cond.code ({ cls := "TemperNurses", name := "plan", desc := "(I)I" } : Jvm.MethodName) prog_1_method_16_code (2 : Nat) (Option.some Jvm.ClassFile.FieldType.int)) ∈ jv_T := jv_in 652 (by decide +kernel) (by decide +kernel)
theorem mw_653 : (Jvm.Cond.methodLink "TemperNurses" (220 : Nat) ({ cls := "TemperNurses$Planner", name := "findPlan", desc := "()V" } : Jvm.MethodName)) ∈ jv_T := jv_in 653 (by decide +kernel) (by decide +kernel)
theorem mw_654 : (Jvm.Cond.instanceMethod ({ cls := "TemperNurses$Planner", name := "findPlan", desc := "()V" } : Jvm.MethodName)) ∈ jv_T := jv_in 654 (by decide +kernel) (by decide +kernel)
theorem mw_655 : (Jvm.Cond.selects "TemperNurses$Planner" ({ cls := "TemperNurses$Planner", name := "findPlan", desc := "()V" } : Jvm.MethodName) ({ cls := "TemperNurses$Planner", name := "findPlan", desc := "()V" } : Jvm.MethodName)) ∈ jv_T := jv_in 655 (by decide +kernel) (by decide +kernel)
theorem mw_656 : (Jvm.Cond.code ({ cls := "TemperNurses$Planner", name := "findPlan", desc := "()V" } : Jvm.MethodName) prog_8_method_2_code (1 : Nat) (Option.none : Option Jvm.ClassFile.FieldType)) ∈ jv_T := jv_in 656 (by decide +kernel) (by decide +kernel)
theorem mw_657 : (Jvm.Cond.methodLink "TemperNurses$Planner" (38 : Nat) ({ cls := "TemperNurses$Planner", name := "tryPlaces", desc := "(II)V" } : Jvm.MethodName)) ∈ jv_T := jv_in 657 (by decide +kernel) (by decide +kernel)
theorem mw_659 : (Jvm.Cond.instanceMethod ({ cls := "TemperNurses$Planner", name := "tryPlaces", desc := "(II)V" } : Jvm.MethodName)) ∈ jv_T := jv_in 659 (by decide +kernel) (by decide +kernel)
theorem mw_660 : (Jvm.Cond.code ({ cls := "TemperNurses$Planner", name := "tryPlaces", desc := "(II)V" } : Jvm.MethodName) prog_8_method_4_code (5 : Nat) (Option.none : Option Jvm.ClassFile.FieldType)) ∈ jv_T := jv_in 660 (by decide +kernel) (by decide +kernel)
theorem mw_661 : (Jvm.Cond.methodLink "TemperNurses$Planner" (66 : Nat) ({ cls := "java/lang/System", name := "arraycopy", desc := "(Ljava/lang/Object;ILjava/lang/Object;II)V" } : Jvm.MethodName)) ∈ jv_T := jv_in 661 (by decide +kernel) (by decide +kernel)
theorem mw_663 : (Jvm.Cond.instanceMethod ({ cls := "TemperNurses", name := "best", desc := "(II)I" } : Jvm.MethodName)) ∈ jv_T := jv_in 663 (by decide +kernel) (by decide +kernel)
theorem mw_664 : (Jvm.Cond.selects "TemperNurses" ({ cls := "TemperNurses", name := "best", desc := "(II)I" } : Jvm.MethodName) ({ cls := "TemperNurses", name := "best", desc := "(II)I" } : Jvm.MethodName)) ∈ jv_T := jv_in 664 (by decide +kernel) (by decide +kernel)
theorem mw_665 : (Jvm.Cond.code ({ cls := "TemperNurses", name := "best", desc := "(II)I" } : Jvm.MethodName) prog_1_method_17_code (7 : Nat) (Option.some Jvm.ClassFile.FieldType.int)) ∈ jv_T := jv_in 665 (by decide +kernel) (by decide +kernel)
theorem mw_666 : (Jvm.Cond.constant "TemperNurses" (229 : Nat) (-1000000 : Int32)) ∈ jv_T := jv_in 666 (by decide +kernel) (by decide +kernel)
theorem mw_667 : (Jvm.Cond.methodLink "TemperNurses" (230 : Nat) ({ cls := "TemperNurses$House", name := "worthOfFetching", desc := "(II)I" } : Jvm.MethodName)) ∈ jv_T := jv_in 667 (by decide +kernel) (by decide +kernel)
theorem mw_668 : (Jvm.Cond.instanceMethod ({ cls := "TemperNurses$House", name := "worthOfFetching", desc := "(II)I" } : Jvm.MethodName)) ∈ jv_T := jv_in 668 (by decide +kernel) (by decide +kernel)
theorem mw_669 : (Jvm.Cond.selects "TemperNurses$House" ({ cls := "TemperNurses$House", name := "worthOfFetching", desc := "(II)I" } : Jvm.MethodName) ({ cls := "TemperNurses$House", name := "worthOfFetching", desc := "(II)I" } : Jvm.MethodName)) ∈ jv_T := jv_in 669 (by decide +kernel) (by decide +kernel)
theorem mw_670 : (Jvm.Cond.code ({ cls := "TemperNurses$House", name := "worthOfFetching", desc := "(II)I" } : Jvm.MethodName) prog_5_method_10_code (4 : Nat) (Option.some Jvm.ClassFile.FieldType.int)) ∈ jv_T := jv_in 670 (by decide +kernel) (by decide +kernel)
theorem mw_671 : (Jvm.Cond.methodLink "TemperNurses$House" (80 : Nat) ({ cls := "TemperNurses$House", name := "heatIn", desc := "(II)I" } : Jvm.MethodName)) ∈ jv_T := jv_in 671 (by decide +kernel) (by decide +kernel)
theorem mw_672 : (Jvm.Cond.methodLink "TemperNurses$House" (89 : Nat) ({ cls := "TemperNurses$Course", name := "year", desc := "()I" } : Jvm.MethodName)) ∈ jv_T := jv_in 672 (by decide +kernel) (by decide +kernel)
theorem mw_674 : (Jvm.Cond.instanceMethod ({ cls := "TemperNurses", name := "beds", desc := "(II)I" } : Jvm.MethodName)) ∈ jv_T := jv_in 674 (by decide +kernel) (by decide +kernel)
theorem mw_675 : (Jvm.Cond.selects "TemperNurses" ({ cls := "TemperNurses", name := "beds", desc := "(II)I" } : Jvm.MethodName) ({ cls := "TemperNurses", name := "beds", desc := "(II)I" } : Jvm.MethodName)) ∈ jv_T := jv_in 675 (by decide +kernel) (by decide +kernel)
theorem mw_676 : (Jvm.Cond.code ({ cls := "TemperNurses", name := "beds", desc := "(II)I" } : Jvm.MethodName) prog_1_method_18_code (3 : Nat) (Option.some Jvm.ClassFile.FieldType.int)) ∈ jv_T := jv_in 676 (by decide +kernel) (by decide +kernel)
theorem mw_677 : (Jvm.Cond.methodLink "TemperNurses" (233 : Nat) ({ cls := "TemperNurses$BedMaker", name := "makeBeds", desc := "(I)V" } : Jvm.MethodName)) ∈ jv_T := jv_in 677 (by decide +kernel) (by decide +kernel)
theorem mw_678 : (Jvm.Cond.instanceMethod ({ cls := "TemperNurses$BedMaker", name := "makeBeds", desc := "(I)V" } : Jvm.MethodName)) ∈ jv_T := jv_in 678 (by decide +kernel) (by decide +kernel)
theorem mw_679 : (Jvm.Cond.selects "TemperNurses$BedMaker" ({ cls := "TemperNurses$BedMaker", name := "makeBeds", desc := "(I)V" } : Jvm.MethodName) ({ cls := "TemperNurses$BedMaker", name := "makeBeds", desc := "(I)V" } : Jvm.MethodName)) ∈ jv_T := jv_in 679 (by decide +kernel) (by decide +kernel)
theorem mw_680 : (Jvm.Cond.code ({ cls := "TemperNurses$BedMaker", name := "makeBeds", desc := "(I)V" } : Jvm.MethodName) prog_2_method_2_code (2 : Nat) (Option.none : Option Jvm.ClassFile.FieldType)) ∈ jv_T := jv_in 680 (by decide +kernel) (by decide +kernel)
theorem mw_681 : (Jvm.Cond.methodLink "TemperNurses$BedMaker" (29 : Nat) ({ cls := "java/util/Arrays", name := "fill", desc := "([II)V" } : Jvm.MethodName)) ∈ jv_T := jv_in 681 (by decide +kernel) (by decide +kernel)
theorem mw_682 : (Jvm.Cond.methodLink "TemperNurses$BedMaker" (35 : Nat) ({ cls := "TemperNurses$BedMaker", name := "tryOthers", desc := "(II)V" } : Jvm.MethodName)) ∈ jv_T := jv_in 682 (by decide +kernel) (by decide +kernel)
theorem mw_684 : (Jvm.Cond.instanceMethod ({ cls := "TemperNurses$BedMaker", name := "tryOthers", desc := "(II)V" } : Jvm.MethodName)) ∈ jv_T := jv_in 684 (by decide +kernel) (by decide +kernel)
theorem mw_685 : (Jvm.Cond.code ({ cls := "TemperNurses$BedMaker", name := "tryOthers", desc := "(II)V" } : Jvm.MethodName) prog_2_method_3_code (4 : Nat) (Option.none : Option Jvm.ClassFile.FieldType)) ∈ jv_T := jv_in 685 (by decide +kernel) (by decide +kernel)
theorem mw_686 : (Jvm.Cond.methodLink "TemperNurses$BedMaker" (50 : Nat) ({ cls := "java/lang/System", name := "arraycopy", desc := "(Ljava/lang/Object;ILjava/lang/Object;II)V" } : Jvm.MethodName)) ∈ jv_T := jv_in 686 (by decide +kernel) (by decide +kernel)
theorem mw_687 : (Jvm.Cond.methodLink "TemperNurses$BedMaker" (56 : Nat) ({ cls := "TemperNurses$BedMaker", name := "mayShare", desc := "(II)Z" } : Jvm.MethodName)) ∈ jv_T := jv_in 687 (by decide +kernel) (by decide +kernel)
theorem mw_689 : (Jvm.Cond.instanceMethod ({ cls := "TemperNurses$BedMaker", name := "mayShare", desc := "(II)Z" } : Jvm.MethodName)) ∈ jv_T := jv_in 689 (by decide +kernel) (by decide +kernel)
theorem mw_690 : (Jvm.Cond.code ({ cls := "TemperNurses$BedMaker", name := "mayShare", desc := "(II)Z" } : Jvm.MethodName) prog_2_method_4_code (3 : Nat) (Option.some Jvm.ClassFile.FieldType.boolean)) ∈ jv_T := jv_in 690 (by decide +kernel) (by decide +kernel)
theorem mw_692 : (Jvm.Cond.methodLink "TemperNurses$BedMaker" (71 : Nat) ({ cls := "TemperNurses$Course", name := "heat", desc := "(I)I" } : Jvm.MethodName)) ∈ jv_T := jv_in 692 (by decide +kernel) (by decide +kernel)
theorem mw_694 : (Jvm.Cond.instanceMethod ({ cls := "TemperNurses", name := "odds", desc := "(III)I" } : Jvm.MethodName)) ∈ jv_T := jv_in 694 (by decide +kernel) (by decide +kernel)
theorem mw_695 : (Jvm.Cond.selects "TemperNurses" ({ cls := "TemperNurses", name := "odds", desc := "(III)I" } : Jvm.MethodName) ({ cls := "TemperNurses", name := "odds", desc := "(III)I" } : Jvm.MethodName)) ∈ jv_T := jv_in 695 (by decide +kernel) (by decide +kernel)
theorem mw_696 : (Jvm.Cond.code ({ cls := "TemperNurses", name := "odds", desc := "(III)I" } : Jvm.MethodName) prog_1_method_19_code (7 : Nat) (Option.some Jvm.ClassFile.FieldType.int)) ∈ jv_T := jv_in 696 (by decide +kernel) (by decide +kernel)
theorem mw_697 : (Jvm.Cond.methodLink "TemperNurses" (238 : Nat) ({ cls := "TemperNurses", name := "countLooseWays", desc := "(II)I" } : Jvm.MethodName)) ∈ jv_T := jv_in 697 (by decide +kernel) (by decide +kernel)
theorem mw_699 : (Jvm.Cond.instanceMethod ({ cls := "TemperNurses", name := "countLooseWays", desc := "(II)I" } : Jvm.MethodName)) ∈ jv_T := jv_in 699 (by decide +kernel) (by decide +kernel)
theorem mw_700 : (Jvm.Cond.code ({ cls := "TemperNurses", name := "countLooseWays", desc := "(II)I" } : Jvm.MethodName) prog_1_method_32_code (5 : Nat) (Option.some Jvm.ClassFile.FieldType.int)) ∈ jv_T := jv_in 700 (by decide +kernel) (by decide +kernel)
theorem mw_701 : (Jvm.Cond.methodLink "TemperNurses" (287 : Nat) ({ cls := "java/util/Arrays", name := "fill", desc := "([II)V" } : Jvm.MethodName)) ∈ jv_T := jv_in 701 (by decide +kernel) (by decide +kernel)
theorem mw_702 : (Jvm.Cond.methodLink "TemperNurses" (241 : Nat) ({ cls := "TemperNurses", name := "commonDivisor", desc := "(II)I" } : Jvm.MethodName)) ∈ jv_T := jv_in 702 (by decide +kernel) (by decide +kernel)
theorem mw_703 : (Jvm.Cond.static ({ cls := "TemperNurses", name := "commonDivisor", desc := "(II)I" } : Jvm.MethodName)) ∈ jv_T := jv_in 703 (by decide +kernel) (by decide +kernel)
theorem mw_704 : (Jvm.Cond.code ({ cls := "TemperNurses", name := "commonDivisor", desc := "(II)I" } : Jvm.MethodName) prog_1_method_33_code (6 : Nat) (Option.some Jvm.ClassFile.FieldType.int)) ∈ jv_T := jv_in 704 (by decide +kernel) (by decide +kernel)
theorem mw_706 : (Jvm.Cond.instanceMethod ({ cls := "TemperNurses", name := "hears", desc := "(II)I" } : Jvm.MethodName)) ∈ jv_T := jv_in 706 (by decide +kernel) (by decide +kernel)
theorem mw_707 : (Jvm.Cond.selects "TemperNurses" ({ cls := "TemperNurses", name := "hears", desc := "(II)I" } : Jvm.MethodName) ({ cls := "TemperNurses", name := "hears", desc := "(II)I" } : Jvm.MethodName)) ∈ jv_T := jv_in 707 (by decide +kernel) (by decide +kernel)
theorem mw_708 : (Jvm.Cond.code ({ cls := "TemperNurses", name := "hears", desc := "(II)I" } : Jvm.MethodName) prog_1_method_20_code (3 : Nat) (Option.some Jvm.ClassFile.FieldType.int)) ∈ jv_T := jv_in 708 (by decide +kernel) (by decide +kernel)
theorem mw_709 : (Jvm.Cond.methodLink "TemperNurses" (244 : Nat) ({ cls := "TemperNurses$Listener", name := "append", desc := "(II)Z" } : Jvm.MethodName)) ∈ jv_T := jv_in 709 (by decide +kernel) (by decide +kernel)
theorem mw_710 : (Jvm.Cond.instanceMethod ({ cls := "TemperNurses$Listener", name := "append", desc := "(II)Z" } : Jvm.MethodName)) ∈ jv_T := jv_in 710 (by decide +kernel) (by decide +kernel)
theorem mw_711 : (Jvm.Cond.selects "TemperNurses$Listener" ({ cls := "TemperNurses$Listener", name := "append", desc := "(II)Z" } : Jvm.MethodName) ({ cls := "TemperNurses$Listener", name := "append", desc := "(II)Z" } : Jvm.MethodName)) ∈ jv_T := jv_in 711 (by decide +kernel) (by decide +kernel)
theorem mw_712 : (Jvm.Cond.code ({ cls := "TemperNurses$Listener", name := "append", desc := "(II)Z" } : Jvm.MethodName) prog_7_method_2_code (3 : Nat) (Option.some Jvm.ClassFile.FieldType.boolean)) ∈ jv_T := jv_in 712 (by decide +kernel) (by decide +kernel)
theorem mw_714 : (Jvm.Cond.instanceMethod ({ cls := "TemperNurses", name := "forget", desc := "()I" } : Jvm.MethodName)) ∈ jv_T := jv_in 714 (by decide +kernel) (by decide +kernel)
theorem mw_715 : (Jvm.Cond.selects "TemperNurses" ({ cls := "TemperNurses", name := "forget", desc := "()I" } : Jvm.MethodName) ({ cls := "TemperNurses", name := "forget", desc := "()I" } : Jvm.MethodName)) ∈ jv_T := jv_in 715 (by decide +kernel) (by decide +kernel)
theorem mw_716 : (Jvm.Cond.code ({ cls := "TemperNurses", name := "forget", desc := "()I" } : Jvm.MethodName) prog_1_method_21_code (1 : Nat) (Option.some Jvm.ClassFile.FieldType.int)) ∈ jv_T := jv_in 716 (by decide +kernel) (by decide +kernel)
theorem mw_718 : (Jvm.Cond.instanceMethod ({ cls := "TemperNurses", name := "whose", desc := "()I" } : Jvm.MethodName)) ∈ jv_T := jv_in 718 (by decide +kernel) (by decide +kernel)
theorem mw_719 : (Jvm.Cond.selects "TemperNurses" ({ cls := "TemperNurses", name := "whose", desc := "()I" } : Jvm.MethodName) ({ cls := "TemperNurses", name := "whose", desc := "()I" } : Jvm.MethodName)) ∈ jv_T := jv_in 719 (by decide +kernel) (by decide +kernel)
theorem mw_720 : (Jvm.Cond.code ({ cls := "TemperNurses", name := "whose", desc := "()I" } : Jvm.MethodName) prog_1_method_22_code (1 : Nat) (Option.some Jvm.ClassFile.FieldType.int)) ∈ jv_T := jv_in 720 (by decide +kernel) (by decide +kernel)
theorem mw_721 : (Jvm.Cond.methodLink "TemperNurses" (249 : Nat) ({ cls := "TemperNurses$Listener", name := "suspects", desc := "()I" } : Jvm.MethodName)) ∈ jv_T := jv_in 721 (by decide +kernel) (by decide +kernel)
theorem mw_722 : (Jvm.Cond.instanceMethod ({ cls := "TemperNurses$Listener", name := "suspects", desc := "()I" } : Jvm.MethodName)) ∈ jv_T := jv_in 722 (by decide +kernel) (by decide +kernel)
theorem mw_723 : (Jvm.Cond.selects "TemperNurses$Listener" ({ cls := "TemperNurses$Listener", name := "suspects", desc := "()I" } : Jvm.MethodName) ({ cls := "TemperNurses$Listener", name := "suspects", desc := "()I" } : Jvm.MethodName)) ∈ jv_T := jv_in 723 (by decide +kernel) (by decide +kernel)
theorem mw_724 : (Jvm.Cond.code ({ cls := "TemperNurses$Listener", name := "suspects", desc := "()I" } : Jvm.MethodName) prog_7_method_4_code (3 : Nat) (Option.some Jvm.ClassFile.FieldType.int)) ∈ jv_T := jv_in 724 (by decide +kernel) (by decide +kernel)
theorem mw_725 : (Jvm.Cond.methodLink "TemperNurses$Listener" (41 : Nat) ({ cls := "TemperNurses$Course", name := "heat", desc := "(I)I" } : Jvm.MethodName)) ∈ jv_T := jv_in 725 (by decide +kernel) (by decide +kernel)
theorem mw_726 : (Jvm.Cond.methodLink "TemperNurses$Listener" (47 : Nat) ({ cls := "TemperNurses$Listener", name := "isAsHeard", desc := "(I)Z" } : Jvm.MethodName)) ∈ jv_T := jv_in 726 (by decide +kernel) (by decide +kernel)
theorem mw_728 : (Jvm.Cond.instanceMethod ({ cls := "TemperNurses$Listener", name := "isAsHeard", desc := "(I)Z" } : Jvm.MethodName)) ∈ jv_T := jv_in 728 (by decide +kernel) (by decide +kernel)
theorem mw_729 : (Jvm.Cond.code ({ cls := "TemperNurses$Listener", name := "isAsHeard", desc := "(I)Z" } : Jvm.MethodName) prog_7_method_7_code (4 : Nat) (Option.some Jvm.ClassFile.FieldType.boolean)) ∈ jv_T := jv_in 729 (by decide +kernel) (by decide +kernel)
theorem mw_732 : (Jvm.Cond.instanceMethod ({ cls := "TemperNurses", name := "ask", desc := "()I" } : Jvm.MethodName)) ∈ jv_T := jv_in 732 (by decide +kernel) (by decide +kernel)
theorem mw_733 : (Jvm.Cond.selects "TemperNurses" ({ cls := "TemperNurses", name := "ask", desc := "()I" } : Jvm.MethodName) ({ cls := "TemperNurses", name := "ask", desc := "()I" } : Jvm.MethodName)) ∈ jv_T := jv_in 733 (by decide +kernel) (by decide +kernel)
theorem mw_734 : (Jvm.Cond.code ({ cls := "TemperNurses", name := "ask", desc := "()I" } : Jvm.MethodName) prog_1_method_23_code (1 : Nat) (Option.some Jvm.ClassFile.FieldType.int)) ∈ jv_T := jv_in 734 (by decide +kernel) (by decide +kernel)
theorem mw_735 : (Jvm.Cond.methodLink "TemperNurses" (252 : Nat) ({ cls := "TemperNurses$Listener", name := "nextBang", desc := "()I" } : Jvm.MethodName)) ∈ jv_T := jv_in 735 (by decide +kernel) (by decide +kernel)
theorem mw_736 : (Jvm.Cond.instanceMethod ({ cls := "TemperNurses$Listener", name := "nextBang", desc := "()I" } : Jvm.MethodName)) ∈ jv_T := jv_in 736 (by decide +kernel) (by decide +kernel)
theorem mw_737 : (Jvm.Cond.selects "TemperNurses$Listener" ({ cls := "TemperNurses$Listener", name := "nextBang", desc := "()I" } : Jvm.MethodName) ({ cls := "TemperNurses$Listener", name := "nextBang", desc := "()I" } : Jvm.MethodName)) ∈ jv_T := jv_in 737 (by decide +kernel) (by decide +kernel)
theorem mw_738 : (Jvm.Cond.code ({ cls := "TemperNurses$Listener", name := "nextBang", desc := "()I" } : Jvm.MethodName) prog_7_method_5_code (8 : Nat) (Option.some Jvm.ClassFile.FieldType.int)) ∈ jv_T := jv_in 738 (by decide +kernel) (by decide +kernel)
theorem mw_739 : (Jvm.Cond.methodLink "TemperNurses$Listener" (54 : Nat) ({ cls := "TemperNurses$Listener", name := "suspects", desc := "()I" } : Jvm.MethodName)) ∈ jv_T := jv_in 739 (by decide +kernel) (by decide +kernel)
theorem mw_740 : (Jvm.Cond.methodLink "TemperNurses$Listener" (58 : Nat) ({ cls := "java/lang/Integer", name := "bitCount", desc := "(I)I" } : Jvm.MethodName)) ∈ jv_T := jv_in 740 (by decide +kernel) (by decide +kernel)
theorem mw_741 : (Jvm.Cond.methodLink "TemperNurses$Listener" (63 : Nat) ({ cls := "TemperNurses$Listener", name := "countBanging", desc := "(II)I" } : Jvm.MethodName)) ∈ jv_T := jv_in 741 (by decide +kernel) (by decide +kernel)
theorem mw_743 : (Jvm.Cond.instanceMethod ({ cls := "TemperNurses$Listener", name := "countBanging", desc := "(II)I" } : Jvm.MethodName)) ∈ jv_T := jv_in 743 (by decide +kernel) (by decide +kernel)
theorem mw_744 : (Jvm.Cond.code ({ cls := "TemperNurses$Listener", name := "countBanging", desc := "(II)I" } : Jvm.MethodName) prog_7_method_6_code (5 : Nat) (Option.some Jvm.ClassFile.FieldType.int)) ∈ jv_T := jv_in 744 (by decide +kernel) (by decide +kernel)
theorem mw_745 : (Jvm.Cond.methodLink "TemperNurses$Listener" (67 : Nat) ({ cls := "java/lang/Math", name := "max", desc := "(II)I" } : Jvm.MethodName)) ∈ jv_T := jv_in 745 (by decide +kernel) (by decide +kernel)
theorem mw_747 : (Jvm.Cond.instanceMethod ({ cls := "TemperNurses", name := "mark", desc := "(II)I" } : Jvm.MethodName)) ∈ jv_T := jv_in 747 (by decide +kernel) (by decide +kernel)
theorem mw_748 : (Jvm.Cond.selects "TemperNurses" ({ cls := "TemperNurses", name := "mark", desc := "(II)I" } : Jvm.MethodName) ({ cls := "TemperNurses", name := "mark", desc := "(II)I" } : Jvm.MethodName)) ∈ jv_T := jv_in 748 (by decide +kernel) (by decide +kernel)
theorem mw_749 : (Jvm.Cond.code ({ cls := "TemperNurses", name := "mark", desc := "(II)I" } : Jvm.MethodName) prog_1_method_24_code (3 : Nat) (Option.some Jvm.ClassFile.FieldType.int)) ∈ jv_T := jv_in 749 (by decide +kernel) (by decide +kernel)
theorem mw_750 : (Jvm.Cond.methodLink "TemperNurses" (255 : Nat) ({ cls := "TemperNurses$Kinds", name := "asTemper", desc := "(I)I" } : Jvm.MethodName)) ∈ jv_T := jv_in 750 (by decide +kernel) (by decide +kernel)
theorem mw_751 : (Jvm.Cond.instanceMethod ({ cls := "TemperNurses$Kinds", name := "asTemper", desc := "(I)I" } : Jvm.MethodName)) ∈ jv_T := jv_in 751 (by decide +kernel) (by decide +kernel)
theorem mw_752 : (Jvm.Cond.selects "TemperNurses$Kinds" ({ cls := "TemperNurses$Kinds", name := "asTemper", desc := "(I)I" } : Jvm.MethodName) ({ cls := "TemperNurses$Kinds", name := "asTemper", desc := "(I)I" } : Jvm.MethodName)) ∈ jv_T := jv_in 752 (by decide +kernel) (by decide +kernel)
theorem mw_753 : (Jvm.Cond.code ({ cls := "TemperNurses$Kinds", name := "asTemper", desc := "(I)I" } : Jvm.MethodName) prog_6_method_2_code (2 : Nat) (Option.some Jvm.ClassFile.FieldType.int)) ∈ jv_T := jv_in 753 (by decide +kernel) (by decide +kernel)
theorem mw_754 : (Jvm.Cond.methodLink "TemperNurses$Kinds" (23 : Nat) ({ cls := "TemperNurses$Course", name := "heat", desc := "(I)I" } : Jvm.MethodName)) ∈ jv_T := jv_in 754 (by decide +kernel) (by decide +kernel)
theorem mw_755 : (Jvm.Cond.methodLink "TemperNurses" (258 : Nat) ({ cls := "TemperNurses$Kinds", name := "asRage", desc := "(I)I" } : Jvm.MethodName)) ∈ jv_T := jv_in 755 (by decide +kernel) (by decide +kernel)
theorem mw_756 : (Jvm.Cond.instanceMethod ({ cls := "TemperNurses$Kinds", name := "asRage", desc := "(I)I" } : Jvm.MethodName)) ∈ jv_T := jv_in 756 (by decide +kernel) (by decide +kernel)
theorem mw_757 : (Jvm.Cond.selects "TemperNurses$Kinds" ({ cls := "TemperNurses$Kinds", name := "asRage", desc := "(I)I" } : Jvm.MethodName) ({ cls := "TemperNurses$Kinds", name := "asRage", desc := "(I)I" } : Jvm.MethodName)) ∈ jv_T := jv_in 757 (by decide +kernel) (by decide +kernel)
theorem mw_758 : (Jvm.Cond.code ({ cls := "TemperNurses$Kinds", name := "asRage", desc := "(I)I" } : Jvm.MethodName) prog_6_method_3_code (2 : Nat) (Option.some Jvm.ClassFile.FieldType.int)) ∈ jv_T := jv_in 758 (by decide +kernel) (by decide +kernel)
theorem mw_759 : (Jvm.Cond.constantLong "TemperNurses$Kinds" (29 : Nat) (10 : Int64)) ∈ jv_T := jv_in 759 (by decide +kernel) (by decide +kernel)
theorem mw_760 : (Jvm.Cond.methodLink "TemperNurses$Kinds" (31 : Nat) ({ cls := "TemperNurses$Kinds", name := "asTemper", desc := "(I)I" } : Jvm.MethodName)) ∈ jv_T := jv_in 760 (by decide +kernel) (by decide +kernel)
theorem mw_761 : (Jvm.Cond.methodLink "TemperNurses$Kinds" (38 : Nat) ({ cls := "TemperNurses$Hill", name := "hasTemper", desc := "(I)Z" } : Jvm.MethodName)) ∈ jv_T := jv_in 761 (by decide +kernel) (by decide +kernel)
theorem mw_762 : (Jvm.Cond.methodLink "TemperNurses" (261 : Nat) ({ cls := "TemperNurses$Kinds", name := "asSulk", desc := "(I)I" } : Jvm.MethodName)) ∈ jv_T := jv_in 762 (by decide +kernel) (by decide +kernel)
theorem mw_763 : (Jvm.Cond.instanceMethod ({ cls := "TemperNurses$Kinds", name := "asSulk", desc := "(I)I" } : Jvm.MethodName)) ∈ jv_T := jv_in 763 (by decide +kernel) (by decide +kernel)
theorem mw_764 : (Jvm.Cond.selects "TemperNurses$Kinds" ({ cls := "TemperNurses$Kinds", name := "asSulk", desc := "(I)I" } : Jvm.MethodName) ({ cls := "TemperNurses$Kinds", name := "asSulk", desc := "(I)I" } : Jvm.MethodName)) ∈ jv_T := jv_in 764 (by decide +kernel) (by decide +kernel)
theorem mw_765 : (Jvm.Cond.code ({ cls := "TemperNurses$Kinds", name := "asSulk", desc := "(I)I" } : Jvm.MethodName) prog_6_method_4_code (2 : Nat) (Option.some Jvm.ClassFile.FieldType.int)) ∈ jv_T := jv_in 765 (by decide +kernel) (by decide +kernel)
theorem mw_766 : (Jvm.Cond.constantLong "TemperNurses$Kinds" (48 : Nat) (100 : Int64)) ∈ jv_T := jv_in 766 (by decide +kernel) (by decide +kernel)
theorem mw_767 : (Jvm.Cond.methodLink "TemperNurses$Kinds" (50 : Nat) ({ cls := "TemperNurses$House", name := "broken", desc := "()I" } : Jvm.MethodName)) ∈ jv_T := jv_in 767 (by decide +kernel) (by decide +kernel)
theorem mw_768 : (Jvm.Cond.methodLink "TemperNurses$Kinds" (54 : Nat) ({ cls := "java/lang/Integer", name := "bitCount", desc := "(I)I" } : Jvm.MethodName)) ∈ jv_T := jv_in 768 (by decide +kernel) (by decide +kernel)
theorem mw_769 : (Jvm.Cond.methodLink "TemperNurses" (264 : Nat) ({ cls := "TemperNurses$Kinds", name := "asStorm", desc := "(I)I" } : Jvm.MethodName)) ∈ jv_T := jv_in 769 (by decide +kernel) (by decide +kernel)
theorem mw_770 : (Jvm.Cond.instanceMethod ({ cls := "TemperNurses$Kinds", name := "asStorm", desc := "(I)I" } : Jvm.MethodName)) ∈ jv_T := jv_in 770 (by decide +kernel) (by decide +kernel)
theorem mw_771 : (Jvm.Cond.selects "TemperNurses$Kinds" ({ cls := "TemperNurses$Kinds", name := "asStorm", desc := "(I)I" } : Jvm.MethodName) ({ cls := "TemperNurses$Kinds", name := "asStorm", desc := "(I)I" } : Jvm.MethodName)) ∈ jv_T := jv_in 771 (by decide +kernel) (by decide +kernel)
theorem mw_772 : (Jvm.Cond.code ({ cls := "TemperNurses$Kinds", name := "asStorm", desc := "(I)I" } : Jvm.MethodName) prog_6_method_5_code (2 : Nat) (Option.some Jvm.ClassFile.FieldType.int)) ∈ jv_T := jv_in 772 (by decide +kernel) (by decide +kernel)
theorem mw_773 : (Jvm.Cond.constantLong "TemperNurses$Kinds" (59 : Nat) (1000 : Int64)) ∈ jv_T := jv_in 773 (by decide +kernel) (by decide +kernel)
theorem mw_774 : (Jvm.Cond.methodLink "TemperNurses$Kinds" (61 : Nat) ({ cls := "TemperNurses$Kinds", name := "asRage", desc := "(I)I" } : Jvm.MethodName)) ∈ jv_T := jv_in 774 (by decide +kernel) (by decide +kernel)
theorem mw_775 : (Jvm.Cond.methodLink "TemperNurses" (267 : Nat) ({ cls := "TemperNurses$Kinds", name := "asGrudge", desc := "(I)I" } : Jvm.MethodName)) ∈ jv_T := jv_in 775 (by decide +kernel) (by decide +kernel)
theorem mw_776 : (Jvm.Cond.instanceMethod ({ cls := "TemperNurses$Kinds", name := "asGrudge", desc := "(I)I" } : Jvm.MethodName)) ∈ jv_T := jv_in 776 (by decide +kernel) (by decide +kernel)
theorem mw_777 : (Jvm.Cond.selects "TemperNurses$Kinds" ({ cls := "TemperNurses$Kinds", name := "asGrudge", desc := "(I)I" } : Jvm.MethodName) ({ cls := "TemperNurses$Kinds", name := "asGrudge", desc := "(I)I" } : Jvm.MethodName)) ∈ jv_T := jv_in 777 (by decide +kernel) (by decide +kernel)
theorem mw_778 : (Jvm.Cond.code ({ cls := "TemperNurses$Kinds", name := "asGrudge", desc := "(I)I" } : Jvm.MethodName) prog_6_method_6_code (2 : Nat) (Option.some Jvm.ClassFile.FieldType.int)) ∈ jv_T := jv_in 778 (by decide +kernel) (by decide +kernel)
theorem mw_779 : (Jvm.Cond.constantLong "TemperNurses$Kinds" (64 : Nat) (10000 : Int64)) ∈ jv_T := jv_in 779 (by decide +kernel) (by decide +kernel)
theorem mw_780 : (Jvm.Cond.methodLink "TemperNurses$Kinds" (66 : Nat) ({ cls := "TemperNurses$Kinds", name := "asSulk", desc := "(I)I" } : Jvm.MethodName)) ∈ jv_T := jv_in 780 (by decide +kernel) (by decide +kernel)
theorem mw_781 : (Jvm.Cond.methodLink "TemperNurses" (270 : Nat) ({ cls := "TemperNurses$Kinds", name := "asPet", desc := "(I)I" } : Jvm.MethodName)) ∈ jv_T := jv_in 781 (by decide +kernel) (by decide +kernel)
theorem mw_782 : (Jvm.Cond.instanceMethod ({ cls := "TemperNurses$Kinds", name := "asPet", desc := "(I)I" } : Jvm.MethodName)) ∈ jv_T := jv_in 782 (by decide +kernel) (by decide +kernel)
theorem mw_783 : (Jvm.Cond.selects "TemperNurses$Kinds" ({ cls := "TemperNurses$Kinds", name := "asPet", desc := "(I)I" } : Jvm.MethodName) ({ cls := "TemperNurses$Kinds", name := "asPet", desc := "(I)I" } : Jvm.MethodName)) ∈ jv_T := jv_in 783 (by decide +kernel) (by decide +kernel)
theorem mw_784 : (Jvm.Cond.code ({ cls := "TemperNurses$Kinds", name := "asPet", desc := "(I)I" } : Jvm.MethodName) prog_6_method_7_code (2 : Nat) (Option.some Jvm.ClassFile.FieldType.int)) ∈ jv_T := jv_in 784 (by decide +kernel) (by decide +kernel)
theorem mw_785 : (Jvm.Cond.constantLong "TemperNurses$Kinds" (69 : Nat) (100000 : Int64)) ∈ jv_T := jv_in 785 (by decide +kernel) (by decide +kernel)
theorem mw_786 : (Jvm.Cond.methodLink "TemperNurses$Kinds" (71 : Nat) ({ cls := "TemperNurses$Course", name := "year", desc := "()I" } : Jvm.MethodName)) ∈ jv_T := jv_in 786 (by decide +kernel) (by decide +kernel)
theorem mw_788 : (Jvm.Cond.instanceMethod ({ cls := "TemperNurses", name := "keep", desc := "(I)I" } : Jvm.MethodName)) ∈ jv_T := jv_in 788 (by decide +kernel) (by decide +kernel)
theorem mw_789 : (Jvm.Cond.selects "TemperNurses" ({ cls := "TemperNurses", name := "keep", desc := "(I)I" } : Jvm.MethodName) ({ cls := "TemperNurses", name := "keep", desc := "(I)I" } : Jvm.MethodName)) ∈ jv_T := jv_in 789 (by decide +kernel) (by decide +kernel)
theorem mw_790 : (Jvm.Cond.code ({ cls := "TemperNurses", name := "keep", desc := "(I)I" } : Jvm.MethodName) prog_1_method_25_code (2 : Nat) (Option.some Jvm.ClassFile.FieldType.int)) ∈ jv_T := jv_in 790 (by decide +kernel) (by decide +kernel)
theorem mw_791 : (Jvm.Cond.methodLink "TemperNurses" (273 : Nat) ({ cls := "TemperNurses", name := "imageOf", desc := "(I)LTemperNurses$Course;" } : Jvm.MethodName)) ∈ jv_T := jv_in 791 (by decide +kernel) (by decide +kernel)
theorem mw_793 : (Jvm.Cond.instanceMethod ({ cls := "TemperNurses", name := "imageOf", desc := "(I)LTemperNurses$Course;" } : Jvm.MethodName)) ∈ jv_T := jv_in 793 (by decide +kernel) (by decide +kernel)
theorem mw_794 : (Jvm.Cond.code ({ cls := "TemperNurses", name := "imageOf", desc := "(I)LTemperNurses$Course;" } : Jvm.MethodName) prog_1_method_31_code (2 : Nat) (Option.some (Jvm.ClassFile.FieldType.object "TemperNurses$Course"))) ∈ jv_T := jv_in 794 (by decide +kernel) (by decide +kernel)
theorem mw_795 : (Jvm.Cond.methodLink "TemperNurses" (277 : Nat) ({ cls := "TemperNurses$Course", name := "take", desc := "(LTemperNurses$Course;)V" } : Jvm.MethodName)) ∈ jv_T := jv_in 795 (by decide +kernel) (by decide +kernel)
theorem mw_796 : (Jvm.Cond.instanceMethod ({ cls := "TemperNurses$Course", name := "take", desc := "(LTemperNurses$Course;)V" } : Jvm.MethodName)) ∈ jv_T := jv_in 796 (by decide +kernel) (by decide +kernel)
theorem mw_797 : (Jvm.Cond.selects "TemperNurses$Course" ({ cls := "TemperNurses$Course", name := "take", desc := "(LTemperNurses$Course;)V" } : Jvm.MethodName) ({ cls := "TemperNurses$Course", name := "take", desc := "(LTemperNurses$Course;)V" } : Jvm.MethodName)) ∈ jv_T := jv_in 797 (by decide +kernel) (by decide +kernel)
theorem mw_798 : (Jvm.Cond.code ({ cls := "TemperNurses$Course", name := "take", desc := "(LTemperNurses$Course;)V" } : Jvm.MethodName) prog_3_method_3_code (2 : Nat) (Option.none : Option Jvm.ClassFile.FieldType)) ∈ jv_T := jv_in 798 (by decide +kernel) (by decide +kernel)
theorem mw_800 : (Jvm.Cond.instanceMethod ({ cls := "TemperNurses", name := "back", desc := "(I)I" } : Jvm.MethodName)) ∈ jv_T := jv_in 800 (by decide +kernel) (by decide +kernel)
theorem mw_801 : (Jvm.Cond.selects "TemperNurses" ({ cls := "TemperNurses", name := "back", desc := "(I)I" } : Jvm.MethodName) ({ cls := "TemperNurses", name := "back", desc := "(I)I" } : Jvm.MethodName)) ∈ jv_T := jv_in 801 (by decide +kernel) (by decide +kernel)
theorem mw_802 : (Jvm.Cond.code ({ cls := "TemperNurses", name := "back", desc := "(I)I" } : Jvm.MethodName) prog_1_method_26_code (2 : Nat) (Option.some Jvm.ClassFile.FieldType.int)) ∈ jv_T := jv_in 802 (by decide +kernel) (by decide +kernel)
theorem mw_804 : (Jvm.Cond.instanceMethod ({ cls := "TemperNurses", name := "count", desc := "(I)I" } : Jvm.MethodName)) ∈ jv_T := jv_in 804 (by decide +kernel) (by decide +kernel)
theorem mw_805 : (Jvm.Cond.selects "TemperNurses" ({ cls := "TemperNurses", name := "count", desc := "(I)I" } : Jvm.MethodName) ({ cls := "TemperNurses", name := "count", desc := "(I)I" } : Jvm.MethodName)) ∈ jv_T := jv_in 805 (by decide +kernel) (by decide +kernel)
theorem mw_806 : (Jvm.Cond.code ({ cls := "TemperNurses", name := "count", desc := "(I)I" } : Jvm.MethodName) prog_1_method_27_code (2 : Nat) (Option.some Jvm.ClassFile.FieldType.int)) ∈ jv_T := jv_in 806 (by decide +kernel) (by decide +kernel)
theorem mw_808 : (Jvm.Cond.instanceMethod ({ cls := "TemperNurses", name := "trace", desc := "()J" } : Jvm.MethodName)) ∈ jv_T := jv_in 808 (by decide +kernel) (by decide +kernel)
theorem mw_809 : (Jvm.Cond.selects "TemperNurses" ({ cls := "TemperNurses", name := "trace", desc := "()J" } : Jvm.MethodName) ({ cls := "TemperNurses", name := "trace", desc := "()J" } : Jvm.MethodName)) ∈ jv_T := jv_in 809 (by decide +kernel) (by decide +kernel)
theorem mw_810 : (Jvm.Cond.code ({ cls := "TemperNurses", name := "trace", desc := "()J" } : Jvm.MethodName) prog_1_method_28_code (1 : Nat) (Option.some Jvm.ClassFile.FieldType.long)) ∈ jv_T := jv_in 810 (by decide +kernel) (by decide +kernel)
theorem mw_812 : (Jvm.Cond.instantiable "TemperNursesModel" (31 : Nat)) ∈ jv_T := jv_in 812 (by decide +kernel) (by decide +kernel)
theorem mw_814 : (Jvm.Cond.instanceMethod ({ cls := "TemperNursesModel", name := "<init>", desc := "()V" } : Jvm.MethodName)) ∈ jv_T := jv_in 814 (by decide +kernel) (by decide +kernel)
theorem mw_815 : (Jvm.Cond.code ({ cls := "TemperNursesModel", name := "<init>", desc := "()V" } : Jvm.MethodName) prog_11_method_1_code (1 : Nat) (Option.none : Option Jvm.ClassFile.FieldType)) ∈ jv_T := jv_in 815 (by decide +kernel) (by decide +kernel)
theorem mw_816 : (Jvm.Cond.methodLink "TemperNursesModel" (1 : Nat) ({ cls := "java/lang/Object", name := "<init>", desc := "()V" } : Jvm.MethodName)) ∈ jv_T := jv_in 816 (by decide +kernel) (by decide +kernel)
theorem mw_817 : (Jvm.Cond.fieldLink "TemperNursesModel" (71 : Nat) "TemperNursesModel" "many" "I") ∈ jv_T := jv_in 817 (by decide +kernel) (by decide +kernel)
theorem mw_818 : (Jvm.Cond.fieldLink "TemperNursesModel" (79 : Nat) "TemperNursesModel" "nurses" "I") ∈ jv_T := jv_in 818 (by decide +kernel) (by decide +kernel)
theorem mw_819 : (Jvm.Cond.fieldLink "TemperNursesModel" (7 : Nat) "TemperNursesModel" "grows" "[I") ∈ jv_T := jv_in 819 (by decide +kernel) (by decide +kernel)
theorem mw_820 : (Jvm.Cond.fieldLink "TemperNursesModel" (13 : Nat) "TemperNursesModel" "due" "[I") ∈ jv_T := jv_in 820 (by decide +kernel) (by decide +kernel)
theorem mw_821 : (Jvm.Cond.fieldLink "TemperNursesModel" (16 : Nat) "TemperNursesModel" "clash" "[I") ∈ jv_T := jv_in 821 (by decide +kernel) (by decide +kernel)
theorem mw_822 : (Jvm.Cond.fieldLink "TemperNursesModel" (19 : Nat) "TemperNursesModel" "tames" "[I") ∈ jv_T := jv_in 822 (by decide +kernel) (by decide +kernel)
theorem mw_823 : (Jvm.Cond.fieldLink "TemperNursesModel" (22 : Nat) "TemperNursesModel" "room" "[I") ∈ jv_T := jv_in 823 (by decide +kernel) (by decide +kernel)
theorem mw_824 : (Jvm.Cond.fieldLink "TemperNursesModel" (25 : Nat) "TemperNursesModel" "holds" "[I") ∈ jv_T := jv_in 824 (by decide +kernel) (by decide +kernel)
theorem mw_825 : (Jvm.Cond.fieldLink "TemperNursesModel" (28 : Nat) "TemperNursesModel" "all" "[I") ∈ jv_T := jv_in 825 (by decide +kernel) (by decide +kernel)
theorem mw_826 : (Jvm.Cond.fieldLink "TemperNursesModel" (31 : Nat) "TemperNursesModel" "kept" "[I") ∈ jv_T := jv_in 826 (by decide +kernel) (by decide +kernel)
theorem mw_827 : (Jvm.Cond.fieldLink "TemperNursesModel" (34 : Nat) "TemperNursesModel" "isKept" "[Z") ∈ jv_T := jv_in 827 (by decide +kernel) (by decide +kernel)
theorem mw_828 : (Jvm.Cond.fieldLink "TemperNursesModel" (38 : Nat) "TemperNursesModel" "heardAt" "[I") ∈ jv_T := jv_in 828 (by decide +kernel) (by decide +kernel)
theorem mw_829 : (Jvm.Cond.fieldLink "TemperNursesModel" (41 : Nat) "TemperNursesModel" "heardBang" "[I") ∈ jv_T := jv_in 829 (by decide +kernel) (by decide +kernel)
theorem mw_830 : (Jvm.Cond.fieldLink "TemperNursesModel" (130 : Nat) "TemperNursesModel" "heard" "I") ∈ jv_T := jv_in 830 (by decide +kernel) (by decide +kernel)
theorem mw_831 : (Jvm.Cond.fieldLink "TemperNursesModel" (221 : Nat) "TemperNursesModel" "trace" "J") ∈ jv_T := jv_in 831 (by decide +kernel) (by decide +kernel)
theorem mw_832 : (Jvm.Cond.fieldLink "TemperNursesModel" (44 : Nat) "TemperNursesModel" "text" "[I") ∈ jv_T := jv_in 832 (by decide +kernel) (by decide +kernel)
theorem mw_833 : (Jvm.Cond.fieldLink "TemperNursesModel" (84 : Nat) "TemperNursesModel" "textLong" "I") ∈ jv_T := jv_in 833 (by decide +kernel) (by decide +kernel)
theorem mw_834 : (Jvm.Cond.fieldLink "TemperNursesModel" (97 : Nat) "TemperNursesModel" "token" "I") ∈ jv_T := jv_in 834 (by decide +kernel) (by decide +kernel)
theorem mw_835 : (Jvm.Cond.fieldLink "TemperNursesModel" (87 : Nat) "TemperNursesModel" "tokenAt" "I") ∈ jv_T := jv_in 835 (by decide +kernel) (by decide +kernel)
theorem mw_836 : (Jvm.Cond.fieldLink "TemperNursesModel" (100 : Nat) "TemperNursesModel" "tokenEnd" "I") ∈ jv_T := jv_in 836 (by decide +kernel) (by decide +kernel)
theorem mw_837 : (Jvm.Cond.fieldLink "TemperNursesModel" (90 : Nat) "TemperNursesModel" "value" "I") ∈ jv_T := jv_in 837 (by decide +kernel) (by decide +kernel)
theorem mw_838 : (Jvm.Cond.fieldLink "TemperNursesModel" (107 : Nat) "TemperNursesModel" "newMany" "I") ∈ jv_T := jv_in 838 (by decide +kernel) (by decide +kernel)
theorem mw_839 : (Jvm.Cond.fieldLink "TemperNursesModel" (113 : Nat) "TemperNursesModel" "newNurses" "I") ∈ jv_T := jv_in 839 (by decide +kernel) (by decide +kernel)
theorem mw_840 : (Jvm.Cond.fieldLink "TemperNursesModel" (47 : Nat) "TemperNursesModel" "newTold" "[I") ∈ jv_T := jv_in 840 (by decide +kernel) (by decide +kernel)
theorem mw_841 : (Jvm.Cond.fieldLink "TemperNursesModel" (50 : Nat) "TemperNursesModel" "values" "[I") ∈ jv_T := jv_in 841 (by decide +kernel) (by decide +kernel)
theorem mw_842 : (Jvm.Cond.fieldLink "TemperNursesModel" (53 : Nat) "TemperNursesModel" "goes" "[I") ∈ jv_T := jv_in 842 (by decide +kernel) (by decide +kernel)
theorem mw_843 : (Jvm.Cond.fieldLink "TemperNursesModel" (56 : Nat) "TemperNursesModel" "bestGoes" "[I") ∈ jv_T := jv_in 843 (by decide +kernel) (by decide +kernel)
theorem mw_844 : (Jvm.Cond.fieldLink "TemperNursesModel" (59 : Nat) "TemperNursesModel" "group" "[I") ∈ jv_T := jv_in 844 (by decide +kernel) (by decide +kernel)
theorem mw_845 : (Jvm.Cond.fieldLink "TemperNursesModel" (62 : Nat) "TemperNursesModel" "breaks" "[I") ∈ jv_T := jv_in 845 (by decide +kernel) (by decide +kernel)
theorem mw_846 : (Jvm.Cond.fieldLink "TemperNursesModel" (65 : Nat) "TemperNursesModel" "with" "[I") ∈ jv_T := jv_in 846 (by decide +kernel) (by decide +kernel)
theorem mw_847 : (Jvm.Cond.fieldLink "TemperNursesModel" (68 : Nat) "TemperNursesModel" "bestWith" "[I") ∈ jv_T := jv_in 847 (by decide +kernel) (by decide +kernel)
theorem mw_848 : (Jvm.Cond.lays "TemperNursesModel" "TemperNursesModel" "many" "I") ∈ jv_T := jv_in 848 (by decide +kernel) (by decide +kernel)
theorem mw_850 : (Jvm.Cond.lays "TemperNursesModel" "TemperNursesModel" "nurses" "I") ∈ jv_T := jv_in 850 (by decide +kernel) (by decide +kernel)
theorem mw_852 : (Jvm.Cond.laysFinal "TemperNursesModel" "TemperNursesModel" "grows" "[I") ∈ jv_T := jv_in 852 (by decide +kernel) (by decide +kernel)
theorem mw_854 : (Jvm.Cond.laysFinal "TemperNursesModel" "TemperNursesModel" "due" "[I") ∈ jv_T := jv_in 854 (by decide +kernel) (by decide +kernel)
theorem mw_856 : (Jvm.Cond.laysFinal "TemperNursesModel" "TemperNursesModel" "clash" "[I") ∈ jv_T := jv_in 856 (by decide +kernel) (by decide +kernel)
theorem mw_858 : (Jvm.Cond.laysFinal "TemperNursesModel" "TemperNursesModel" "tames" "[I") ∈ jv_T := jv_in 858 (by decide +kernel) (by decide +kernel)
theorem mw_860 : (Jvm.Cond.laysFinal "TemperNursesModel" "TemperNursesModel" "room" "[I") ∈ jv_T := jv_in 860 (by decide +kernel) (by decide +kernel)
theorem mw_862 : (Jvm.Cond.laysFinal "TemperNursesModel" "TemperNursesModel" "holds" "[I") ∈ jv_T := jv_in 862 (by decide +kernel) (by decide +kernel)
theorem mw_864 : (Jvm.Cond.laysFinal "TemperNursesModel" "TemperNursesModel" "all" "[I") ∈ jv_T := jv_in 864 (by decide +kernel) (by decide +kernel)
theorem mw_866 : (Jvm.Cond.laysFinal "TemperNursesModel" "TemperNursesModel" "kept" "[I") ∈ jv_T := jv_in 866 (by decide +kernel) (by decide +kernel)
theorem mw_868 : (Jvm.Cond.laysFinal "TemperNursesModel" "TemperNursesModel" "isKept" "[Z") ∈ jv_T := jv_in 868 (by decide +kernel) (by decide +kernel)
theorem mw_870 : (Jvm.Cond.laysFinal "TemperNursesModel" "TemperNursesModel" "heardAt" "[I") ∈ jv_T := jv_in 870 (by decide +kernel) (by decide +kernel)
theorem mw_872 : (Jvm.Cond.laysFinal "TemperNursesModel" "TemperNursesModel" "heardBang" "[I") ∈ jv_T := jv_in 872 (by decide +kernel) (by decide +kernel)
theorem mw_874 : (Jvm.Cond.lays "TemperNursesModel" "TemperNursesModel" "heard" "I") ∈ jv_T := jv_in 874 (by decide +kernel) (by decide +kernel)
theorem mw_876 : (Jvm.Cond.lays "TemperNursesModel" "TemperNursesModel" "trace" "J") ∈ jv_T := jv_in 876 (by decide +kernel) (by decide +kernel)
theorem mw_878 : (Jvm.Cond.laysFinal "TemperNursesModel" "TemperNursesModel" "text" "[I") ∈ jv_T := jv_in 878 (by decide +kernel) (by decide +kernel)
theorem mw_880 : (Jvm.Cond.lays "TemperNursesModel" "TemperNursesModel" "textLong" "I") ∈ jv_T := jv_in 880 (by decide +kernel) (by decide +kernel)
theorem mw_882 : (Jvm.Cond.lays "TemperNursesModel" "TemperNursesModel" "token" "I") ∈ jv_T := jv_in 882 (by decide +kernel) (by decide +kernel)
theorem mw_884 : (Jvm.Cond.lays "TemperNursesModel" "TemperNursesModel" "tokenAt" "I") ∈ jv_T := jv_in 884 (by decide +kernel) (by decide +kernel)
theorem mw_886 : (Jvm.Cond.lays "TemperNursesModel" "TemperNursesModel" "tokenEnd" "I") ∈ jv_T := jv_in 886 (by decide +kernel) (by decide +kernel)
theorem mw_888 : (Jvm.Cond.lays "TemperNursesModel" "TemperNursesModel" "value" "I") ∈ jv_T := jv_in 888 (by decide +kernel) (by decide +kernel)
theorem mw_890 : (Jvm.Cond.lays "TemperNursesModel" "TemperNursesModel" "newMany" "I") ∈ jv_T := jv_in 890 (by decide +kernel) (by decide +kernel)
theorem mw_892 : (Jvm.Cond.lays "TemperNursesModel" "TemperNursesModel" "newNurses" "I") ∈ jv_T := jv_in 892 (by decide +kernel) (by decide +kernel)
theorem mw_894 : (Jvm.Cond.laysFinal "TemperNursesModel" "TemperNursesModel" "newTold" "[I") ∈ jv_T := jv_in 894 (by decide +kernel) (by decide +kernel)
theorem mw_896 : (Jvm.Cond.laysFinal "TemperNursesModel" "TemperNursesModel" "values" "[I") ∈ jv_T := jv_in 896 (by decide +kernel) (by decide +kernel)
theorem mw_898 : (Jvm.Cond.laysFinal "TemperNursesModel" "TemperNursesModel" "goes" "[I") ∈ jv_T := jv_in 898 (by decide +kernel) (by decide +kernel)
theorem mw_900 : (Jvm.Cond.laysFinal "TemperNursesModel" "TemperNursesModel" "bestGoes" "[I") ∈ jv_T := jv_in 900 (by decide +kernel) (by decide +kernel)
theorem mw_902 : (Jvm.Cond.laysFinal "TemperNursesModel" "TemperNursesModel" "group" "[I") ∈ jv_T := jv_in 902 (by decide +kernel) (by decide +kernel)
theorem mw_904 : (Jvm.Cond.laysFinal "TemperNursesModel" "TemperNursesModel" "breaks" "[I") ∈ jv_T := jv_in 904 (by decide +kernel) (by decide +kernel)
theorem mw_906 : (Jvm.Cond.laysFinal "TemperNursesModel" "TemperNursesModel" "with" "[I") ∈ jv_T := jv_in 906 (by decide +kernel) (by decide +kernel)
theorem mw_908 : (Jvm.Cond.laysFinal "TemperNursesModel" "TemperNursesModel" "bestWith" "[I") ∈ jv_T := jv_in 908 (by decide +kernel) (by decide +kernel)
theorem mw_912 : (Jvm.Cond.instanceMethod ({ cls := "TemperNursesModel", name := "type", desc := "(I)I" } : Jvm.MethodName)) ∈ jv_T := jv_in 912 (by decide +kernel) (by decide +kernel)
theorem mw_913 : (Jvm.Cond.selects "TemperNursesModel" ({ cls := "TemperNursesModel", name := "type", desc := "(I)I" } : Jvm.MethodName) ({ cls := "TemperNursesModel", name := "type", desc := "(I)I" } : Jvm.MethodName)) ∈ jv_T := jv_in 913 (by decide +kernel) (by decide +kernel)
theorem mw_914 : (Jvm.Cond.code ({ cls := "TemperNursesModel", name := "type", desc := "(I)I" } : Jvm.MethodName) prog_11_method_8_code (2 : Nat) (Option.some Jvm.ClassFile.FieldType.int)) ∈ jv_T := jv_in 914 (by decide +kernel) (by decide +kernel)
theorem mw_915 : (Jvm.Cond.constantLong "TemperNursesModel" (82 : Nat) (255 : Int64)) ∈ jv_T := jv_in 915 (by decide +kernel) (by decide +kernel)
theorem mw_916 : (Jvm.Cond.methodLink "TemperNursesModel" (75 : Nat) ({ cls := "TemperNursesModel", name := "in", desc := "(JJJ)Z" } : Jvm.MethodName)) ∈ jv_T := jv_in 916 (by decide +kernel) (by decide +kernel)
theorem mw_917 : (Jvm.Cond.static ({ cls := "TemperNursesModel", name := "in", desc := "(JJJ)Z" } : Jvm.MethodName)) ∈ jv_T := jv_in 917 (by decide +kernel) (by decide +kernel)
theorem mw_918 : (Jvm.Cond.code ({ cls := "TemperNursesModel", name := "in", desc := "(JJJ)Z" } : Jvm.MethodName) prog_11_method_3_code (6 : Nat) (Option.some Jvm.ClassFile.FieldType.boolean)) ∈ jv_T := jv_in 918 (by decide +kernel) (by decide +kernel)
theorem mw_920 : (Jvm.Cond.instanceMethod ({ cls := "TemperNursesModel", name := "clear", desc := "()I" } : Jvm.MethodName)) ∈ jv_T := jv_in 920 (by decide +kernel) (by decide +kernel)
theorem mw_921 : (Jvm.Cond.selects "TemperNursesModel" ({ cls := "TemperNursesModel", name := "clear", desc := "()I" } : Jvm.MethodName) ({ cls := "TemperNursesModel", name := "clear", desc := "()I" } : Jvm.MethodName)) ∈ jv_T := jv_in 921 (by decide +kernel) (by decide +kernel)
theorem mw_922 : (Jvm.Cond.code ({ cls := "TemperNursesModel", name := "clear", desc := "()I" } : Jvm.MethodName) prog_11_method_9_code (2 : Nat) (Option.some Jvm.ClassFile.FieldType.int)) ∈ jv_T := jv_in 922 (by decide +kernel) (by decide +kernel)
theorem mw_924 : (Jvm.Cond.instanceMethod ({ cls := "TemperNursesModel", name := "hill", desc := "()I" } : Jvm.MethodName)) ∈ jv_T := jv_in 924 (by decide +kernel) (by decide +kernel)
theorem mw_925 : (Jvm.Cond.selects "TemperNursesModel" ({ cls := "TemperNursesModel", name := "hill", desc := "()I" } : Jvm.MethodName) ({ cls := "TemperNursesModel", name := "hill", desc := "()I" } : Jvm.MethodName)) ∈ jv_T := jv_in 925 (by decide +kernel) (by decide +kernel)
theorem mw_926 : (Jvm.Cond.code ({ cls := "TemperNursesModel", name := "hill", desc := "()I" } : Jvm.MethodName) prog_11_method_19_code (2 : Nat) (Option.some Jvm.ClassFile.FieldType.int)) ∈ jv_T := jv_in 926 (by decide +kernel) (by decide +kernel)
theorem mw_927 : (Jvm.Cond.methodLink "TemperNursesModel" (103 : Nat) ({ cls := "TemperNursesModel", name := "lookAt", desc := "(I)V" } : Jvm.MethodName)) ∈ jv_T := jv_in 927 (by decide +kernel) (by decide +kernel)
theorem mw_929 : (Jvm.Cond.instanceMethod ({ cls := "TemperNursesModel", name := "lookAt", desc := "(I)V" } : Jvm.MethodName)) ∈ jv_T := jv_in 929 (by decide +kernel) (by decide +kernel)
theorem mw_930 : (Jvm.Cond.code ({ cls := "TemperNursesModel", name := "lookAt", desc := "(I)V" } : Jvm.MethodName) prog_11_method_11_code (4 : Nat) (Option.none : Option Jvm.ClassFile.FieldType)) ∈ jv_T := jv_in 930 (by decide +kernel) (by decide +kernel)
theorem mw_931 : (Jvm.Cond.methodLink "TemperNursesModel" (93 : Nat) ({ cls := "TemperNursesModel", name := "isBetween", desc := "(III)Z" } : Jvm.MethodName)) ∈ jv_T := jv_in 931 (by decide +kernel) (by decide +kernel)
theorem mw_933 : (Jvm.Cond.instanceMethod ({ cls := "TemperNursesModel", name := "isBetween", desc := "(III)Z" } : Jvm.MethodName)) ∈ jv_T := jv_in 933 (by decide +kernel) (by decide +kernel)
theorem mw_934 : (Jvm.Cond.code ({ cls := "TemperNursesModel", name := "isBetween", desc := "(III)Z" } : Jvm.MethodName) prog_11_method_10_code (4 : Nat) (Option.some Jvm.ClassFile.FieldType.boolean)) ∈ jv_T := jv_in 934 (by decide +kernel) (by decide +kernel)
theorem mw_935 : (Jvm.Cond.methodLink "TemperNursesModel" (133 : Nat) ({ cls := "TemperNursesModel", name := "takesItem", desc := "()Z" } : Jvm.MethodName)) ∈ jv_T := jv_in 935 (by decide +kernel) (by decide +kernel)
theorem mw_937 : (Jvm.Cond.instanceMethod ({ cls := "TemperNursesModel", name := "takesItem", desc := "()Z" } : Jvm.MethodName)) ∈ jv_T := jv_in 937 (by decide +kernel) (by decide +kernel)
theorem mw_938 : (Jvm.Cond.code ({ cls := "TemperNursesModel", name := "takesItem", desc := "()Z" } : Jvm.MethodName) prog_11_method_17_code (1 : Nat) (Option.some Jvm.ClassFile.FieldType.boolean)) ∈ jv_T := jv_in 938 (by decide +kernel) (by decide +kernel)
theorem mw_939 : (Jvm.Cond.methodLink "TemperNursesModel" (116 : Nat) ({ cls := "TemperNursesModel", name := "isLetter", desc := "(I)Z" } : Jvm.MethodName)) ∈ jv_T := jv_in 939 (by decide +kernel) (by decide +kernel)
theorem mw_941 : (Jvm.Cond.instanceMethod ({ cls := "TemperNursesModel", name := "isLetter", desc := "(I)Z" } : Jvm.MethodName)) ∈ jv_T := jv_in 941 (by decide +kernel) (by decide +kernel)
theorem mw_942 : (Jvm.Cond.code ({ cls := "TemperNursesModel", name := "isLetter", desc := "(I)Z" } : Jvm.MethodName) prog_11_method_12_code (2 : Nat) (Option.some Jvm.ClassFile.FieldType.boolean)) ∈ jv_T := jv_in 942 (by decide +kernel) (by decide +kernel)
theorem mw_943 : (Jvm.Cond.methodLink "TemperNursesModel" (120 : Nat) ({ cls := "TemperNursesModel", name := "takesTemper", desc := "()Z" } : Jvm.MethodName)) ∈ jv_T := jv_in 943 (by decide +kernel) (by decide +kernel)
theorem mw_945 : (Jvm.Cond.instanceMethod ({ cls := "TemperNursesModel", name := "takesTemper", desc := "()Z" } : Jvm.MethodName)) ∈ jv_T := jv_in 945 (by decide +kernel) (by decide +kernel)
theorem mw_946 : (Jvm.Cond.code ({ cls := "TemperNursesModel", name := "takesTemper", desc := "()Z" } : Jvm.MethodName) prog_11_method_14_code (2 : Nat) (Option.some Jvm.ClassFile.FieldType.boolean)) ∈ jv_T := jv_in 946 (by decide +kernel) (by decide +kernel)
theorem mw_947 : (Jvm.Cond.methodLink "TemperNursesModel" (110 : Nat) ({ cls := "TemperNursesModel", name := "takes", desc := "(III)Z" } : Jvm.MethodName)) ∈ jv_T := jv_in 947 (by decide +kernel) (by decide +kernel)
theorem mw_949 : (Jvm.Cond.instanceMethod ({ cls := "TemperNursesModel", name := "takes", desc := "(III)Z" } : Jvm.MethodName)) ∈ jv_T := jv_in 949 (by decide +kernel) (by decide +kernel)
theorem mw_950 : (Jvm.Cond.code ({ cls := "TemperNursesModel", name := "takes", desc := "(III)Z" } : Jvm.MethodName) prog_11_method_13_code (4 : Nat) (Option.some Jvm.ClassFile.FieldType.boolean)) ∈ jv_T := jv_in 950 (by decide +kernel) (by decide +kernel)
theorem mw_951 : (Jvm.Cond.methodLink "TemperNursesModel" (124 : Nat) ({ cls := "TemperNursesModel", name := "takesNurse", desc := "()Z" } : Jvm.MethodName)) ∈ jv_T := jv_in 951 (by decide +kernel) (by decide +kernel)
theorem mw_953 : (Jvm.Cond.instanceMethod ({ cls := "TemperNursesModel", name := "takesNurse", desc := "()Z" } : Jvm.MethodName)) ∈ jv_T := jv_in 953 (by decide +kernel) (by decide +kernel)
theorem mw_954 : (Jvm.Cond.code ({ cls := "TemperNursesModel", name := "takesNurse", desc := "()Z" } : Jvm.MethodName) prog_11_method_15_code (2 : Nat) (Option.some Jvm.ClassFile.FieldType.boolean)) ∈ jv_T := jv_in 954 (by decide +kernel) (by decide +kernel)
theorem mw_955 : (Jvm.Cond.methodLink "TemperNursesModel" (127 : Nat) ({ cls := "TemperNursesModel", name := "takesClash", desc := "()Z" } : Jvm.MethodName)) ∈ jv_T := jv_in 955 (by decide +kernel) (by decide +kernel)
theorem mw_957 : (Jvm.Cond.instanceMethod ({ cls := "TemperNursesModel", name := "takesClash", desc := "()Z" } : Jvm.MethodName)) ∈ jv_T := jv_in 957 (by decide +kernel) (by decide +kernel)
theorem mw_958 : (Jvm.Cond.code ({ cls := "TemperNursesModel", name := "takesClash", desc := "()Z" } : Jvm.MethodName) prog_11_method_16_code (1 : Nat) (Option.some Jvm.ClassFile.FieldType.boolean)) ∈ jv_T := jv_in 958 (by decide +kernel) (by decide +kernel)
theorem mw_959 : (Jvm.Cond.methodLink "TemperNursesModel" (136 : Nat) ({ cls := "TemperNursesModel", name := "takeAll", desc := "()V" } : Jvm.MethodName)) ∈ jv_T := jv_in 959 (by decide +kernel) (by decide +kernel)
theorem mw_961 : (Jvm.Cond.instanceMethod ({ cls := "TemperNursesModel", name := "takeAll", desc := "()V" } : Jvm.MethodName)) ∈ jv_T := jv_in 961 (by decide +kernel) (by decide +kernel)
theorem mw_962 : (Jvm.Cond.code ({ cls := "TemperNursesModel", name := "takeAll", desc := "()V" } : Jvm.MethodName) prog_11_method_18_code (2 : Nat) (Option.none : Option Jvm.ClassFile.FieldType)) ∈ jv_T := jv_in 962 (by decide +kernel) (by decide +kernel)
theorem mw_964 : (Jvm.Cond.instanceMethod ({ cls := "TemperNursesModel", name := "temper", desc := "(II)I" } : Jvm.MethodName)) ∈ jv_T := jv_in 964 (by decide +kernel) (by decide +kernel)
theorem mw_965 : (Jvm.Cond.selects "TemperNursesModel" ({ cls := "TemperNursesModel", name := "temper", desc := "(II)I" } : Jvm.MethodName) ({ cls := "TemperNursesModel", name := "temper", desc := "(II)I" } : Jvm.MethodName)) ∈ jv_T := jv_in 965 (by decide +kernel) (by decide +kernel)
theorem mw_966 : (Jvm.Cond.code ({ cls := "TemperNursesModel", name := "temper", desc := "(II)I" } : Jvm.MethodName) prog_11_method_24_code (3 : Nat) (Option.some Jvm.ClassFile.FieldType.int)) ∈ jv_T := jv_in 966 (by decide +kernel) (by decide +kernel)
theorem mw_967 : (Jvm.Cond.methodLink "TemperNursesModel" (149 : Nat) ({ cls := "TemperNursesModel", name := "isTemper", desc := "(I)Z" } : Jvm.MethodName)) ∈ jv_T := jv_in 967 (by decide +kernel) (by decide +kernel)
theorem mw_969 : (Jvm.Cond.instanceMethod ({ cls := "TemperNursesModel", name := "isTemper", desc := "(I)Z" } : Jvm.MethodName)) ∈ jv_T := jv_in 969 (by decide +kernel) (by decide +kernel)
theorem mw_970 : (Jvm.Cond.code ({ cls := "TemperNursesModel", name := "isTemper", desc := "(I)Z" } : Jvm.MethodName) prog_11_method_6_code (2 : Nat) (Option.some Jvm.ClassFile.FieldType.boolean)) ∈ jv_T := jv_in 970 (by decide +kernel) (by decide +kernel)
theorem mw_971 : (Jvm.Cond.constantLong "TemperNursesModel" (152 : Nat) (6 : Int64)) ∈ jv_T := jv_in 971 (by decide +kernel) (by decide +kernel)
theorem mw_972 : (Jvm.Cond.methodLink "TemperNursesModel" (143 : Nat) ({ cls := "TemperNursesModel", name := "heat", desc := "(I)I" } : Jvm.MethodName)) ∈ jv_T := jv_in 972 (by decide +kernel) (by decide +kernel)
theorem mw_974 : (Jvm.Cond.instanceMethod ({ cls := "TemperNursesModel", name := "heat", desc := "(I)I" } : Jvm.MethodName)) ∈ jv_T := jv_in 974 (by decide +kernel) (by decide +kernel)
theorem mw_975 : (Jvm.Cond.code ({ cls := "TemperNursesModel", name := "heat", desc := "(I)I" } : Jvm.MethodName) prog_11_method_20_code (2 : Nat) (Option.some Jvm.ClassFile.FieldType.int)) ∈ jv_T := jv_in 975 (by decide +kernel) (by decide +kernel)
theorem mw_976 : (Jvm.Cond.methodLink "TemperNursesModel" (154 : Nat) ({ cls := "TemperNursesModel", name := "ring", desc := "(I)I" } : Jvm.MethodName)) ∈ jv_T := jv_in 976 (by decide +kernel) (by decide +kernel)
theorem mw_978 : (Jvm.Cond.instanceMethod ({ cls := "TemperNursesModel", name := "ring", desc := "(I)I" } : Jvm.MethodName)) ∈ jv_T := jv_in 978 (by decide +kernel) (by decide +kernel)
theorem mw_979 : (Jvm.Cond.code ({ cls := "TemperNursesModel", name := "ring", desc := "(I)I" } : Jvm.MethodName) prog_11_method_23_code (4 : Nat) (Option.some Jvm.ClassFile.FieldType.int)) ∈ jv_T := jv_in 979 (by decide +kernel) (by decide +kernel)
theorem mw_981 : (Jvm.Cond.instanceMethod ({ cls := "TemperNursesModel", name := "nurse", desc := "(II)I" } : Jvm.MethodName)) ∈ jv_T := jv_in 981 (by decide +kernel) (by decide +kernel)
theorem mw_982 : (Jvm.Cond.selects "TemperNursesModel" ({ cls := "TemperNursesModel", name := "nurse", desc := "(II)I" } : Jvm.MethodName) ({ cls := "TemperNursesModel", name := "nurse", desc := "(II)I" } : Jvm.MethodName)) ∈ jv_T := jv_in 982 (by decide +kernel) (by decide +kernel)
theorem mw_983 : (Jvm.Cond.code ({ cls := "TemperNursesModel", name := "nurse", desc := "(II)I" } : Jvm.MethodName) prog_11_method_25_code (5 : Nat) (Option.some Jvm.ClassFile.FieldType.int)) ∈ jv_T := jv_in 983 (by decide +kernel) (by decide +kernel)
theorem mw_984 : (Jvm.Cond.methodLink "TemperNursesModel" (157 : Nat) ({ cls := "TemperNursesModel", name := "isNurse", desc := "(I)Z" } : Jvm.MethodName)) ∈ jv_T := jv_in 984 (by decide +kernel) (by decide +kernel)
theorem mw_986 : (Jvm.Cond.instanceMethod ({ cls := "TemperNursesModel", name := "isNurse", desc := "(I)Z" } : Jvm.MethodName)) ∈ jv_T := jv_in 986 (by decide +kernel) (by decide +kernel)
theorem mw_987 : (Jvm.Cond.code ({ cls := "TemperNursesModel", name := "isNurse", desc := "(I)Z" } : Jvm.MethodName) prog_11_method_7_code (2 : Nat) (Option.some Jvm.ClassFile.FieldType.boolean)) ∈ jv_T := jv_in 987 (by decide +kernel) (by decide +kernel)
theorem mw_988 : (Jvm.Cond.constantLong "TemperNursesModel" (160 : Nat) (4 : Int64)) ∈ jv_T := jv_in 988 (by decide +kernel) (by decide +kernel)
theorem mw_989 : (Jvm.Cond.methodLink "TemperNursesModel" (162 : Nat) ({ cls := "TemperNursesModel", name := "maySend", desc := "(II)Z" } : Jvm.MethodName)) ∈ jv_T := jv_in 989 (by decide +kernel) (by decide +kernel)
theorem mw_991 : (Jvm.Cond.instanceMethod ({ cls := "TemperNursesModel", name := "maySend", desc := "(II)Z" } : Jvm.MethodName)) ∈ jv_T := jv_in 991 (by decide +kernel) (by decide +kernel)
theorem mw_992 : (Jvm.Cond.code ({ cls := "TemperNursesModel", name := "maySend", desc := "(II)Z" } : Jvm.MethodName) prog_11_method_22_code (4 : Nat) (Option.some Jvm.ClassFile.FieldType.boolean)) ∈ jv_T := jv_in 992 (by decide +kernel) (by decide +kernel)
theorem mw_993 : (Jvm.Cond.methodLink "TemperNursesModel" (139 : Nat) ({ cls := "TemperNursesModel", name := "whom", desc := "(I)I" } : Jvm.MethodName)) ∈ jv_T := jv_in 993 (by decide +kernel) (by decide +kernel)
theorem mw_995 : (Jvm.Cond.instanceMethod ({ cls := "TemperNursesModel", name := "whom", desc := "(I)I" } : Jvm.MethodName)) ∈ jv_T := jv_in 995 (by decide +kernel) (by decide +kernel)
theorem mw_996 : (Jvm.Cond.code ({ cls := "TemperNursesModel", name := "whom", desc := "(I)I" } : Jvm.MethodName) prog_11_method_21_code (4 : Nat) (Option.some Jvm.ClassFile.FieldType.int)) ∈ jv_T := jv_in 996 (by decide +kernel) (by decide +kernel)
theorem mw_997 : (Jvm.Cond.methodLink "TemperNursesModel" (146 : Nat) ({ cls := "TemperNursesModel", name := "bits", desc := "(I)I" } : Jvm.MethodName)) ∈ jv_T := jv_in 997 (by decide +kernel) (by decide +kernel)
theorem mw_998 : (Jvm.Cond.static ({ cls := "TemperNursesModel", name := "bits", desc := "(I)I" } : Jvm.MethodName)) ∈ jv_T := jv_in 998 (by decide +kernel) (by decide +kernel)
theorem mw_999 : (Jvm.Cond.code ({ cls := "TemperNursesModel", name := "bits", desc := "(I)I" } : Jvm.MethodName) prog_11_method_5_code (3 : Nat) (Option.some Jvm.ClassFile.FieldType.int)) ∈ jv_T := jv_in 999 (by decide +kernel) (by decide +kernel)
theorem mw_1001 : (Jvm.Cond.instanceMethod ({ cls := "TemperNursesModel", name := "sends", desc := "(II)I" } : Jvm.MethodName)) ∈ jv_T := jv_in 1001 (by decide +kernel) (by decide +kernel)
theorem mw_1002 : (Jvm.Cond.selects "TemperNursesModel" ({ cls := "TemperNursesModel", name := "sends", desc := "(II)I" } : Jvm.MethodName) ({ cls := "TemperNursesModel", name := "sends", desc := "(II)I" } : Jvm.MethodName)) ∈ jv_T := jv_in 1002 (by decide +kernel) (by decide +kernel)
theorem mw_1003 : (Jvm.Cond.code ({ cls := "TemperNursesModel", name := "sends", desc := "(II)I" } : Jvm.MethodName) prog_11_method_27_code (3 : Nat) (Option.some Jvm.ClassFile.FieldType.int)) ∈ jv_T := jv_in 1003 (by decide +kernel) (by decide +kernel)
theorem mw_1004 : (Jvm.Cond.methodLink "TemperNursesModel" (166 : Nat) ({ cls := "TemperNursesModel", name := "save", desc := "()V" } : Jvm.MethodName)) ∈ jv_T := jv_in 1004 (by decide +kernel) (by decide +kernel)
theorem mw_1006 : (Jvm.Cond.instanceMethod ({ cls := "TemperNursesModel", name := "save", desc := "()V" } : Jvm.MethodName)) ∈ jv_T := jv_in 1006 (by decide +kernel) (by decide +kernel)
theorem mw_1007 : (Jvm.Cond.code ({ cls := "TemperNursesModel", name := "save", desc := "()V" } : Jvm.MethodName) prog_11_method_26_code (2 : Nat) (Option.none : Option Jvm.ClassFile.FieldType)) ∈ jv_T := jv_in 1007 (by decide +kernel) (by decide +kernel)
theorem mw_1009 : (Jvm.Cond.instanceMethod ({ cls := "TemperNursesModel", name := "fetches", desc := "(I)I" } : Jvm.MethodName)) ∈ jv_T := jv_in 1009 (by decide +kernel) (by decide +kernel)
theorem mw_1010 : (Jvm.Cond.selects "TemperNursesModel" ({ cls := "TemperNursesModel", name := "fetches", desc := "(I)I" } : Jvm.MethodName) ({ cls := "TemperNursesModel", name := "fetches", desc := "(I)I" } : Jvm.MethodName)) ∈ jv_T := jv_in 1010 (by decide +kernel) (by decide +kernel)
theorem mw_1011 : (Jvm.Cond.code ({ cls := "TemperNursesModel", name := "fetches", desc := "(I)I" } : Jvm.MethodName) prog_11_method_28_code (3 : Nat) (Option.some Jvm.ClassFile.FieldType.int)) ∈ jv_T := jv_in 1011 (by decide +kernel) (by decide +kernel)
theorem mw_1013 : (Jvm.Cond.instanceMethod ({ cls := "TemperNursesModel", name := "visits", desc := "(I)I" } : Jvm.MethodName)) ∈ jv_T := jv_in 1013 (by decide +kernel) (by decide +kernel)
theorem mw_1014 : (Jvm.Cond.selects "TemperNursesModel" ({ cls := "TemperNursesModel", name := "visits", desc := "(I)I" } : Jvm.MethodName) ({ cls := "TemperNursesModel", name := "visits", desc := "(I)I" } : Jvm.MethodName)) ∈ jv_T := jv_in 1014 (by decide +kernel) (by decide +kernel)
theorem mw_1015 : (Jvm.Cond.code ({ cls := "TemperNursesModel", name := "visits", desc := "(I)I" } : Jvm.MethodName) prog_11_method_29_code (2 : Nat) (Option.some Jvm.ClassFile.FieldType.int)) ∈ jv_T := jv_in 1015 (by decide +kernel) (by decide +kernel)
theorem mw_1017 : (Jvm.Cond.instanceMethod ({ cls := "TemperNursesModel", name := "mixes", desc := "(II)I" } : Jvm.MethodName)) ∈ jv_T := jv_in 1017 (by decide +kernel) (by decide +kernel)
theorem mw_1018 : (Jvm.Cond.selects "TemperNursesModel" ({ cls := "TemperNursesModel", name := "mixes", desc := "(II)I" } : Jvm.MethodName) ({ cls := "TemperNursesModel", name := "mixes", desc := "(II)I" } : Jvm.MethodName)) ∈ jv_T := jv_in 1018 (by decide +kernel) (by decide +kernel)
theorem mw_1019 : (Jvm.Cond.code ({ cls := "TemperNursesModel", name := "mixes", desc := "(II)I" } : Jvm.MethodName) prog_11_method_31_code (4 : Nat) (Option.some Jvm.ClassFile.FieldType.int)) ∈ jv_T := jv_in 1019 (by decide +kernel) (by decide +kernel)
theorem mw_1020 : (Jvm.Cond.methodLink "TemperNursesModel" (169 : Nat) ({ cls := "TemperNursesModel", name := "right", desc := "()I" } : Jvm.MethodName)) ∈ jv_T := jv_in 1020 (by decide +kernel) (by decide +kernel)
theorem mw_1022 : (Jvm.Cond.instanceMethod ({ cls := "TemperNursesModel", name := "right", desc := "()I" } : Jvm.MethodName)) ∈ jv_T := jv_in 1022 (by decide +kernel) (by decide +kernel)
theorem mw_1023 : (Jvm.Cond.code ({ cls := "TemperNursesModel", name := "right", desc := "()I" } : Jvm.MethodName) prog_11_method_30_code (4 : Nat) (Option.some Jvm.ClassFile.FieldType.int)) ∈ jv_T := jv_in 1023 (by decide +kernel) (by decide +kernel)
theorem mw_1025 : (Jvm.Cond.instanceMethod ({ cls := "TemperNursesModel", name := "years", desc := "(I)I" } : Jvm.MethodName)) ∈ jv_T := jv_in 1025 (by decide +kernel) (by decide +kernel)
theorem mw_1026 : (Jvm.Cond.selects "TemperNursesModel" ({ cls := "TemperNursesModel", name := "years", desc := "(I)I" } : Jvm.MethodName) ({ cls := "TemperNursesModel", name := "years", desc := "(I)I" } : Jvm.MethodName)) ∈ jv_T := jv_in 1026 (by decide +kernel) (by decide +kernel)
theorem mw_1027 : (Jvm.Cond.code ({ cls := "TemperNursesModel", name := "years", desc := "(I)I" } : Jvm.MethodName) prog_11_method_34_code (4 : Nat) (Option.some Jvm.ClassFile.FieldType.int)) ∈ jv_T := jv_in 1027 (by decide +kernel) (by decide +kernel)
theorem mw_1028 : (Jvm.Cond.constantLong "TemperNursesModel" (173 : Nat) (9 : Int64)) ∈ jv_T := jv_in 1028 (by decide +kernel) (by decide +kernel)
theorem mw_1029 : (Jvm.Cond.methodLink "TemperNursesModel" (175 : Nat) ({ cls := "TemperNursesModel", name := "aged", desc := "(III)I" } : Jvm.MethodName)) ∈ jv_T := jv_in 1029 (by decide +kernel) (by decide +kernel)
theorem mw_1031 : (Jvm.Cond.instanceMethod ({ cls := "TemperNursesModel", name := "aged", desc := "(III)I" } : Jvm.MethodName)) ∈ jv_T := jv_in 1031 (by decide +kernel) (by decide +kernel)
theorem mw_1032 : (Jvm.Cond.code ({ cls := "TemperNursesModel", name := "aged", desc := "(III)I" } : Jvm.MethodName) prog_11_method_32_code (6 : Nat) (Option.some Jvm.ClassFile.FieldType.int)) ∈ jv_T := jv_in 1032 (by decide +kernel) (by decide +kernel)
theorem mw_1033 : (Jvm.Cond.methodLink "TemperNursesModel" (179 : Nat) ({ cls := "TemperNursesModel", name := "broken", desc := "()I" } : Jvm.MethodName)) ∈ jv_T := jv_in 1033 (by decide +kernel) (by decide +kernel)
theorem mw_1035 : (Jvm.Cond.instanceMethod ({ cls := "TemperNursesModel", name := "broken", desc := "()I" } : Jvm.MethodName)) ∈ jv_T := jv_in 1035 (by decide +kernel) (by decide +kernel)
theorem mw_1036 : (Jvm.Cond.code ({ cls := "TemperNursesModel", name := "broken", desc := "()I" } : Jvm.MethodName) prog_11_method_33_code (3 : Nat) (Option.some Jvm.ClassFile.FieldType.int)) ∈ jv_T := jv_in 1036 (by decide +kernel) (by decide +kernel)
theorem mw_1038 : (Jvm.Cond.instanceMethod ({ cls := "TemperNursesModel", name := "undo", desc := "()I" } : Jvm.MethodName)) ∈ jv_T := jv_in 1038 (by decide +kernel) (by decide +kernel)
theorem mw_1039 : (Jvm.Cond.selects "TemperNursesModel" ({ cls := "TemperNursesModel", name := "undo", desc := "()I" } : Jvm.MethodName) ({ cls := "TemperNursesModel", name := "undo", desc := "()I" } : Jvm.MethodName)) ∈ jv_T := jv_in 1039 (by decide +kernel) (by decide +kernel)
theorem mw_1040 : (Jvm.Cond.code ({ cls := "TemperNursesModel", name := "undo", desc := "()I" } : Jvm.MethodName) prog_11_method_35_code (2 : Nat) (Option.some Jvm.ClassFile.FieldType.int)) ∈ jv_T := jv_in 1040 (by decide +kernel) (by decide +kernel)
theorem mw_1042 : (Jvm.Cond.instanceMethod ({ cls := "TemperNursesModel", name := "now", desc := "(I)I" } : Jvm.MethodName)) ∈ jv_T := jv_in 1042 (by decide +kernel) (by decide +kernel)
theorem mw_1043 : (Jvm.Cond.selects "TemperNursesModel" ({ cls := "TemperNursesModel", name := "now", desc := "(I)I" } : Jvm.MethodName) ({ cls := "TemperNursesModel", name := "now", desc := "(I)I" } : Jvm.MethodName)) ∈ jv_T := jv_in 1043 (by decide +kernel) (by decide +kernel)
theorem mw_1044 : (Jvm.Cond.code ({ cls := "TemperNursesModel", name := "now", desc := "(I)I" } : Jvm.MethodName) prog_11_method_36_code (4 : Nat) (Option.some Jvm.ClassFile.FieldType.int)) ∈ jv_T := jv_in 1044 (by decide +kernel) (by decide +kernel)
theorem mw_1045 : (Jvm.Cond.methodLink "TemperNursesModel" (182 : Nat) ({ cls := "TemperNursesModel", name := "soonest", desc := "()I" } : Jvm.MethodName)) ∈ jv_T := jv_in 1045 (by decide +kernel) (by decide +kernel)
theorem mw_1047 : (Jvm.Cond.instanceMethod ({ cls := "TemperNursesModel", name := "soonest", desc := "()I" } : Jvm.MethodName)) ∈ jv_T := jv_in 1047 (by decide +kernel) (by decide +kernel)
theorem mw_1048 : (Jvm.Cond.code ({ cls := "TemperNursesModel", name := "soonest", desc := "()I" } : Jvm.MethodName) prog_11_method_44_code (6 : Nat) (Option.some Jvm.ClassFile.FieldType.int)) ∈ jv_T := jv_in 1048 (by decide +kernel) (by decide +kernel)
theorem mw_1049 : (Jvm.Cond.constant "TemperNursesModel" (200 : Nat) (1000000 : Int32)) ∈ jv_T := jv_in 1049 (by decide +kernel) (by decide +kernel)
theorem mw_1050 : (Jvm.Cond.methodLink "TemperNursesModel" (185 : Nat) ({ cls := "TemperNursesModel", name := "whenBroken", desc := "(II)I" } : Jvm.MethodName)) ∈ jv_T := jv_in 1050 (by decide +kernel) (by decide +kernel)
theorem mw_1052 : (Jvm.Cond.instanceMethod ({ cls := "TemperNursesModel", name := "whenBroken", desc := "(II)I" } : Jvm.MethodName)) ∈ jv_T := jv_in 1052 (by decide +kernel) (by decide +kernel)
theorem mw_1053 : (Jvm.Cond.code ({ cls := "TemperNursesModel", name := "whenBroken", desc := "(II)I" } : Jvm.MethodName) prog_11_method_37_code (5 : Nat) (Option.some Jvm.ClassFile.FieldType.int)) ∈ jv_T := jv_in 1053 (by decide +kernel) (by decide +kernel)
theorem mw_1054 : (Jvm.Cond.methodLink "TemperNursesModel" (194 : Nat) ({ cls := "TemperNursesModel", name := "ways", desc := "()I" } : Jvm.MethodName)) ∈ jv_T := jv_in 1054 (by decide +kernel) (by decide +kernel)
theorem mw_1056 : (Jvm.Cond.instanceMethod ({ cls := "TemperNursesModel", name := "ways", desc := "()I" } : Jvm.MethodName)) ∈ jv_T := jv_in 1056 (by decide +kernel) (by decide +kernel)
theorem mw_1057 : (Jvm.Cond.code ({ cls := "TemperNursesModel", name := "ways", desc := "()I" } : Jvm.MethodName) prog_11_method_41_code (3 : Nat) (Option.some Jvm.ClassFile.FieldType.int)) ∈ jv_T := jv_in 1057 (by decide +kernel) (by decide +kernel)
theorem mw_1058 : (Jvm.Cond.methodLink "TemperNursesModel" (197 : Nat) ({ cls := "TemperNursesModel", name := "mayBe", desc := "(I)Z" } : Jvm.MethodName)) ∈ jv_T := jv_in 1058 (by decide +kernel) (by decide +kernel)
theorem mw_1060 : (Jvm.Cond.instanceMethod ({ cls := "TemperNursesModel", name := "mayBe", desc := "(I)Z" } : Jvm.MethodName)) ∈ jv_T := jv_in 1060 (by decide +kernel) (by decide +kernel)
theorem mw_1061 : (Jvm.Cond.code ({ cls := "TemperNursesModel", name := "mayBe", desc := "(I)Z" } : Jvm.MethodName) prog_11_method_42_code (6 : Nat) (Option.some Jvm.ClassFile.FieldType.boolean)) ∈ jv_T := jv_in 1061 (by decide +kernel) (by decide +kernel)
theorem mw_1063 : (Jvm.Cond.instanceMethod ({ cls := "TemperNursesModel", name := "when", desc := "(II)I" } : Jvm.MethodName)) ∈ jv_T := jv_in 1063 (by decide +kernel) (by decide +kernel)
theorem mw_1064 : (Jvm.Cond.selects "TemperNursesModel" ({ cls := "TemperNursesModel", name := "when", desc := "(II)I" } : Jvm.MethodName) ({ cls := "TemperNursesModel", name := "when", desc := "(II)I" } : Jvm.MethodName)) ∈ jv_T := jv_in 1064 (by decide +kernel) (by decide +kernel)
theorem mw_1065 : (Jvm.Cond.code ({ cls := "TemperNursesModel", name := "when", desc := "(II)I" } : Jvm.MethodName) prog_11_method_38_code (3 : Nat) (Option.some Jvm.ClassFile.FieldType.int)) ∈ jv_T := jv_in 1065 (by decide +kernel) (by decide +kernel)
theorem mw_1067 : (Jvm.Cond.instanceMethod ({ cls := "TemperNursesModel", name := "hot", desc := "(II)I" } : Jvm.MethodName)) ∈ jv_T := jv_in 1067 (by decide +kernel) (by decide +kernel)
theorem mw_1068 : (Jvm.Cond.selects "TemperNursesModel" ({ cls := "TemperNursesModel", name := "hot", desc := "(II)I" } : Jvm.MethodName) ({ cls := "TemperNursesModel", name := "hot", desc := "(II)I" } : Jvm.MethodName)) ∈ jv_T := jv_in 1068 (by decide +kernel) (by decide +kernel)
theorem mw_1069 : (Jvm.Cond.code ({ cls := "TemperNursesModel", name := "hot", desc := "(II)I" } : Jvm.MethodName) prog_11_method_40_code (3 : Nat) (Option.some Jvm.ClassFile.FieldType.int)) ∈ jv_T := jv_in 1069 (by decide +kernel) (by decide +kernel)
theorem mw_1070 : (Jvm.Cond.constantLong "TemperNursesModel" (189 : Nat) (99 : Int64)) ∈ jv_T := jv_in 1070 (by decide +kernel) (by decide +kernel)
theorem mw_1071 : (Jvm.Cond.methodLink "TemperNursesModel" (191 : Nat) ({ cls := "TemperNursesModel", name := "hotIn", desc := "(II)I" } : Jvm.MethodName)) ∈ jv_T := jv_in 1071 (by decide +kernel) (by decide +kernel)
theorem mw_1073 : (Jvm.Cond.instanceMethod ({ cls := "TemperNursesModel", name := "hotIn", desc := "(II)I" } : Jvm.MethodName)) ∈ jv_T := jv_in 1073 (by decide +kernel) (by decide +kernel)
theorem mw_1074 : (Jvm.Cond.code ({ cls := "TemperNursesModel", name := "hotIn", desc := "(II)I" } : Jvm.MethodName) prog_11_method_39_code (5 : Nat) (Option.some Jvm.ClassFile.FieldType.int)) ∈ jv_T := jv_in 1074 (by decide +kernel) (by decide +kernel)
theorem mw_1076 : (Jvm.Cond.instanceMethod ({ cls := "TemperNursesModel", name := "plan", desc := "(I)I" } : Jvm.MethodName)) ∈ jv_T := jv_in 1076 (by decide +kernel) (by decide +kernel)
theorem mw_1077 : (Jvm.Cond.selects "TemperNursesModel" ({ cls := "TemperNursesModel", name := "plan", desc := "(I)I" } : Jvm.MethodName) ({ cls := "TemperNursesModel", name := "plan", desc := "(I)I" } : Jvm.MethodName)) ∈ jv_T := jv_in 1077 (by decide +kernel) (by decide +kernel)
theorem mw_1078 : (Jvm.Cond.code ({ cls := "TemperNursesModel", name := "plan", desc := "(I)I" } : Jvm.MethodName) prog_11_method_43_code (6 : Nat) (Option.some Jvm.ClassFile.FieldType.int)) ∈ jv_T := jv_in 1078 (by decide +kernel) (by decide +kernel)
theorem mw_1080 : (Jvm.Cond.instanceMethod ({ cls := "TemperNursesModel", name := "best", desc := "(II)I" } : Jvm.MethodName)) ∈ jv_T := jv_in 1080 (by decide +kernel) (by decide +kernel)
theorem mw_1081 : (Jvm.Cond.selects "TemperNursesModel" ({ cls := "TemperNursesModel", name := "best", desc := "(II)I" } : Jvm.MethodName) ({ cls := "TemperNursesModel", name := "best", desc := "(II)I" } : Jvm.MethodName)) ∈ jv_T := jv_in 1081 (by decide +kernel) (by decide +kernel)
theorem mw_1082 : (Jvm.Cond.code ({ cls := "TemperNursesModel", name := "best", desc := "(II)I" } : Jvm.MethodName) prog_11_method_46_code (5 : Nat) (Option.some Jvm.ClassFile.FieldType.int)) ∈ jv_T := jv_in 1082 (by decide +kernel) (by decide +kernel)
theorem mw_1083 : (Jvm.Cond.constant "TemperNursesModel" (201 : Nat) (-1000000 : Int32)) ∈ jv_T := jv_in 1083 (by decide +kernel) (by decide +kernel)
theorem mw_1084 : (Jvm.Cond.methodLink "TemperNursesModel" (202 : Nat) ({ cls := "TemperNursesModel", name := "worthBehind", desc := "(II)I" } : Jvm.MethodName)) ∈ jv_T := jv_in 1084 (by decide +kernel) (by decide +kernel)
theorem mw_1086 : (Jvm.Cond.instanceMethod ({ cls := "TemperNursesModel", name := "worthBehind", desc := "(II)I" } : Jvm.MethodName)) ∈ jv_T := jv_in 1086 (by decide +kernel) (by decide +kernel)
theorem mw_1087 : (Jvm.Cond.code ({ cls := "TemperNursesModel", name := "worthBehind", desc := "(II)I" } : Jvm.MethodName) prog_11_method_45_code (5 : Nat) (Option.some Jvm.ClassFile.FieldType.int)) ∈ jv_T := jv_in 1087 (by decide +kernel) (by decide +kernel)
theorem mw_1089 : (Jvm.Cond.instanceMethod ({ cls := "TemperNursesModel", name := "beds", desc := "(II)I" } : Jvm.MethodName)) ∈ jv_T := jv_in 1089 (by decide +kernel) (by decide +kernel)
theorem mw_1090 : (Jvm.Cond.selects "TemperNursesModel" ({ cls := "TemperNursesModel", name := "beds", desc := "(II)I" } : Jvm.MethodName) ({ cls := "TemperNursesModel", name := "beds", desc := "(II)I" } : Jvm.MethodName)) ∈ jv_T := jv_in 1090 (by decide +kernel) (by decide +kernel)
theorem mw_1091 : (Jvm.Cond.code ({ cls := "TemperNursesModel", name := "beds", desc := "(II)I" } : Jvm.MethodName) prog_11_method_49_code (8 : Nat) (Option.some Jvm.ClassFile.FieldType.int)) ∈ jv_T := jv_in 1091 (by decide +kernel) (by decide +kernel)
theorem mw_1092 : (Jvm.Cond.constantLong "TemperNursesModel" (211 : Nat) (198 : Int64)) ∈ jv_T := jv_in 1092 (by decide +kernel) (by decide +kernel)
theorem mw_1093 : (Jvm.Cond.methodLink "TemperNursesModel" (213 : Nat) ({ cls := "TemperNursesModel", name := "bedsBy", desc := "(II)I" } : Jvm.MethodName)) ∈ jv_T := jv_in 1093 (by decide +kernel) (by decide +kernel)
theorem mw_1095 : (Jvm.Cond.instanceMethod ({ cls := "TemperNursesModel", name := "bedsBy", desc := "(II)I" } : Jvm.MethodName)) ∈ jv_T := jv_in 1095 (by decide +kernel) (by decide +kernel)
theorem mw_1096 : (Jvm.Cond.code ({ cls := "TemperNursesModel", name := "bedsBy", desc := "(II)I" } : Jvm.MethodName) prog_11_method_48_code (7 : Nat) (Option.some Jvm.ClassFile.FieldType.int)) ∈ jv_T := jv_in 1096 (by decide +kernel) (by decide +kernel)
theorem mw_1097 : (Jvm.Cond.methodLink "TemperNursesModel" (208 : Nat) ({ cls := "TemperNursesModel", name := "isBed", desc := "(III)Z" } : Jvm.MethodName)) ∈ jv_T := jv_in 1097 (by decide +kernel) (by decide +kernel)
theorem mw_1099 : (Jvm.Cond.instanceMethod ({ cls := "TemperNursesModel", name := "isBed", desc := "(III)Z" } : Jvm.MethodName)) ∈ jv_T := jv_in 1099 (by decide +kernel) (by decide +kernel)
theorem mw_1100 : (Jvm.Cond.code ({ cls := "TemperNursesModel", name := "isBed", desc := "(III)Z" } : Jvm.MethodName) prog_11_method_47_code (4 : Nat) (Option.some Jvm.ClassFile.FieldType.boolean)) ∈ jv_T := jv_in 1100 (by decide +kernel) (by decide +kernel)
theorem mw_1101 : (Jvm.Cond.methodLink "TemperNursesModel" (205 : Nat) ({ cls := "TemperNursesModel", name := "has", desc := "(II)Z" } : Jvm.MethodName)) ∈ jv_T := jv_in 1101 (by decide +kernel) (by decide +kernel)
theorem mw_1102 : (Jvm.Cond.static ({ cls := "TemperNursesModel", name := "has", desc := "(II)Z" } : Jvm.MethodName)) ∈ jv_T := jv_in 1102 (by decide +kernel) (by decide +kernel)
theorem mw_1103 : (Jvm.Cond.code ({ cls := "TemperNursesModel", name := "has", desc := "(II)Z" } : Jvm.MethodName) prog_11_method_4_code (2 : Nat) (Option.some Jvm.ClassFile.FieldType.boolean)) ∈ jv_T := jv_in 1103 (by decide +kernel) (by decide +kernel)
theorem mw_1105 : (Jvm.Cond.instanceMethod ({ cls := "TemperNursesModel", name := "odds", desc := "(III)I" } : Jvm.MethodName)) ∈ jv_T := jv_in 1105 (by decide +kernel) (by decide +kernel)
theorem mw_1106 : (Jvm.Cond.selects "TemperNursesModel" ({ cls := "TemperNursesModel", name := "odds", desc := "(III)I" } : Jvm.MethodName) ({ cls := "TemperNursesModel", name := "odds", desc := "(III)I" } : Jvm.MethodName)) ∈ jv_T := jv_in 1106 (by decide +kernel) (by decide +kernel)
theorem mw_1107 : (Jvm.Cond.code ({ cls := "TemperNursesModel", name := "odds", desc := "(III)I" } : Jvm.MethodName) prog_11_method_50_code (10 : Nat) (Option.some Jvm.ClassFile.FieldType.int)) ∈ jv_T := jv_in 1107 (by decide +kernel) (by decide +kernel)
theorem mw_1108 : (Jvm.Cond.constantLong "TemperNursesModel" (216 : Nat) (10 : Int64)) ∈ jv_T := jv_in 1108 (by decide +kernel) (by decide +kernel)
theorem mw_1110 : (Jvm.Cond.instanceMethod ({ cls := "TemperNursesModel", name := "hears", desc := "(II)I" } : Jvm.MethodName)) ∈ jv_T := jv_in 1110 (by decide +kernel) (by decide +kernel)
theorem mw_1111 : (Jvm.Cond.selects "TemperNursesModel" ({ cls := "TemperNursesModel", name := "hears", desc := "(II)I" } : Jvm.MethodName) ({ cls := "TemperNursesModel", name := "hears", desc := "(II)I" } : Jvm.MethodName)) ∈ jv_T := jv_in 1111 (by decide +kernel) (by decide +kernel)
theorem mw_1112 : (Jvm.Cond.code ({ cls := "TemperNursesModel", name := "hears", desc := "(II)I" } : Jvm.MethodName) prog_11_method_51_code (3 : Nat) (Option.some Jvm.ClassFile.FieldType.int)) ∈ jv_T := jv_in 1112 (by decide +kernel) (by decide +kernel)
theorem mw_1114 : (Jvm.Cond.instanceMethod ({ cls := "TemperNursesModel", name := "forget", desc := "()I" } : Jvm.MethodName)) ∈ jv_T := jv_in 1114 (by decide +kernel) (by decide +kernel)
theorem mw_1115 : (Jvm.Cond.selects "TemperNursesModel" ({ cls := "TemperNursesModel", name := "forget", desc := "()I" } : Jvm.MethodName) ({ cls := "TemperNursesModel", name := "forget", desc := "()I" } : Jvm.MethodName)) ∈ jv_T := jv_in 1115 (by decide +kernel) (by decide +kernel)
theorem mw_1116 : (Jvm.Cond.code ({ cls := "TemperNursesModel", name := "forget", desc := "()I" } : Jvm.MethodName) prog_11_method_52_code (2 : Nat) (Option.some Jvm.ClassFile.FieldType.int)) ∈ jv_T := jv_in 1116 (by decide +kernel) (by decide +kernel)
theorem mw_1118 : (Jvm.Cond.instanceMethod ({ cls := "TemperNursesModel", name := "whose", desc := "()I" } : Jvm.MethodName)) ∈ jv_T := jv_in 1118 (by decide +kernel) (by decide +kernel)
theorem mw_1119 : (Jvm.Cond.selects "TemperNursesModel" ({ cls := "TemperNursesModel", name := "whose", desc := "()I" } : Jvm.MethodName) ({ cls := "TemperNursesModel", name := "whose", desc := "()I" } : Jvm.MethodName)) ∈ jv_T := jv_in 1119 (by decide +kernel) (by decide +kernel)
theorem mw_1120 : (Jvm.Cond.code ({ cls := "TemperNursesModel", name := "whose", desc := "()I" } : Jvm.MethodName) prog_11_method_53_code (5 : Nat) (Option.some Jvm.ClassFile.FieldType.int)) ∈ jv_T := jv_in 1120 (by decide +kernel) (by decide +kernel)
theorem mw_1122 : (Jvm.Cond.instanceMethod ({ cls := "TemperNursesModel", name := "ask", desc := "()I" } : Jvm.MethodName)) ∈ jv_T := jv_in 1122 (by decide +kernel) (by decide +kernel)
theorem mw_1123 : (Jvm.Cond.selects "TemperNursesModel" ({ cls := "TemperNursesModel", name := "ask", desc := "()I" } : Jvm.MethodName) ({ cls := "TemperNursesModel", name := "ask", desc := "()I" } : Jvm.MethodName)) ∈ jv_T := jv_in 1123 (by decide +kernel) (by decide +kernel)
theorem mw_1124 : (Jvm.Cond.code ({ cls := "TemperNursesModel", name := "ask", desc := "()I" } : Jvm.MethodName) prog_11_method_54_code (8 : Nat) (Option.some Jvm.ClassFile.FieldType.int)) ∈ jv_T := jv_in 1124 (by decide +kernel) (by decide +kernel)
theorem mw_1125 : (Jvm.Cond.methodLink "TemperNursesModel" (218 : Nat) ({ cls := "TemperNursesModel", name := "whose", desc := "()I" } : Jvm.MethodName)) ∈ jv_T := jv_in 1125 (by decide +kernel) (by decide +kernel)
theorem mw_1127 : (Jvm.Cond.instanceMethod ({ cls := "TemperNursesModel", name := "mark", desc := "(II)I" } : Jvm.MethodName)) ∈ jv_T := jv_in 1127 (by decide +kernel) (by decide +kernel)
theorem mw_1128 : (Jvm.Cond.selects "TemperNursesModel" ({ cls := "TemperNursesModel", name := "mark", desc := "(II)I" } : Jvm.MethodName) ({ cls := "TemperNursesModel", name := "mark", desc := "(II)I" } : Jvm.MethodName)) ∈ jv_T := jv_in 1128 (by decide +kernel) (by decide +kernel)
theorem mw_1129 : (Jvm.Cond.code ({ cls := "TemperNursesModel", name := "mark", desc := "(II)I" } : Jvm.MethodName) prog_11_method_57_code (3 : Nat) (Option.some Jvm.ClassFile.FieldType.int)) ∈ jv_T := jv_in 1129 (by decide +kernel) (by decide +kernel)
theorem mw_1130 : (Jvm.Cond.constantLong "TemperNursesModel" (236 : Nat) (5 : Int64)) ∈ jv_T := jv_in 1130 (by decide +kernel) (by decide +kernel)
theorem mw_1131 : (Jvm.Cond.methodLink "TemperNursesModel" (238 : Nat) ({ cls := "TemperNursesModel", name := "markAs", desc := "(II)I" } : Jvm.MethodName)) ∈ jv_T := jv_in 1131 (by decide +kernel) (by decide +kernel)
theorem mw_1133 : (Jvm.Cond.instanceMethod ({ cls := "TemperNursesModel", name := "markAs", desc := "(II)I" } : Jvm.MethodName)) ∈ jv_T := jv_in 1133 (by decide +kernel) (by decide +kernel)
theorem mw_1134 : (Jvm.Cond.code ({ cls := "TemperNursesModel", name := "markAs", desc := "(II)I" } : Jvm.MethodName) prog_11_method_55_code (3 : Nat) (Option.some Jvm.ClassFile.FieldType.int)) ∈ jv_T := jv_in 1134 (by decide +kernel) (by decide +kernel)
theorem mw_1135 : (Jvm.Cond.methodLink "TemperNursesModel" (225 : Nat) ({ cls := "TemperNursesModel", name := "markAs0", desc := "(I)I" } : Jvm.MethodName)) ∈ jv_T := jv_in 1135 (by decide +kernel) (by decide +kernel)
theorem mw_1137 : (Jvm.Cond.instanceMethod ({ cls := "TemperNursesModel", name := "markAs0", desc := "(I)I" } : Jvm.MethodName)) ∈ jv_T := jv_in 1137 (by decide +kernel) (by decide +kernel)
theorem mw_1138 : (Jvm.Cond.code ({ cls := "TemperNursesModel", name := "markAs0", desc := "(I)I" } : Jvm.MethodName) prog_11_method_56_code (2 : Nat) (Option.some Jvm.ClassFile.FieldType.int)) ∈ jv_T := jv_in 1138 (by decide +kernel) (by decide +kernel)
theorem mw_1139 : (Jvm.Cond.constantLong "TemperNursesModel" (228 : Nat) (100 : Int64)) ∈ jv_T := jv_in 1139 (by decide +kernel) (by decide +kernel)
theorem mw_1140 : (Jvm.Cond.constantLong "TemperNursesModel" (230 : Nat) (1010 : Int64)) ∈ jv_T := jv_in 1140 (by decide +kernel) (by decide +kernel)
theorem mw_1141 : (Jvm.Cond.constantLong "TemperNursesModel" (232 : Nat) (10100 : Int64)) ∈ jv_T := jv_in 1141 (by decide +kernel) (by decide +kernel)
theorem mw_1142 : (Jvm.Cond.constantLong "TemperNursesModel" (234 : Nat) (100000 : Int64)) ∈ jv_T := jv_in 1142 (by decide +kernel) (by decide +kernel)
theorem mw_1144 : (Jvm.Cond.instanceMethod ({ cls := "TemperNursesModel", name := "keep", desc := "(I)I" } : Jvm.MethodName)) ∈ jv_T := jv_in 1144 (by decide +kernel) (by decide +kernel)
theorem mw_1145 : (Jvm.Cond.selects "TemperNursesModel" ({ cls := "TemperNursesModel", name := "keep", desc := "(I)I" } : Jvm.MethodName) ({ cls := "TemperNursesModel", name := "keep", desc := "(I)I" } : Jvm.MethodName)) ∈ jv_T := jv_in 1145 (by decide +kernel) (by decide +kernel)
theorem mw_1146 : (Jvm.Cond.code ({ cls := "TemperNursesModel", name := "keep", desc := "(I)I" } : Jvm.MethodName) prog_11_method_58_code (3 : Nat) (Option.some Jvm.ClassFile.FieldType.int)) ∈ jv_T := jv_in 1146 (by decide +kernel) (by decide +kernel)
theorem mw_1148 : (Jvm.Cond.instanceMethod ({ cls := "TemperNursesModel", name := "back", desc := "(I)I" } : Jvm.MethodName)) ∈ jv_T := jv_in 1148 (by decide +kernel) (by decide +kernel)
theorem mw_1149 : (Jvm.Cond.selects "TemperNursesModel" ({ cls := "TemperNursesModel", name := "back", desc := "(I)I" } : Jvm.MethodName) ({ cls := "TemperNursesModel", name := "back", desc := "(I)I" } : Jvm.MethodName)) ∈ jv_T := jv_in 1149 (by decide +kernel) (by decide +kernel)
theorem mw_1150 : (Jvm.Cond.code ({ cls := "TemperNursesModel", name := "back", desc := "(I)I" } : Jvm.MethodName) prog_11_method_59_code (3 : Nat) (Option.some Jvm.ClassFile.FieldType.int)) ∈ jv_T := jv_in 1150 (by decide +kernel) (by decide +kernel)
theorem mw_1152 : (Jvm.Cond.instanceMethod ({ cls := "TemperNursesModel", name := "count", desc := "(I)I" } : Jvm.MethodName)) ∈ jv_T := jv_in 1152 (by decide +kernel) (by decide +kernel)
theorem mw_1153 : (Jvm.Cond.selects "TemperNursesModel" ({ cls := "TemperNursesModel", name := "count", desc := "(I)I" } : Jvm.MethodName) ({ cls := "TemperNursesModel", name := "count", desc := "(I)I" } : Jvm.MethodName)) ∈ jv_T := jv_in 1153 (by decide +kernel) (by decide +kernel)
theorem mw_1154 : (Jvm.Cond.code ({ cls := "TemperNursesModel", name := "count", desc := "(I)I" } : Jvm.MethodName) prog_11_method_60_code (2 : Nat) (Option.some Jvm.ClassFile.FieldType.int)) ∈ jv_T := jv_in 1154 (by decide +kernel) (by decide +kernel)
theorem mw_1156 : (Jvm.Cond.instanceMethod ({ cls := "TemperNursesModel", name := "trace", desc := "()J" } : Jvm.MethodName)) ∈ jv_T := jv_in 1156 (by decide +kernel) (by decide +kernel)
theorem mw_1157 : (Jvm.Cond.selects "TemperNursesModel" ({ cls := "TemperNursesModel", name := "trace", desc := "()J" } : Jvm.MethodName) ({ cls := "TemperNursesModel", name := "trace", desc := "()J" } : Jvm.MethodName)) ∈ jv_T := jv_in 1157 (by decide +kernel) (by decide +kernel)
theorem mw_1158 : (Jvm.Cond.code ({ cls := "TemperNursesModel", name := "trace", desc := "()J" } : Jvm.MethodName) prog_11_method_61_code (1 : Nat) (Option.some Jvm.ClassFile.FieldType.long)) ∈ jv_T := jv_in 1158 (by decide +kernel) (by decide +kernel)
def jv_ns : List Cond := [(Jvm.Cond.methodLinkNest "TemperNurses" (9 : Nat) ({ cls := "TemperNurses$Hill", name := "<init>", desc := "()V" } : Jvm.MethodName) "TemperNurses"), (Jvm.Cond.methodLinkNest "TemperNurses" (18 : Nat) ({ cls := "TemperNurses$TextReader", name := "<init>", desc := "()V" } : Jvm.MethodName) "TemperNurses"), (Jvm.Cond.methodLinkNest "TemperNurses$TextReader" (11 : Nat) ({ cls := "TemperNurses$Hill", name := "<init>", desc := "()V" } : Jvm.MethodName) "TemperNurses"), (Jvm.Cond.methodLinkNest "TemperNurses" (25 : Nat) ({ cls := "TemperNurses$Course", name := "<init>", desc := "()V" } : Jvm.MethodName) "TemperNurses"), (Jvm.Cond.methodLinkNest "TemperNurses$TextReader" (76 : Nat) ({ cls := "TemperNurses", name := "isWithin", desc := "(III)Z" } : Jvm.MethodName) "TemperNurses"), (Jvm.Cond.methodLinkNest "TemperNurses$Hill" (50 : Nat) ({ cls := "TemperNurses", name := "bit", desc := "(I)I" } : Jvm.MethodName) "TemperNurses"), (Jvm.Cond.methodLinkNest "TemperNurses$House" (31 : Nat) ({ cls := "TemperNurses", name := "bit", desc := "(I)I" } : Jvm.MethodName) "TemperNurses"), (Jvm.Cond.methodLinkNest "TemperNurses$Planner" (76 : Nat) ({ cls := "TemperNurses", name := "bit", desc := "(I)I" } : Jvm.MethodName) "TemperNurses"), (Jvm.Cond.methodLinkNest "TemperNurses$BedMaker" (63 : Nat) ({ cls := "TemperNurses", name := "bit", desc := "(I)I" } : Jvm.MethodName) "TemperNurses"), (Jvm.Cond.methodLinkNest "TemperNurses$Listener" (51 : Nat) ({ cls := "TemperNurses", name := "bit", desc := "(I)I" } : Jvm.MethodName) "TemperNurses")]
theorem jv_ns_ok : ∀ w ∈ jv_ns, ∃ (a : String) (i : Nat) (x : MethodName) (h : String), w = .methodLinkNest a i x h := by
  intro w hw
  simp only [jv_ns, List.mem_cons, List.not_mem_nil, or_false] at hw
  rcases hw with rfl | rfl | rfl | rfl | rfl | rfl | rfl | rfl | rfl | rfl <;> exact ⟨_, _, _, _, rfl⟩
theorem iw_X0 : ∀ w ∈ u_ws RX0 TX0 5, w ∈ jv_T := (List.forall_mem_cons.mpr ⟨mw_253, List.forall_mem_cons.mpr ⟨mw_255, List.forall_mem_cons.mpr ⟨mw_257, List.forall_mem_cons.mpr ⟨mw_259, List.forall_mem_cons.mpr ⟨mw_261, fun _ h => absurd h List.not_mem_nil⟩⟩⟩⟩⟩ : ∀ w ∈ ([(Jvm.Cond.laysFinal "TemperNurses$BedMaker" "TemperNurses$BedMaker" "house" "LTemperNurses$House;"), (Jvm.Cond.laysFinal "TemperNurses$BedMaker" "TemperNurses$BedMaker" "tried" "[I"), (Jvm.Cond.lays "TemperNurses$BedMaker" "TemperNurses$BedMaker" "limit" "I"), (Jvm.Cond.laysFinal "TemperNurses$BedMaker" "TemperNurses$BedMaker" "chosen" "[I"), (Jvm.Cond.lays "TemperNurses$BedMaker" "TemperNurses$BedMaker" "most" "I")] : List Cond), w ∈ jv_T)
theorem iw_X1 : ∀ w ∈ u_ws RX1 TX1 2, w ∈ jv_T := (List.forall_mem_cons.mpr ⟨mw_184, List.forall_mem_cons.mpr ⟨mw_186, fun _ h => absurd h List.not_mem_nil⟩⟩ : ∀ w ∈ ([(Jvm.Cond.laysFinal "TemperNurses$Course" "TemperNurses$Course" "rows" "[I"), (Jvm.Cond.lays "TemperNurses$Course" "TemperNurses$Course" "past" "I")] : List Cond), w ∈ jv_T)
theorem iw_X2 : ∀ w ∈ u_ws RX2 TX2 9, w ∈ jv_T := (List.forall_mem_cons.mpr ⟨mw_114, List.forall_mem_cons.mpr ⟨mw_116, List.forall_mem_cons.mpr ⟨mw_118, List.forall_mem_cons.mpr ⟨mw_120, List.forall_mem_cons.mpr ⟨mw_122, List.forall_mem_cons.mpr ⟨mw_124, List.forall_mem_cons.mpr ⟨mw_126, List.forall_mem_cons.mpr ⟨mw_128, List.forall_mem_cons.mpr ⟨mw_130, fun _ h => absurd h List.not_mem_nil⟩⟩⟩⟩⟩⟩⟩⟩⟩ : ∀ w ∈ ([(Jvm.Cond.lays "TemperNurses$Hill" "TemperNurses$Hill" "tempers" "I"), (Jvm.Cond.lays "TemperNurses$Hill" "TemperNurses$Hill" "nurses" "I"), (Jvm.Cond.laysFinal "TemperNurses$Hill" "TemperNurses$Hill" "heats" "[I"), (Jvm.Cond.laysFinal "TemperNurses$Hill" "TemperNurses$Hill" "grows" "[I"), (Jvm.Cond.laysFinal "TemperNurses$Hill" "TemperNurses$Hill" "dues" "[I"), (Jvm.Cond.laysFinal "TemperNurses$Hill" "TemperNurses$Hill" "clashes" "[I"), (Jvm.Cond.laysFinal "TemperNurses$Hill" "TemperNurses$Hill" "tames" "[I"), (Jvm.Cond.laysFinal "TemperNurses$Hill" "TemperNurses$Hill" "rooms" "[I"), (Jvm.Cond.laysFinal "TemperNurses$Hill" "TemperNurses$Hill" "holds" "[I")] : List Cond), w ∈ jv_T)
theorem iw_X3 : ∀ w ∈ u_ws RX3 TX3 2, w ∈ jv_T := (List.forall_mem_cons.mpr ⟨mw_205, List.forall_mem_cons.mpr ⟨mw_207, fun _ h => absurd h List.not_mem_nil⟩⟩ : ∀ w ∈ ([(Jvm.Cond.laysFinal "TemperNurses$House" "TemperNurses$House" "told" "LTemperNurses$Hill;"), (Jvm.Cond.laysFinal "TemperNurses$House" "TemperNurses$House" "course" "LTemperNurses$Course;")] : List Cond), w ∈ jv_T)
theorem iw_X4 : ∀ w ∈ u_ws RX4 TX4 2, w ∈ jv_T := (List.forall_mem_cons.mpr ⟨mw_293, List.forall_mem_cons.mpr ⟨mw_295, fun _ h => absurd h List.not_mem_nil⟩⟩ : ∀ w ∈ ([(Jvm.Cond.laysFinal "TemperNurses$Kinds" "TemperNurses$Kinds" "house" "LTemperNurses$House;"), (Jvm.Cond.lays "TemperNurses$Kinds" "TemperNurses$Kinds" "traced" "J")] : List Cond), w ∈ jv_T)
theorem iw_X5 : ∀ w ∈ u_ws RX5 TX5 4, w ∈ jv_T := (List.forall_mem_cons.mpr ⟨mw_275, List.forall_mem_cons.mpr ⟨mw_277, List.forall_mem_cons.mpr ⟨mw_279, List.forall_mem_cons.mpr ⟨mw_281, fun _ h => absurd h List.not_mem_nil⟩⟩⟩⟩ : ∀ w ∈ ([(Jvm.Cond.laysFinal "TemperNurses$Listener" "TemperNurses$Listener" "house" "LTemperNurses$House;"), (Jvm.Cond.laysFinal "TemperNurses$Listener" "TemperNurses$Listener" "bangsAt" "[I"), (Jvm.Cond.laysFinal "TemperNurses$Listener" "TemperNurses$Listener" "bangs" "[I"), (Jvm.Cond.lays "TemperNurses$Listener" "TemperNurses$Listener" "heard" "I")] : List Cond), w ∈ jv_T)
theorem iw_X6 : ∀ w ∈ u_ws RX6 TX6 7, w ∈ jv_T := (List.forall_mem_cons.mpr ⟨mw_225, List.forall_mem_cons.mpr ⟨mw_227, List.forall_mem_cons.mpr ⟨mw_229, List.forall_mem_cons.mpr ⟨mw_231, List.forall_mem_cons.mpr ⟨mw_233, List.forall_mem_cons.mpr ⟨mw_235, List.forall_mem_cons.mpr ⟨mw_237, fun _ h => absurd h List.not_mem_nil⟩⟩⟩⟩⟩⟩⟩ : ∀ w ∈ ([(Jvm.Cond.laysFinal "TemperNurses$Planner" "TemperNurses$Planner" "house" "LTemperNurses$House;"), (Jvm.Cond.laysFinal "TemperNurses$Planner" "TemperNurses$Planner" "tried" "[I"), (Jvm.Cond.laysFinal "TemperNurses$Planner" "TemperNurses$Planner" "having" "[I"), (Jvm.Cond.laysFinal "TemperNurses$Planner" "TemperNurses$Planner" "yearsBy" "[I"), (Jvm.Cond.lays "TemperNurses$Planner" "TemperNurses$Planner" "fewestYears" "I"), (Jvm.Cond.laysFinal "TemperNurses$Planner" "TemperNurses$Planner" "chosen" "[I"), (Jvm.Cond.lays "TemperNurses$Planner" "TemperNurses$Planner" "most" "I")] : List Cond), w ∈ jv_T)
theorem iw_X7 : ∀ w ∈ u_ws RX7 TX7 10, w ∈ jv_T := (List.forall_mem_cons.mpr ⟨mw_154, List.forall_mem_cons.mpr ⟨mw_156, List.forall_mem_cons.mpr ⟨mw_158, List.forall_mem_cons.mpr ⟨mw_160, List.forall_mem_cons.mpr ⟨mw_162, List.forall_mem_cons.mpr ⟨mw_164, List.forall_mem_cons.mpr ⟨mw_166, List.forall_mem_cons.mpr ⟨mw_168, List.forall_mem_cons.mpr ⟨mw_170, List.forall_mem_cons.mpr ⟨mw_172, fun _ h => absurd h List.not_mem_nil⟩⟩⟩⟩⟩⟩⟩⟩⟩⟩ : ∀ w ∈ ([(Jvm.Cond.laysFinal "TemperNurses$TextReader" "TemperNurses$TextReader" "draft" "LTemperNurses$Hill;"), (Jvm.Cond.lays "TemperNurses$TextReader" "TemperNurses$TextReader" "length" "I"), (Jvm.Cond.laysFinal "TemperNurses$TextReader" "TemperNurses$TextReader" "bytes" "[I"), (Jvm.Cond.lays "TemperNurses$TextReader" "TemperNurses$TextReader" "kind" "I"), (Jvm.Cond.lays "TemperNurses$TextReader" "TemperNurses$TextReader" "start" "I"), (Jvm.Cond.lays "TemperNurses$TextReader" "TemperNurses$TextReader" "next" "I"), (Jvm.Cond.lays "TemperNurses$TextReader" "TemperNurses$TextReader" "value" "I"), (Jvm.Cond.lays "TemperNurses$TextReader" "TemperNurses$TextReader" "item" "I"), (Jvm.Cond.lays "TemperNurses$TextReader" "TemperNurses$TextReader" "toldSoFar" "I"), (Jvm.Cond.laysFinal "TemperNurses$TextReader" "TemperNurses$TextReader" "numbers" "[I")] : List Cond), w ∈ jv_T)
theorem iw_X8 : ∀ w ∈ u_ws RX8 TX8 12, w ∈ jv_T := (List.forall_mem_cons.mpr ⟨mw_334, List.forall_mem_cons.mpr ⟨mw_336, List.forall_mem_cons.mpr ⟨mw_338, List.forall_mem_cons.mpr ⟨mw_340, List.forall_mem_cons.mpr ⟨mw_342, List.forall_mem_cons.mpr ⟨mw_344, List.forall_mem_cons.mpr ⟨mw_346, List.forall_mem_cons.mpr ⟨mw_348, List.forall_mem_cons.mpr ⟨mw_350, List.forall_mem_cons.mpr ⟨mw_352, List.forall_mem_cons.mpr ⟨mw_354, List.forall_mem_cons.mpr ⟨mw_356, fun _ h => absurd h List.not_mem_nil⟩⟩⟩⟩⟩⟩⟩⟩⟩⟩⟩⟩ : ∀ w ∈ ([(Jvm.Cond.laysFinal "TemperNurses" "TemperNurses" "told" "LTemperNurses$Hill;"), (Jvm.Cond.laysFinal "TemperNurses" "TemperNurses" "reader" "LTemperNurses$TextReader;"), (Jvm.Cond.laysFinal "TemperNurses" "TemperNurses" "course" "LTemperNurses$Course;"), (Jvm.Cond.laysFinal "TemperNurses" "TemperNurses" "house" "LTemperNurses$House;"), (Jvm.Cond.laysFinal "TemperNurses" "TemperNurses" "planner" "LTemperNurses$Planner;"), (Jvm.Cond.laysFinal "TemperNurses" "TemperNurses" "bedMaker" "LTemperNurses$BedMaker;"), (Jvm.Cond.laysFinal "TemperNurses" "TemperNurses" "listener" "LTemperNurses$Listener;"), (Jvm.Cond.laysFinal "TemperNurses" "TemperNurses" "kinds" "LTemperNurses$Kinds;"), (Jvm.Cond.laysFinal "TemperNurses" "TemperNurses" "image0" "LTemperNurses$Course;"), (Jvm.Cond.laysFinal "TemperNurses" "TemperNurses" "image1" "LTemperNurses$Course;"), (Jvm.Cond.laysFinal "TemperNurses" "TemperNurses" "kept" "[Z"), (Jvm.Cond.laysFinal "TemperNurses" "TemperNurses" "looseWays" "[I")] : List Cond), w ∈ jv_T)
theorem iw_X9 : ∀ w ∈ u_ws RX9 TX9 31, w ∈ jv_T := (List.forall_mem_cons.mpr ⟨mw_848, List.forall_mem_cons.mpr ⟨mw_850, List.forall_mem_cons.mpr ⟨mw_852, List.forall_mem_cons.mpr ⟨mw_854, List.forall_mem_cons.mpr ⟨mw_856, List.forall_mem_cons.mpr ⟨mw_858, List.forall_mem_cons.mpr ⟨mw_860, List.forall_mem_cons.mpr ⟨mw_862, List.forall_mem_cons.mpr ⟨mw_864, List.forall_mem_cons.mpr ⟨mw_866, List.forall_mem_cons.mpr ⟨mw_868, List.forall_mem_cons.mpr ⟨mw_870, List.forall_mem_cons.mpr ⟨mw_872, List.forall_mem_cons.mpr ⟨mw_874, List.forall_mem_cons.mpr ⟨mw_876, List.forall_mem_cons.mpr ⟨mw_878, List.forall_mem_cons.mpr ⟨mw_880, List.forall_mem_cons.mpr ⟨mw_882, List.forall_mem_cons.mpr ⟨mw_884, List.forall_mem_cons.mpr ⟨mw_886, List.forall_mem_cons.mpr ⟨mw_888, List.forall_mem_cons.mpr ⟨mw_890, List.forall_mem_cons.mpr ⟨mw_892, List.forall_mem_cons.mpr ⟨mw_894, List.forall_mem_cons.mpr ⟨mw_896, List.forall_mem_cons.mpr ⟨mw_898, List.forall_mem_cons.mpr ⟨mw_900, List.forall_mem_cons.mpr ⟨mw_902, List.forall_mem_cons.mpr ⟨mw_904, List.forall_mem_cons.mpr ⟨mw_906, List.forall_mem_cons.mpr ⟨mw_908, fun _ h => absurd h List.not_mem_nil⟩⟩⟩⟩⟩⟩⟩⟩⟩⟩⟩⟩⟩⟩⟩⟩⟩⟩⟩⟩⟩⟩⟩⟩⟩⟩⟩⟩⟩⟩⟩ : ∀ w ∈ ([(Jvm.Cond.lays "TemperNursesModel" "TemperNursesModel" "many" "I"), (Jvm.Cond.lays "TemperNursesModel" "TemperNursesModel" "nurses" "I"), (Jvm.Cond.laysFinal "TemperNursesModel" "TemperNursesModel" "grows" "[I"), (Jvm.Cond.laysFinal "TemperNursesModel" "TemperNursesModel" "due" "[I"), (Jvm.Cond.laysFinal "TemperNursesModel" "TemperNursesModel" "clash" "[I"), (Jvm.Cond.laysFinal "TemperNursesModel" "TemperNursesModel" "tames" "[I"), (Jvm.Cond.laysFinal "TemperNursesModel" "TemperNursesModel" "room" "[I"), (Jvm.Cond.laysFinal "TemperNursesModel" "TemperNursesModel" "holds" "[I"), (Jvm.Cond.laysFinal "TemperNursesModel" "TemperNursesModel" "all" "[I"), (Jvm.Cond.laysFinal "TemperNursesModel" "TemperNursesModel" "kept" "[I"), (Jvm.Cond.laysFinal "TemperNursesModel" "TemperNursesModel" "isKept" "[Z"), (Jvm.Cond.laysFinal "TemperNursesModel" "TemperNursesModel" "heardAt" "[I"), (Jvm.Cond.laysFinal "TemperNursesModel" "TemperNursesModel" "heardBang" "[I"), (Jvm.Cond.lays "TemperNursesModel" "TemperNursesModel" "heard" "I"), (Jvm.Cond.lays "TemperNursesModel" "TemperNursesModel" "trace" "J"), (Jvm.Cond.laysFinal "TemperNursesModel" "TemperNursesModel" "text" "[I"), (Jvm.Cond.lays "TemperNursesModel" "TemperNursesModel" "textLong" "I"), (Jvm.Cond.lays "TemperNursesModel" "TemperNursesModel" "token" "I"), (Jvm.Cond.lays "TemperNursesModel" "TemperNursesModel" "tokenAt" "I"), (Jvm.Cond.lays "TemperNursesModel" "TemperNursesModel" "tokenEnd" "I"), (Jvm.Cond.lays "TemperNursesModel" "TemperNursesModel" "value" "I"), (Jvm.Cond.lays "TemperNursesModel" "TemperNursesModel" "newMany" "I"), (Jvm.Cond.lays "TemperNursesModel" "TemperNursesModel" "newNurses" "I"), (Jvm.Cond.laysFinal "TemperNursesModel" "TemperNursesModel" "newTold" "[I"), (Jvm.Cond.laysFinal "TemperNursesModel" "TemperNursesModel" "values" "[I"), (Jvm.Cond.laysFinal "TemperNursesModel" "TemperNursesModel" "goes" "[I"), (Jvm.Cond.laysFinal "TemperNursesModel" "TemperNursesModel" "bestGoes" "[I"), (Jvm.Cond.laysFinal "TemperNursesModel" "TemperNursesModel" "group" "[I"), (Jvm.Cond.laysFinal "TemperNursesModel" "TemperNursesModel" "breaks" "[I"), (Jvm.Cond.laysFinal "TemperNursesModel" "TemperNursesModel" "with" "[I"), (Jvm.Cond.laysFinal "TemperNursesModel" "TemperNursesModel" "bestWith" "[I")] : List Cond), w ∈ jv_T)
def jv_fl (own : String) (ix ci j : Nat) (fin : Bool) (ty : FieldType) : Prop := ∃ (C : String) (T : u_T) (N : Nat) (ty0 : Nat → FieldType), vwCl[ci]? = some (C, T, N) ∧ j < N ∧ (∀ w ∈ u_ws C T N, w ∈ jv_T) ∧ Cond.fieldLink own ix (T j).1 (T j).2.1 (T j).2.2.1 ∈ jv_T ∧ (T j).2.2.2 = fin ∧ parseFieldDescriptor (T j).2.2.1 = some ty ∧ (∀ k, k < N → parseFieldDescriptor (T k).2.2.1 = some (ty0 k)) ∧ (∀ a, a < N → ∀ b, b < N → a ≠ b → (T a).2.1 ≠ (T b).2.1)
theorem fl_X2_33 : jv_fl RX2 33 2 0 false .int := ⟨RX2, TX2, 9, tyX2, rfl, by decide, iw_X2, mw_81, rfl, by decide +kernel, tyX2_ok, nmX2⟩
theorem fl_X3_19 : jv_fl RX3 19 2 0 false .int := ⟨RX2, TX2, 9, tyX2, rfl, by decide, iw_X2, mw_82, rfl, by decide +kernel, tyX2_ok, nmX2⟩
theorem fl_X0_45 : jv_fl RX0 45 2 0 false .int := ⟨RX2, TX2, 9, tyX2, rfl, by decide, iw_X2, mw_83, rfl, by decide +kernel, tyX2_ok, nmX2⟩
theorem fl_X6_48 : jv_fl RX6 48 2 0 false .int := ⟨RX2, TX2, 9, tyX2, rfl, by decide, iw_X2, mw_84, rfl, by decide +kernel, tyX2_ok, nmX2⟩
theorem fl_X5_32 : jv_fl RX5 32 2 0 false .int := ⟨RX2, TX2, 9, tyX2, rfl, by decide, iw_X2, mw_85, rfl, by decide +kernel, tyX2_ok, nmX2⟩
theorem fl_X7_70 : jv_fl RX7 70 2 0 false .int := ⟨RX2, TX2, 9, tyX2, rfl, by decide, iw_X2, mw_86, rfl, by decide +kernel, tyX2_ok, nmX2⟩
theorem fl_X8_184 : jv_fl RX8 184 2 0 false .int := ⟨RX2, TX2, 9, tyX2, rfl, by decide, iw_X2, mw_87, rfl, by decide +kernel, tyX2_ok, nmX2⟩
theorem fl_X2_37 : jv_fl RX2 37 2 1 false .int := ⟨RX2, TX2, 9, tyX2, rfl, by decide, iw_X2, mw_88, rfl, by decide +kernel, tyX2_ok, nmX2⟩
theorem fl_X6_53 : jv_fl RX6 53 2 1 false .int := ⟨RX2, TX2, 9, tyX2, rfl, by decide, iw_X2, mw_89, rfl, by decide +kernel, tyX2_ok, nmX2⟩
theorem fl_X7_73 : jv_fl RX7 73 2 1 false .int := ⟨RX2, TX2, 9, tyX2, rfl, by decide, iw_X2, mw_90, rfl, by decide +kernel, tyX2_ok, nmX2⟩
theorem fl_X8_280 : jv_fl RX8 280 2 1 false .int := ⟨RX2, TX2, 9, tyX2, rfl, by decide, iw_X2, mw_91, rfl, by decide +kernel, tyX2_ok, nmX2⟩
theorem fl_X2_9 : jv_fl RX2 9 2 2 true (.array .int) := ⟨RX2, TX2, 9, tyX2, rfl, by decide, iw_X2, mw_92, rfl, by decide +kernel, tyX2_ok, nmX2⟩
theorem fl_X1_23 : jv_fl RX1 23 2 2 true (.array .int) := ⟨RX2, TX2, 9, tyX2, rfl, by decide, iw_X2, mw_93, rfl, by decide +kernel, tyX2_ok, nmX2⟩
theorem fl_X2_15 : jv_fl RX2 15 2 3 true (.array .int) := ⟨RX2, TX2, 9, tyX2, rfl, by decide, iw_X2, mw_94, rfl, by decide +kernel, tyX2_ok, nmX2⟩
theorem fl_X4_44 : jv_fl RX4 44 2 3 true (.array .int) := ⟨RX2, TX2, 9, tyX2, rfl, by decide, iw_X2, mw_95, rfl, by decide +kernel, tyX2_ok, nmX2⟩
theorem fl_X8_126 : jv_fl RX8 126 2 3 true (.array .int) := ⟨RX2, TX2, 9, tyX2, rfl, by decide, iw_X2, mw_96, rfl, by decide +kernel, tyX2_ok, nmX2⟩
theorem fl_X3_73 : jv_fl RX3 73 2 3 true (.array .int) := ⟨RX2, TX2, 9, tyX2, rfl, by decide, iw_X2, mw_97, rfl, by decide +kernel, tyX2_ok, nmX2⟩
theorem fl_X2_18 : jv_fl RX2 18 2 4 true (.array .int) := ⟨RX2, TX2, 9, tyX2, rfl, by decide, iw_X2, mw_98, rfl, by decide +kernel, tyX2_ok, nmX2⟩
theorem fl_X8_129 : jv_fl RX8 129 2 4 true (.array .int) := ⟨RX2, TX2, 9, tyX2, rfl, by decide, iw_X2, mw_99, rfl, by decide +kernel, tyX2_ok, nmX2⟩
theorem fl_X3_93 : jv_fl RX3 93 2 4 true (.array .int) := ⟨RX2, TX2, 9, tyX2, rfl, by decide, iw_X2, mw_100, rfl, by decide +kernel, tyX2_ok, nmX2⟩
theorem fl_X2_21 : jv_fl RX2 21 2 5 true (.array .int) := ⟨RX2, TX2, 9, tyX2, rfl, by decide, iw_X2, mw_101, rfl, by decide +kernel, tyX2_ok, nmX2⟩
theorem fl_X0_60 : jv_fl RX0 60 2 5 true (.array .int) := ⟨RX2, TX2, 9, tyX2, rfl, by decide, iw_X2, mw_102, rfl, by decide +kernel, tyX2_ok, nmX2⟩
theorem fl_X8_138 : jv_fl RX8 138 2 5 true (.array .int) := ⟨RX2, TX2, 9, tyX2, rfl, by decide, iw_X2, mw_103, rfl, by decide +kernel, tyX2_ok, nmX2⟩
theorem fl_X3_67 : jv_fl RX3 67 2 5 true (.array .int) := ⟨RX2, TX2, 9, tyX2, rfl, by decide, iw_X2, mw_104, rfl, by decide +kernel, tyX2_ok, nmX2⟩
theorem fl_X2_24 : jv_fl RX2 24 2 6 true (.array .int) := ⟨RX2, TX2, 9, tyX2, rfl, by decide, iw_X2, mw_105, rfl, by decide +kernel, tyX2_ok, nmX2⟩
theorem fl_X8_147 : jv_fl RX8 147 2 6 true (.array .int) := ⟨RX2, TX2, 9, tyX2, rfl, by decide, iw_X2, mw_106, rfl, by decide +kernel, tyX2_ok, nmX2⟩
theorem fl_X3_70 : jv_fl RX3 70 2 6 true (.array .int) := ⟨RX2, TX2, 9, tyX2, rfl, by decide, iw_X2, mw_107, rfl, by decide +kernel, tyX2_ok, nmX2⟩
theorem fl_X2_27 : jv_fl RX2 27 2 7 true (.array .int) := ⟨RX2, TX2, 9, tyX2, rfl, by decide, iw_X2, mw_108, rfl, by decide +kernel, tyX2_ok, nmX2⟩
theorem fl_X8_150 : jv_fl RX8 150 2 7 true (.array .int) := ⟨RX2, TX2, 9, tyX2, rfl, by decide, iw_X2, mw_109, rfl, by decide +kernel, tyX2_ok, nmX2⟩
theorem fl_X3_64 : jv_fl RX3 64 2 7 true (.array .int) := ⟨RX2, TX2, 9, tyX2, rfl, by decide, iw_X2, mw_110, rfl, by decide +kernel, tyX2_ok, nmX2⟩
theorem fl_X2_30 : jv_fl RX2 30 2 8 true (.array .int) := ⟨RX2, TX2, 9, tyX2, rfl, by decide, iw_X2, mw_111, rfl, by decide +kernel, tyX2_ok, nmX2⟩
theorem fl_X8_153 : jv_fl RX8 153 2 8 true (.array .int) := ⟨RX2, TX2, 9, tyX2, rfl, by decide, iw_X2, mw_112, rfl, by decide +kernel, tyX2_ok, nmX2⟩
theorem fl_X3_55 : jv_fl RX3 55 2 8 true (.array .int) := ⟨RX2, TX2, 9, tyX2, rfl, by decide, iw_X2, mw_113, rfl, by decide +kernel, tyX2_ok, nmX2⟩
theorem fl_X7_12 : jv_fl RX7 12 7 0 true (.object "TemperNurses$Hill") := ⟨RX7, TX7, 10, tyX7, rfl, by decide, iw_X7, mw_142, rfl, by decide +kernel, tyX7_ok, nmX7⟩
theorem fl_X8_106 : jv_fl RX8 106 7 0 true (.object "TemperNurses$Hill") := ⟨RX7, TX7, 10, tyX7, rfl, by decide, iw_X7, mw_143, rfl, by decide +kernel, tyX7_ok, nmX7⟩
theorem fl_X7_25 : jv_fl RX7 25 7 1 false .int := ⟨RX7, TX7, 10, tyX7, rfl, by decide, iw_X7, mw_144, rfl, by decide +kernel, tyX7_ok, nmX7⟩
theorem fl_X8_95 : jv_fl RX8 95 7 1 false .int := ⟨RX7, TX7, 10, tyX7, rfl, by decide, iw_X7, mw_145, rfl, by decide +kernel, tyX7_ok, nmX7⟩
theorem fl_X7_18 : jv_fl RX7 18 7 2 true (.array .int) := ⟨RX7, TX7, 10, tyX7, rfl, by decide, iw_X7, mw_146, rfl, by decide +kernel, tyX7_ok, nmX7⟩
theorem fl_X7_41 : jv_fl RX7 41 7 3 false .int := ⟨RX7, TX7, 10, tyX7, rfl, by decide, iw_X7, mw_147, rfl, by decide +kernel, tyX7_ok, nmX7⟩
theorem fl_X7_48 : jv_fl RX7 48 7 4 false .int := ⟨RX7, TX7, 10, tyX7, rfl, by decide, iw_X7, mw_148, rfl, by decide +kernel, tyX7_ok, nmX7⟩
theorem fl_X7_32 : jv_fl RX7 32 7 5 false .int := ⟨RX7, TX7, 10, tyX7, rfl, by decide, iw_X7, mw_149, rfl, by decide +kernel, tyX7_ok, nmX7⟩
theorem fl_X7_67 : jv_fl RX7 67 7 6 false .int := ⟨RX7, TX7, 10, tyX7, rfl, by decide, iw_X7, mw_150, rfl, by decide +kernel, tyX7_ok, nmX7⟩
theorem fl_X7_35 : jv_fl RX7 35 7 7 false .int := ⟨RX7, TX7, 10, tyX7, rfl, by decide, iw_X7, mw_151, rfl, by decide +kernel, tyX7_ok, nmX7⟩
theorem fl_X7_57 : jv_fl RX7 57 7 8 false .int := ⟨RX7, TX7, 10, tyX7, rfl, by decide, iw_X7, mw_152, rfl, by decide +kernel, tyX7_ok, nmX7⟩
theorem fl_X7_22 : jv_fl RX7 22 7 9 true (.array .int) := ⟨RX7, TX7, 10, tyX7, rfl, by decide, iw_X7, mw_153, rfl, by decide +kernel, tyX7_ok, nmX7⟩
theorem fl_X1_11 : jv_fl RX1 11 1 0 true (.array .int) := ⟨RX1, TX1, 2, tyX1, rfl, by decide, iw_X1, mw_181, rfl, by decide +kernel, tyX1_ok, nmX1⟩
theorem fl_X1_15 : jv_fl RX1 15 1 1 false .int := ⟨RX1, TX1, 2, tyX1, rfl, by decide, iw_X1, mw_182, rfl, by decide +kernel, tyX1_ok, nmX1⟩
theorem fl_X8_208 : jv_fl RX8 208 1 1 false .int := ⟨RX1, TX1, 2, tyX1, rfl, by decide, iw_X1, mw_183, rfl, by decide +kernel, tyX1_ok, nmX1⟩
theorem fl_X3_9 : jv_fl RX3 9 3 0 true (.object "TemperNurses$Hill") := ⟨RX3, TX3, 2, tyX3, rfl, by decide, iw_X3, mw_195, rfl, by decide +kernel, tyX3_ok, nmX3⟩
theorem fl_X0_39 : jv_fl RX0 39 3 0 true (.object "TemperNurses$Hill") := ⟨RX3, TX3, 2, tyX3, rfl, by decide, iw_X3, mw_196, rfl, by decide +kernel, tyX3_ok, nmX3⟩
theorem fl_X6_42 : jv_fl RX6 42 3 0 true (.object "TemperNurses$Hill") := ⟨RX3, TX3, 2, tyX3, rfl, by decide, iw_X3, mw_197, rfl, by decide +kernel, tyX3_ok, nmX3⟩
theorem fl_X4_34 : jv_fl RX4 34 3 0 true (.object "TemperNurses$Hill") := ⟨RX3, TX3, 2, tyX3, rfl, by decide, iw_X3, mw_198, rfl, by decide +kernel, tyX3_ok, nmX3⟩
theorem fl_X5_26 : jv_fl RX5 26 3 0 true (.object "TemperNurses$Hill") := ⟨RX3, TX3, 2, tyX3, rfl, by decide, iw_X3, mw_199, rfl, by decide +kernel, tyX3_ok, nmX3⟩
theorem fl_X3_15 : jv_fl RX3 15 3 1 true (.object "TemperNurses$Course") := ⟨RX3, TX3, 2, tyX3, rfl, by decide, iw_X3, mw_200, rfl, by decide +kernel, tyX3_ok, nmX3⟩
theorem fl_X4_17 : jv_fl RX4 17 3 1 true (.object "TemperNurses$Course") := ⟨RX3, TX3, 2, tyX3, rfl, by decide, iw_X3, mw_201, rfl, by decide +kernel, tyX3_ok, nmX3⟩
theorem fl_X5_37 : jv_fl RX5 37 3 1 true (.object "TemperNurses$Course") := ⟨RX3, TX3, 2, tyX3, rfl, by decide, iw_X3, mw_202, rfl, by decide +kernel, tyX3_ok, nmX3⟩
theorem fl_X0_67 : jv_fl RX0 67 3 1 true (.object "TemperNurses$Course") := ⟨RX3, TX3, 2, tyX3, rfl, by decide, iw_X3, mw_203, rfl, by decide +kernel, tyX3_ok, nmX3⟩
theorem fl_X6_80 : jv_fl RX6 80 3 1 true (.object "TemperNurses$Course") := ⟨RX3, TX3, 2, tyX3, rfl, by decide, iw_X3, mw_204, rfl, by decide +kernel, tyX3_ok, nmX3⟩
theorem fl_X6_24 : jv_fl RX6 24 6 0 true (.object "TemperNurses$House") := ⟨RX6, TX6, 7, tyX6, rfl, by decide, iw_X6, mw_216, rfl, by decide +kernel, tyX6_ok, nmX6⟩
theorem fl_X6_9 : jv_fl RX6 9 6 1 true (.array .int) := ⟨RX6, TX6, 7, tyX6, rfl, by decide, iw_X6, mw_217, rfl, by decide +kernel, tyX6_ok, nmX6⟩
theorem fl_X6_15 : jv_fl RX6 15 6 2 true (.array .int) := ⟨RX6, TX6, 7, tyX6, rfl, by decide, iw_X6, mw_218, rfl, by decide +kernel, tyX6_ok, nmX6⟩
theorem fl_X6_18 : jv_fl RX6 18 6 3 true (.array .int) := ⟨RX6, TX6, 7, tyX6, rfl, by decide, iw_X6, mw_219, rfl, by decide +kernel, tyX6_ok, nmX6⟩
theorem fl_X6_60 : jv_fl RX6 60 6 4 false .int := ⟨RX6, TX6, 7, tyX6, rfl, by decide, iw_X6, mw_220, rfl, by decide +kernel, tyX6_ok, nmX6⟩
theorem fl_X6_21 : jv_fl RX6 21 6 5 true (.array .int) := ⟨RX6, TX6, 7, tyX6, rfl, by decide, iw_X6, mw_221, rfl, by decide +kernel, tyX6_ok, nmX6⟩
theorem fl_X8_226 : jv_fl RX8 226 6 5 true (.array .int) := ⟨RX6, TX6, 7, tyX6, rfl, by decide, iw_X6, mw_222, rfl, by decide +kernel, tyX6_ok, nmX6⟩
theorem fl_X6_28 : jv_fl RX6 28 6 6 false .int := ⟨RX6, TX6, 7, tyX6, rfl, by decide, iw_X6, mw_223, rfl, by decide +kernel, tyX6_ok, nmX6⟩
theorem fl_X8_223 : jv_fl RX8 223 6 6 false .int := ⟨RX6, TX6, 7, tyX6, rfl, by decide, iw_X6, mw_224, rfl, by decide +kernel, tyX6_ok, nmX6⟩
theorem fl_X0_18 : jv_fl RX0 18 0 0 true (.object "TemperNurses$House") := ⟨RX0, TX0, 5, tyX0, rfl, by decide, iw_X0, mw_246, rfl, by decide +kernel, tyX0_ok, nmX0⟩
theorem fl_X0_9 : jv_fl RX0 9 0 1 true (.array .int) := ⟨RX0, TX0, 5, tyX0, rfl, by decide, iw_X0, mw_247, rfl, by decide +kernel, tyX0_ok, nmX0⟩
theorem fl_X0_22 : jv_fl RX0 22 0 2 false .int := ⟨RX0, TX0, 5, tyX0, rfl, by decide, iw_X0, mw_248, rfl, by decide +kernel, tyX0_ok, nmX0⟩
theorem fl_X0_15 : jv_fl RX0 15 0 3 true (.array .int) := ⟨RX0, TX0, 5, tyX0, rfl, by decide, iw_X0, mw_249, rfl, by decide +kernel, tyX0_ok, nmX0⟩
theorem fl_X8_237 : jv_fl RX8 237 0 3 true (.array .int) := ⟨RX0, TX0, 5, tyX0, rfl, by decide, iw_X0, mw_250, rfl, by decide +kernel, tyX0_ok, nmX0⟩
theorem fl_X0_26 : jv_fl RX0 26 0 4 false .int := ⟨RX0, TX0, 5, tyX0, rfl, by decide, iw_X0, mw_251, rfl, by decide +kernel, tyX0_ok, nmX0⟩
theorem fl_X8_236 : jv_fl RX8 236 0 4 false .int := ⟨RX0, TX0, 5, tyX0, rfl, by decide, iw_X0, mw_252, rfl, by decide +kernel, tyX0_ok, nmX0⟩
theorem fl_X5_18 : jv_fl RX5 18 5 0 true (.object "TemperNurses$House") := ⟨RX5, TX5, 4, tyX5, rfl, by decide, iw_X5, mw_270, rfl, by decide +kernel, tyX5_ok, nmX5⟩
theorem fl_X5_9 : jv_fl RX5 9 5 1 true (.array .int) := ⟨RX5, TX5, 4, tyX5, rfl, by decide, iw_X5, mw_271, rfl, by decide +kernel, tyX5_ok, nmX5⟩
theorem fl_X5_15 : jv_fl RX5 15 5 2 true (.array .int) := ⟨RX5, TX5, 4, tyX5, rfl, by decide, iw_X5, mw_272, rfl, by decide +kernel, tyX5_ok, nmX5⟩
theorem fl_X5_22 : jv_fl RX5 22 5 3 false .int := ⟨RX5, TX5, 4, tyX5, rfl, by decide, iw_X5, mw_273, rfl, by decide +kernel, tyX5_ok, nmX5⟩
theorem fl_X8_246 : jv_fl RX8 246 5 3 false .int := ⟨RX5, TX5, 4, tyX5, rfl, by decide, iw_X5, mw_274, rfl, by decide +kernel, tyX5_ok, nmX5⟩
theorem fl_X4_7 : jv_fl RX4 7 4 0 true (.object "TemperNurses$House") := ⟨RX4, TX4, 2, tyX4, rfl, by decide, iw_X4, mw_290, rfl, by decide +kernel, tyX4_ok, nmX4⟩
theorem fl_X4_13 : jv_fl RX4 13 4 1 false .long := ⟨RX4, TX4, 2, tyX4, rfl, by decide, iw_X4, mw_291, rfl, by decide +kernel, tyX4_ok, nmX4⟩
theorem fl_X8_283 : jv_fl RX8 283 4 1 false .long := ⟨RX4, TX4, 2, tyX4, rfl, by decide, iw_X4, mw_292, rfl, by decide +kernel, tyX4_ok, nmX4⟩
theorem fl_X8_10 : jv_fl RX8 10 8 0 true (.object "TemperNurses$Hill") := ⟨RX8, TX8, 12, tyX8, rfl, by decide, iw_X8, mw_322, rfl, by decide +kernel, tyX8_ok, nmX8⟩
theorem fl_X8_19 : jv_fl RX8 19 8 1 true (.object "TemperNurses$TextReader") := ⟨RX8, TX8, 12, tyX8, rfl, by decide, iw_X8, mw_323, rfl, by decide +kernel, tyX8_ok, nmX8⟩
theorem fl_X8_26 : jv_fl RX8 26 8 2 true (.object "TemperNurses$Course") := ⟨RX8, TX8, 12, tyX8, rfl, by decide, iw_X8, mw_324, rfl, by decide +kernel, tyX8_ok, nmX8⟩
theorem fl_X8_35 : jv_fl RX8 35 8 3 true (.object "TemperNurses$House") := ⟨RX8, TX8, 12, tyX8, rfl, by decide, iw_X8, mw_325, rfl, by decide +kernel, tyX8_ok, nmX8⟩
theorem fl_X8_44 : jv_fl RX8 44 8 4 true (.object "TemperNurses$Planner") := ⟨RX8, TX8, 12, tyX8, rfl, by decide, iw_X8, mw_326, rfl, by decide +kernel, tyX8_ok, nmX8⟩
theorem fl_X8_51 : jv_fl RX8 51 8 5 true (.object "TemperNurses$BedMaker") := ⟨RX8, TX8, 12, tyX8, rfl, by decide, iw_X8, mw_327, rfl, by decide +kernel, tyX8_ok, nmX8⟩
theorem fl_X8_58 : jv_fl RX8 58 8 6 true (.object "TemperNurses$Listener") := ⟨RX8, TX8, 12, tyX8, rfl, by decide, iw_X8, mw_328, rfl, by decide +kernel, tyX8_ok, nmX8⟩
theorem fl_X8_65 : jv_fl RX8 65 8 7 true (.object "TemperNurses$Kinds") := ⟨RX8, TX8, 12, tyX8, rfl, by decide, iw_X8, mw_329, rfl, by decide +kernel, tyX8_ok, nmX8⟩
theorem fl_X8_69 : jv_fl RX8 69 8 8 true (.object "TemperNurses$Course") := ⟨RX8, TX8, 12, tyX8, rfl, by decide, iw_X8, mw_330, rfl, by decide +kernel, tyX8_ok, nmX8⟩
theorem fl_X8_72 : jv_fl RX8 72 8 9 true (.object "TemperNurses$Course") := ⟨RX8, TX8, 12, tyX8, rfl, by decide, iw_X8, mw_331, rfl, by decide +kernel, tyX8_ok, nmX8⟩
theorem fl_X8_75 : jv_fl RX8 75 8 10 true (.array .boolean) := ⟨RX8, TX8, 12, tyX8, rfl, by decide, iw_X8, mw_332, rfl, by decide +kernel, tyX8_ok, nmX8⟩
theorem fl_X8_79 : jv_fl RX8 79 8 11 true (.array .int) := ⟨RX8, TX8, 12, tyX8, rfl, by decide, iw_X8, mw_333, rfl, by decide +kernel, tyX8_ok, nmX8⟩
theorem fl_X9_71 : jv_fl RX9 71 9 0 false .int := ⟨RX9, TX9, 31, tyX9, rfl, by decide, iw_X9, mw_817, rfl, by decide +kernel, tyX9_ok, nmX9⟩
theorem fl_X9_79 : jv_fl RX9 79 9 1 false .int := ⟨RX9, TX9, 31, tyX9, rfl, by decide, iw_X9, mw_818, rfl, by decide +kernel, tyX9_ok, nmX9⟩
theorem fl_X9_7 : jv_fl RX9 7 9 2 true (.array .int) := ⟨RX9, TX9, 31, tyX9, rfl, by decide, iw_X9, mw_819, rfl, by decide +kernel, tyX9_ok, nmX9⟩
theorem fl_X9_13 : jv_fl RX9 13 9 3 true (.array .int) := ⟨RX9, TX9, 31, tyX9, rfl, by decide, iw_X9, mw_820, rfl, by decide +kernel, tyX9_ok, nmX9⟩
theorem fl_X9_16 : jv_fl RX9 16 9 4 true (.array .int) := ⟨RX9, TX9, 31, tyX9, rfl, by decide, iw_X9, mw_821, rfl, by decide +kernel, tyX9_ok, nmX9⟩
theorem fl_X9_19 : jv_fl RX9 19 9 5 true (.array .int) := ⟨RX9, TX9, 31, tyX9, rfl, by decide, iw_X9, mw_822, rfl, by decide +kernel, tyX9_ok, nmX9⟩
theorem fl_X9_22 : jv_fl RX9 22 9 6 true (.array .int) := ⟨RX9, TX9, 31, tyX9, rfl, by decide, iw_X9, mw_823, rfl, by decide +kernel, tyX9_ok, nmX9⟩
theorem fl_X9_25 : jv_fl RX9 25 9 7 true (.array .int) := ⟨RX9, TX9, 31, tyX9, rfl, by decide, iw_X9, mw_824, rfl, by decide +kernel, tyX9_ok, nmX9⟩
theorem fl_X9_28 : jv_fl RX9 28 9 8 true (.array .int) := ⟨RX9, TX9, 31, tyX9, rfl, by decide, iw_X9, mw_825, rfl, by decide +kernel, tyX9_ok, nmX9⟩
theorem fl_X9_31 : jv_fl RX9 31 9 9 true (.array .int) := ⟨RX9, TX9, 31, tyX9, rfl, by decide, iw_X9, mw_826, rfl, by decide +kernel, tyX9_ok, nmX9⟩
theorem fl_X9_34 : jv_fl RX9 34 9 10 true (.array .boolean) := ⟨RX9, TX9, 31, tyX9, rfl, by decide, iw_X9, mw_827, rfl, by decide +kernel, tyX9_ok, nmX9⟩
theorem fl_X9_38 : jv_fl RX9 38 9 11 true (.array .int) := ⟨RX9, TX9, 31, tyX9, rfl, by decide, iw_X9, mw_828, rfl, by decide +kernel, tyX9_ok, nmX9⟩
theorem fl_X9_41 : jv_fl RX9 41 9 12 true (.array .int) := ⟨RX9, TX9, 31, tyX9, rfl, by decide, iw_X9, mw_829, rfl, by decide +kernel, tyX9_ok, nmX9⟩
theorem fl_X9_130 : jv_fl RX9 130 9 13 false .int := ⟨RX9, TX9, 31, tyX9, rfl, by decide, iw_X9, mw_830, rfl, by decide +kernel, tyX9_ok, nmX9⟩
theorem fl_X9_221 : jv_fl RX9 221 9 14 false .long := ⟨RX9, TX9, 31, tyX9, rfl, by decide, iw_X9, mw_831, rfl, by decide +kernel, tyX9_ok, nmX9⟩
theorem fl_X9_44 : jv_fl RX9 44 9 15 true (.array .int) := ⟨RX9, TX9, 31, tyX9, rfl, by decide, iw_X9, mw_832, rfl, by decide +kernel, tyX9_ok, nmX9⟩
theorem fl_X9_84 : jv_fl RX9 84 9 16 false .int := ⟨RX9, TX9, 31, tyX9, rfl, by decide, iw_X9, mw_833, rfl, by decide +kernel, tyX9_ok, nmX9⟩
theorem fl_X9_97 : jv_fl RX9 97 9 17 false .int := ⟨RX9, TX9, 31, tyX9, rfl, by decide, iw_X9, mw_834, rfl, by decide +kernel, tyX9_ok, nmX9⟩
theorem fl_X9_87 : jv_fl RX9 87 9 18 false .int := ⟨RX9, TX9, 31, tyX9, rfl, by decide, iw_X9, mw_835, rfl, by decide +kernel, tyX9_ok, nmX9⟩
theorem fl_X9_100 : jv_fl RX9 100 9 19 false .int := ⟨RX9, TX9, 31, tyX9, rfl, by decide, iw_X9, mw_836, rfl, by decide +kernel, tyX9_ok, nmX9⟩
theorem fl_X9_90 : jv_fl RX9 90 9 20 false .int := ⟨RX9, TX9, 31, tyX9, rfl, by decide, iw_X9, mw_837, rfl, by decide +kernel, tyX9_ok, nmX9⟩
theorem fl_X9_107 : jv_fl RX9 107 9 21 false .int := ⟨RX9, TX9, 31, tyX9, rfl, by decide, iw_X9, mw_838, rfl, by decide +kernel, tyX9_ok, nmX9⟩
theorem fl_X9_113 : jv_fl RX9 113 9 22 false .int := ⟨RX9, TX9, 31, tyX9, rfl, by decide, iw_X9, mw_839, rfl, by decide +kernel, tyX9_ok, nmX9⟩
theorem fl_X9_47 : jv_fl RX9 47 9 23 true (.array .int) := ⟨RX9, TX9, 31, tyX9, rfl, by decide, iw_X9, mw_840, rfl, by decide +kernel, tyX9_ok, nmX9⟩
theorem fl_X9_50 : jv_fl RX9 50 9 24 true (.array .int) := ⟨RX9, TX9, 31, tyX9, rfl, by decide, iw_X9, mw_841, rfl, by decide +kernel, tyX9_ok, nmX9⟩
theorem fl_X9_53 : jv_fl RX9 53 9 25 true (.array .int) := ⟨RX9, TX9, 31, tyX9, rfl, by decide, iw_X9, mw_842, rfl, by decide +kernel, tyX9_ok, nmX9⟩
theorem fl_X9_56 : jv_fl RX9 56 9 26 true (.array .int) := ⟨RX9, TX9, 31, tyX9, rfl, by decide, iw_X9, mw_843, rfl, by decide +kernel, tyX9_ok, nmX9⟩
theorem fl_X9_59 : jv_fl RX9 59 9 27 true (.array .int) := ⟨RX9, TX9, 31, tyX9, rfl, by decide, iw_X9, mw_844, rfl, by decide +kernel, tyX9_ok, nmX9⟩
theorem fl_X9_62 : jv_fl RX9 62 9 28 true (.array .int) := ⟨RX9, TX9, 31, tyX9, rfl, by decide, iw_X9, mw_845, rfl, by decide +kernel, tyX9_ok, nmX9⟩
theorem fl_X9_65 : jv_fl RX9 65 9 29 true (.array .int) := ⟨RX9, TX9, 31, tyX9, rfl, by decide, iw_X9, mw_846, rfl, by decide +kernel, tyX9_ok, nmX9⟩
theorem fl_X9_68 : jv_fl RX9 68 9 30 true (.array .int) := ⟨RX9, TX9, 31, tyX9, rfl, by decide, iw_X9, mw_847, rfl, by decide +kernel, tyX9_ok, nmX9⟩
def jv_cb (y : MethodName) (cc : ByteArray) (nL : Nat) (rt : Option FieldType) (n : Nat) : Prop := Cond.initialized y.cls ∈ jv_T ∧ Cond.code y cc nL rt ∈ jv_T ∧ (y.cls ≠ "java/lang/invoke/MethodHandle" ∧ y.cls ≠ "java/lang/invoke/VarHandle" ∧ (parseMethodDescriptor y.desc).map (fun d => d.parameters.length) = some n)
def jv_cv (own : String) (ix : Nat) (y : MethodName) : Prop := Cond.methodLink own ix y ∈ jv_T ∧ Cond.instanceMethod y ∈ jv_T ∧ Cond.selects y.cls y y ∈ jv_T
def jv_cs (own : String) (ix : Nat) (y : MethodName) : Prop := Cond.methodLink own ix y ∈ jv_T ∧ Cond.static y ∈ jv_T
def jv_cn (own : String) (ix : Nat) (y : MethodName) (host : String) : Prop := Cond.methodLinkNest own ix y host ∈ jv_ns ∧ Cond.static y ∈ jv_T
theorem cb_X0_init : jv_cb yX0_init cX0_init 2 none 1 := ⟨mw_59, mw_244, by decide +kernel, by decide +kernel, by decide +kernel⟩
theorem cb_X0_makeBeds : jv_cb yX0_makeBeds cX0_makeBeds 2 none 1 := ⟨mw_59, mw_680, by decide +kernel, by decide +kernel, by decide +kernel⟩
theorem cb_X0_tryOthers : jv_cb yX0_tryOthers cX0_tryOthers 4 none 2 := ⟨mw_59, mw_685, by decide +kernel, by decide +kernel, by decide +kernel⟩
theorem cb_X0_mayShare : jv_cb yX0_mayShare cX0_mayShare 3 (some .boolean) 2 := ⟨mw_59, mw_690, by decide +kernel, by decide +kernel, by decide +kernel⟩
theorem cb_X1_init : jv_cb yX1_init cX1_init 1 none 0 := ⟨mw_56, mw_179, by decide +kernel, by decide +kernel, by decide +kernel⟩
theorem cb_X1_begin : jv_cb yX1_begin cX1_begin 3 none 1 := ⟨mw_56, mw_301, by decide +kernel, by decide +kernel, by decide +kernel⟩
theorem cb_X1_take : jv_cb yX1_take cX1_take 2 none 1 := ⟨mw_56, mw_798, by decide +kernel, by decide +kernel, by decide +kernel⟩
theorem cb_X1_remember : jv_cb yX1_remember cX1_remember 1 none 0 := ⟨mw_56, mw_555, by decide +kernel, by decide +kernel, by decide +kernel⟩
theorem cb_X1_stepBack : jv_cb yX1_stepBack cX1_stepBack 1 (some .boolean) 0 := ⟨mw_56, mw_614, by decide +kernel, by decide +kernel, by decide +kernel⟩
theorem cb_X1_year : jv_cb yX1_year cX1_year 1 (some .int) 0 := ⟨mw_56, mw_588, by decide +kernel, by decide +kernel, by decide +kernel⟩
theorem cb_X1_heat : jv_cb yX1_heat cX1_heat 2 (some .int) 1 := ⟨mw_56, mw_493, by decide +kernel, by decide +kernel, by decide +kernel⟩
theorem cb_X1_place : jv_cb yX1_place cX1_place 2 (some .int) 1 := ⟨mw_56, mw_501, by decide +kernel, by decide +kernel, by decide +kernel⟩
theorem cb_X1_owner : jv_cb yX1_owner cX1_owner 2 (some .int) 1 := ⟨mw_56, mw_505, by decide +kernel, by decide +kernel, by decide +kernel⟩
theorem cb_X1_setYear : jv_cb yX1_setYear cX1_setYear 2 none 1 := ⟨mw_56, mw_305, by decide +kernel, by decide +kernel, by decide +kernel⟩
theorem cb_X1_setHeat : jv_cb yX1_setHeat cX1_setHeat 3 none 2 := ⟨mw_56, mw_313, by decide +kernel, by decide +kernel, by decide +kernel⟩
theorem cb_X1_setPlace : jv_cb yX1_setPlace cX1_setPlace 3 none 2 := ⟨mw_56, mw_317, by decide +kernel, by decide +kernel, by decide +kernel⟩
theorem cb_X1_setOwner : jv_cb yX1_setOwner cX1_setOwner 3 none 2 := ⟨mw_56, mw_321, by decide +kernel, by decide +kernel, by decide +kernel⟩
theorem cb_X1_ring : jv_cb yX1_ring cX1_ring 4 (some .int) 1 := ⟨mw_56, mw_509, by decide +kernel, by decide +kernel, by decide +kernel⟩
theorem cb_X1_mixesToRight : jv_cb yX1_mixesToRight cX1_mixesToRight 4 (some .int) 1 := ⟨mw_56, mw_576, by decide +kernel, by decide +kernel, by decide +kernel⟩
theorem cb_X1_isLowestOfRing : jv_cb yX1_isLowestOfRing cX1_isLowestOfRing 4 (some .boolean) 1 := ⟨mw_56, mw_580, by decide +kernel, by decide +kernel, by decide +kernel⟩
theorem cb_X1_cell : jv_cb yX1_cell cX1_cell 3 (some .int) 1 := ⟨mw_56, mw_497, by decide +kernel, by decide +kernel, by decide +kernel⟩
theorem cb_X1_setCell : jv_cb yX1_setCell cX1_setCell 4 none 2 := ⟨mw_56, mw_309, by decide +kernel, by decide +kernel, by decide +kernel⟩
theorem cb_X2_init : jv_cb yX2_init cX2_init 1 none 0 := ⟨mw_54, mw_79, by decide +kernel, by decide +kernel, by decide +kernel⟩
theorem cb_X2_hasTemper : jv_cb yX2_hasTemper cX2_hasTemper 2 (some .boolean) 1 := ⟨mw_54, mw_446, by decide +kernel, by decide +kernel, by decide +kernel⟩
theorem cb_X2_hasNurse : jv_cb yX2_hasNurse cX2_hasNurse 2 (some .boolean) 1 := ⟨mw_54, mw_518, by decide +kernel, by decide +kernel, by decide +kernel⟩
theorem cb_X2_wipe : jv_cb yX2_wipe cX2_wipe 1 none 0 := ⟨mw_54, mw_390, by decide +kernel, by decide +kernel, by decide +kernel⟩
theorem cb_X2_addTemper : jv_cb yX2_addTemper cX2_addTemper 4 none 3 := ⟨mw_54, mw_458, by decide +kernel, by decide +kernel, by decide +kernel⟩
theorem cb_X2_addNurse : jv_cb yX2_addNurse cX2_addNurse 4 none 3 := ⟨mw_54, mw_462, by decide +kernel, by decide +kernel, by decide +kernel⟩
theorem cb_X2_addClash : jv_cb yX2_addClash cX2_addClash 3 none 2 := ⟨mw_54, mw_466, by decide +kernel, by decide +kernel, by decide +kernel⟩
theorem cb_X2_take : jv_cb yX2_take cX2_take 2 none 1 := ⟨mw_54, mw_474, by decide +kernel, by decide +kernel, by decide +kernel⟩
theorem cb_X3_init : jv_cb yX3_init cX3_init 3 none 2 := ⟨mw_57, mw_193, by decide +kernel, by decide +kernel, by decide +kernel⟩
theorem cb_X3_broken : jv_cb yX3_broken cX3_broken 3 (some .int) 0 := ⟨mw_57, mw_606, by decide +kernel, by decide +kernel, by decide +kernel⟩
theorem cb_X3_heatOfAll : jv_cb yX3_heatOfAll cX3_heatOfAll 3 (some .int) 0 := ⟨mw_57, mw_639, by decide +kernel, by decide +kernel, by decide +kernel⟩
theorem cb_X3_thoseWith : jv_cb yX3_thoseWith cX3_thoseWith 4 (some .int) 1 := ⟨mw_57, mw_522, by decide +kernel, by decide +kernel, by decide +kernel⟩
theorem cb_X3_thoseThatMayBeSentTo : jv_cb yX3_thoseThatMayBeSentTo cX3_thoseThatMayBeSentTo 4 (some .int) 1 := ⟨mw_57, mw_528, by decide +kernel, by decide +kernel, by decide +kernel⟩
theorem cb_X3_mayBeSent : jv_cb yX3_mayBeSent cX3_mayBeSent 3 (some .boolean) 2 := ⟨mw_57, mw_532, by decide +kernel, by decide +kernel, by decide +kernel⟩
theorem cb_X3_mayJoin : jv_cb yX3_mayJoin cX3_mayJoin 4 (some .boolean) 3 := ⟨mw_57, mw_537, by decide +kernel, by decide +kernel, by decide +kernel⟩
theorem cb_X3_heatIn : jv_cb yX3_heatIn cX3_heatIn 7 (some .int) 2 := ⟨mw_57, mw_592, by decide +kernel, by decide +kernel, by decide +kernel⟩
theorem cb_X3_yearsTillBroken : jv_cb yX3_yearsTillBroken cX3_yearsTillBroken 5 (some .int) 2 := ⟨mw_57, mw_626, by decide +kernel, by decide +kernel, by decide +kernel⟩
theorem cb_X3_worthOfFetching : jv_cb yX3_worthOfFetching cX3_worthOfFetching 4 (some .int) 2 := ⟨mw_57, mw_670, by decide +kernel, by decide +kernel, by decide +kernel⟩
theorem cb_X3_heatNextYear : jv_cb yX3_heatNextYear cX3_heatNextYear 3 (some .int) 3 := ⟨mw_57, mw_595, by decide +kernel, by decide +kernel, by decide +kernel⟩
theorem cb_X4_init : jv_cb yX4_init cX4_init 2 none 1 := ⟨mw_61, mw_288, by decide +kernel, by decide +kernel, by decide +kernel⟩
theorem cb_X4_asTemper : jv_cb yX4_asTemper cX4_asTemper 2 (some .int) 1 := ⟨mw_61, mw_753, by decide +kernel, by decide +kernel, by decide +kernel⟩
theorem cb_X4_asRage : jv_cb yX4_asRage cX4_asRage 2 (some .int) 1 := ⟨mw_61, mw_758, by decide +kernel, by decide +kernel, by decide +kernel⟩
theorem cb_X4_asSulk : jv_cb yX4_asSulk cX4_asSulk 2 (some .int) 1 := ⟨mw_61, mw_765, by decide +kernel, by decide +kernel, by decide +kernel⟩
theorem cb_X4_asStorm : jv_cb yX4_asStorm cX4_asStorm 2 (some .int) 1 := ⟨mw_61, mw_772, by decide +kernel, by decide +kernel, by decide +kernel⟩
theorem cb_X4_asGrudge : jv_cb yX4_asGrudge cX4_asGrudge 2 (some .int) 1 := ⟨mw_61, mw_778, by decide +kernel, by decide +kernel, by decide +kernel⟩
theorem cb_X4_asPet : jv_cb yX4_asPet cX4_asPet 2 (some .int) 1 := ⟨mw_61, mw_784, by decide +kernel, by decide +kernel, by decide +kernel⟩
theorem cb_X5_init : jv_cb yX5_init cX5_init 2 none 1 := ⟨mw_60, mw_268, by decide +kernel, by decide +kernel, by decide +kernel⟩
theorem cb_X5_append : jv_cb yX5_append cX5_append 3 (some .boolean) 2 := ⟨mw_60, mw_712, by decide +kernel, by decide +kernel, by decide +kernel⟩
theorem cb_X5_empty : jv_cb yX5_empty cX5_empty 2 (some .int) 0 := ⟨mw_60, mw_481, by decide +kernel, by decide +kernel, by decide +kernel⟩
theorem cb_X5_suspects : jv_cb yX5_suspects cX5_suspects 3 (some .int) 0 := ⟨mw_60, mw_724, by decide +kernel, by decide +kernel, by decide +kernel⟩
theorem cb_X5_nextBang : jv_cb yX5_nextBang cX5_nextBang 8 (some .int) 0 := ⟨mw_60, mw_738, by decide +kernel, by decide +kernel, by decide +kernel⟩
theorem cb_X5_countBanging : jv_cb yX5_countBanging cX5_countBanging 5 (some .int) 2 := ⟨mw_60, mw_744, by decide +kernel, by decide +kernel, by decide +kernel⟩
theorem cb_X5_isAsHeard : jv_cb yX5_isAsHeard cX5_isAsHeard 4 (some .boolean) 1 := ⟨mw_60, mw_729, by decide +kernel, by decide +kernel, by decide +kernel⟩
theorem cb_X6_init : jv_cb yX6_init cX6_init 2 none 1 := ⟨mw_58, mw_214, by decide +kernel, by decide +kernel, by decide +kernel⟩
theorem cb_X6_findPlan : jv_cb yX6_findPlan cX6_findPlan 1 none 0 := ⟨mw_58, mw_656, by decide +kernel, by decide +kernel, by decide +kernel⟩
theorem cb_X6_soonest : jv_cb yX6_soonest cX6_soonest 3 (some .int) 0 := ⟨mw_58, mw_622, by decide +kernel, by decide +kernel, by decide +kernel⟩
theorem cb_X6_tryPlaces : jv_cb yX6_tryPlaces cX6_tryPlaces 5 none 2 := ⟨mw_58, mw_660, by decide +kernel, by decide +kernel, by decide +kernel⟩
theorem cb_X6_tryYears : jv_cb yX6_tryYears cX6_tryYears 6 none 2 := ⟨mw_58, mw_631, by decide +kernel, by decide +kernel, by decide +kernel⟩
theorem cb_X7_init : jv_cb yX7_init cX7_init 1 none 0 := ⟨mw_55, mw_138, by decide +kernel, by decide +kernel, by decide +kernel⟩
theorem cb_X7_append : jv_cb yX7_append cX7_append 2 (some .boolean) 1 := ⟨mw_55, mw_370, by decide +kernel, by decide +kernel, by decide +kernel⟩
theorem cb_X7_empty : jv_cb yX7_empty cX7_empty 2 (some .int) 0 := ⟨mw_55, mw_378, by decide +kernel, by decide +kernel, by decide +kernel⟩
theorem cb_X7_readAll : jv_cb yX7_readAll cX7_readAll 3 (some .int) 0 := ⟨mw_55, mw_386, by decide +kernel, by decide +kernel, by decide +kernel⟩
theorem cb_X7_canStand : jv_cb yX7_canStand cX7_canStand 1 (some .boolean) 0 := ⟨mw_55, mw_422, by decide +kernel, by decide +kernel, by decide +kernel⟩
theorem cb_X7_canBeginItem : jv_cb yX7_canBeginItem cX7_canBeginItem 1 (some .boolean) 0 := ⟨mw_55, mw_426, by decide +kernel, by decide +kernel, by decide +kernel⟩
theorem cb_X7_canBeTold : jv_cb yX7_canBeTold cX7_canBeTold 2 (some .boolean) 0 := ⟨mw_55, mw_434, by decide +kernel, by decide +kernel, by decide +kernel⟩
theorem cb_X7_numbersOfItem : jv_cb yX7_numbersOfItem cX7_numbersOfItem 1 (some .int) 0 := ⟨mw_55, mw_430, by decide +kernel, by decide +kernel, by decide +kernel⟩
theorem cb_X7_takeToken : jv_cb yX7_takeToken cX7_takeToken 1 none 0 := ⟨mw_55, mw_450, by decide +kernel, by decide +kernel, by decide +kernel⟩
theorem cb_X7_takeItem : jv_cb yX7_takeItem cX7_takeItem 1 none 0 := ⟨mw_55, mw_454, by decide +kernel, by decide +kernel, by decide +kernel⟩
theorem cb_X7_readToken : jv_cb yX7_readToken cX7_readToken 1 none 0 := ⟨mw_55, mw_397, by decide +kernel, by decide +kernel, by decide +kernel⟩
theorem cb_X7_readLetters : jv_cb yX7_readLetters cX7_readLetters 1 none 0 := ⟨mw_55, mw_410, by decide +kernel, by decide +kernel, by decide +kernel⟩
theorem cb_X7_readDigits : jv_cb yX7_readDigits cX7_readDigits 2 none 0 := ⟨mw_55, mw_418, by decide +kernel, by decide +kernel, by decide +kernel⟩
theorem cb_X7_isLetter : jv_cb yX7_isLetter cX7_isLetter 2 (some .boolean) 1 := ⟨mw_55, mw_406, by decide +kernel, by decide +kernel, by decide +kernel⟩
theorem cb_X7_isDigit : jv_cb yX7_isDigit cX7_isDigit 2 (some .boolean) 1 := ⟨mw_55, mw_414, by decide +kernel, by decide +kernel, by decide +kernel⟩
theorem cb_X7_byteAt : jv_cb yX7_byteAt cX7_byteAt 2 (some .int) 1 := ⟨mw_55, mw_401, by decide +kernel, by decide +kernel, by decide +kernel⟩
theorem cb_X8_init : jv_cb yX8_init cX8_init 1 none 0 := ⟨mw_53, mw_71, by decide +kernel, by decide +kernel, by decide +kernel⟩
theorem cb_X8_type : jv_cb yX8_type cX8_type 2 (some .int) 1 := ⟨mw_53, mw_363, by decide +kernel, by decide +kernel, by decide +kernel⟩
theorem cb_X8_clear : jv_cb yX8_clear cX8_clear 1 (some .int) 0 := ⟨mw_53, mw_374, by decide +kernel, by decide +kernel, by decide +kernel⟩
theorem cb_X8_hill : jv_cb yX8_hill cX8_hill 2 (some .int) 0 := ⟨mw_53, mw_382, by decide +kernel, by decide +kernel, by decide +kernel⟩
theorem cb_X8_temper : jv_cb yX8_temper cX8_temper 3 (some .int) 2 := ⟨mw_53, mw_488, by decide +kernel, by decide +kernel, by decide +kernel⟩
theorem cb_X8_nurse : jv_cb yX8_nurse cX8_nurse 3 (some .int) 2 := ⟨mw_53, mw_514, by decide +kernel, by decide +kernel, by decide +kernel⟩
theorem cb_X8_sends : jv_cb yX8_sends cX8_sends 3 (some .int) 2 := ⟨mw_53, mw_550, by decide +kernel, by decide +kernel, by decide +kernel⟩
theorem cb_X8_fetches : jv_cb yX8_fetches cX8_fetches 3 (some .int) 1 := ⟨mw_53, mw_562, by decide +kernel, by decide +kernel, by decide +kernel⟩
theorem cb_X8_visits : jv_cb yX8_visits cX8_visits 3 (some .int) 1 := ⟨mw_53, mw_566, by decide +kernel, by decide +kernel, by decide +kernel⟩
theorem cb_X8_mixes : jv_cb yX8_mixes cX8_mixes 4 (some .int) 2 := ⟨mw_53, mw_571, by decide +kernel, by decide +kernel, by decide +kernel⟩
theorem cb_X8_years : jv_cb yX8_years cX8_years 3 (some .int) 1 := ⟨mw_53, mw_584, by decide +kernel, by decide +kernel, by decide +kernel⟩
theorem cb_X8_undo : jv_cb yX8_undo cX8_undo 1 (some .int) 0 := ⟨mw_53, mw_610, by decide +kernel, by decide +kernel, by decide +kernel⟩
theorem cb_X8_now : jv_cb yX8_now cX8_now 2 (some .int) 1 := ⟨mw_53, mw_618, by decide +kernel, by decide +kernel, by decide +kernel⟩
theorem cb_X8_when : jv_cb yX8_when cX8_when 3 (some .int) 2 := ⟨mw_53, mw_643, by decide +kernel, by decide +kernel, by decide +kernel⟩
theorem cb_X8_hot : jv_cb yX8_hot cX8_hot 3 (some .int) 2 := ⟨mw_53, mw_648, by decide +kernel, by decide +kernel, by decide +kernel⟩
theorem cb_X8_plan : jv_cb yX8_plan cX8_plan 2 (some .int) 1 := ⟨mw_53, mw_652, by decide +kernel, by decide +kernel, by decide +kernel⟩
theorem cb_X8_best : jv_cb yX8_best cX8_best 7 (some .int) 2 := ⟨mw_53, mw_665, by decide +kernel, by decide +kernel, by decide +kernel⟩
theorem cb_X8_beds : jv_cb yX8_beds cX8_beds 3 (some .int) 2 := ⟨mw_53, mw_676, by decide +kernel, by decide +kernel, by decide +kernel⟩
theorem cb_X8_odds : jv_cb yX8_odds cX8_odds 7 (some .int) 3 := ⟨mw_53, mw_696, by decide +kernel, by decide +kernel, by decide +kernel⟩
theorem cb_X8_hears : jv_cb yX8_hears cX8_hears 3 (some .int) 2 := ⟨mw_53, mw_708, by decide +kernel, by decide +kernel, by decide +kernel⟩
theorem cb_X8_forget : jv_cb yX8_forget cX8_forget 1 (some .int) 0 := ⟨mw_53, mw_716, by decide +kernel, by decide +kernel, by decide +kernel⟩
theorem cb_X8_whose : jv_cb yX8_whose cX8_whose 1 (some .int) 0 := ⟨mw_53, mw_720, by decide +kernel, by decide +kernel, by decide +kernel⟩
theorem cb_X8_ask : jv_cb yX8_ask cX8_ask 1 (some .int) 0 := ⟨mw_53, mw_734, by decide +kernel, by decide +kernel, by decide +kernel⟩
theorem cb_X8_mark : jv_cb yX8_mark cX8_mark 3 (some .int) 2 := ⟨mw_53, mw_749, by decide +kernel, by decide +kernel, by decide +kernel⟩
theorem cb_X8_keep : jv_cb yX8_keep cX8_keep 2 (some .int) 1 := ⟨mw_53, mw_790, by decide +kernel, by decide +kernel, by decide +kernel⟩
theorem cb_X8_back : jv_cb yX8_back cX8_back 2 (some .int) 1 := ⟨mw_53, mw_802, by decide +kernel, by decide +kernel, by decide +kernel⟩
theorem cb_X8_count : jv_cb yX8_count cX8_count 2 (some .int) 1 := ⟨mw_53, mw_806, by decide +kernel, by decide +kernel, by decide +kernel⟩
theorem cb_X8_trace : jv_cb yX8_trace cX8_trace 1 (some .long) 0 := ⟨mw_53, mw_810, by decide +kernel, by decide +kernel, by decide +kernel⟩
theorem cb_X8_isWithin : jv_cb yX8_isWithin cX8_isWithin 3 (some .boolean) 3 := ⟨mw_53, mw_366, by decide +kernel, by decide +kernel, by decide +kernel⟩
theorem cb_X8_bit : jv_cb yX8_bit cX8_bit 1 (some .int) 1 := ⟨mw_53, mw_470, by decide +kernel, by decide +kernel, by decide +kernel⟩
theorem cb_X8_imageOf : jv_cb yX8_imageOf cX8_imageOf 2 (some (.object "TemperNurses$Course")) 1 := ⟨mw_53, mw_794, by decide +kernel, by decide +kernel, by decide +kernel⟩
theorem cb_X8_countLooseWays : jv_cb yX8_countLooseWays cX8_countLooseWays 5 (some .int) 2 := ⟨mw_53, mw_700, by decide +kernel, by decide +kernel, by decide +kernel⟩
theorem cb_X8_commonDivisor : jv_cb yX8_commonDivisor cX8_commonDivisor 6 (some .int) 2 := ⟨mw_53, mw_704, by decide +kernel, by decide +kernel, by decide +kernel⟩
theorem cb_X9_init : jv_cb yX9_init cX9_init 1 none 0 := ⟨mw_62, mw_815, by decide +kernel, by decide +kernel, by decide +kernel⟩
theorem cb_X9_in : jv_cb yX9_in cX9_in 6 (some .boolean) 3 := ⟨mw_62, mw_918, by decide +kernel, by decide +kernel, by decide +kernel⟩
theorem cb_X9_has : jv_cb yX9_has cX9_has 2 (some .boolean) 2 := ⟨mw_62, mw_1103, by decide +kernel, by decide +kernel, by decide +kernel⟩
theorem cb_X9_bits : jv_cb yX9_bits cX9_bits 3 (some .int) 1 := ⟨mw_62, mw_999, by decide +kernel, by decide +kernel, by decide +kernel⟩
theorem cb_X9_isTemper : jv_cb yX9_isTemper cX9_isTemper 2 (some .boolean) 1 := ⟨mw_62, mw_970, by decide +kernel, by decide +kernel, by decide +kernel⟩
theorem cb_X9_isNurse : jv_cb yX9_isNurse cX9_isNurse 2 (some .boolean) 1 := ⟨mw_62, mw_987, by decide +kernel, by decide +kernel, by decide +kernel⟩
theorem cb_X9_type : jv_cb yX9_type cX9_type 2 (some .int) 1 := ⟨mw_62, mw_914, by decide +kernel, by decide +kernel, by decide +kernel⟩
theorem cb_X9_clear : jv_cb yX9_clear cX9_clear 2 (some .int) 0 := ⟨mw_62, mw_922, by decide +kernel, by decide +kernel, by decide +kernel⟩
theorem cb_X9_isBetween : jv_cb yX9_isBetween cX9_isBetween 4 (some .boolean) 3 := ⟨mw_62, mw_934, by decide +kernel, by decide +kernel, by decide +kernel⟩
theorem cb_X9_lookAt : jv_cb yX9_lookAt cX9_lookAt 4 none 1 := ⟨mw_62, mw_930, by decide +kernel, by decide +kernel, by decide +kernel⟩
theorem cb_X9_isLetter : jv_cb yX9_isLetter cX9_isLetter 2 (some .boolean) 1 := ⟨mw_62, mw_942, by decide +kernel, by decide +kernel, by decide +kernel⟩
theorem cb_X9_takes : jv_cb yX9_takes cX9_takes 4 (some .boolean) 3 := ⟨mw_62, mw_950, by decide +kernel, by decide +kernel, by decide +kernel⟩
theorem cb_X9_takesTemper : jv_cb yX9_takesTemper cX9_takesTemper 2 (some .boolean) 0 := ⟨mw_62, mw_946, by decide +kernel, by decide +kernel, by decide +kernel⟩
theorem cb_X9_takesNurse : jv_cb yX9_takesNurse cX9_takesNurse 2 (some .boolean) 0 := ⟨mw_62, mw_954, by decide +kernel, by decide +kernel, by decide +kernel⟩
theorem cb_X9_takesClash : jv_cb yX9_takesClash cX9_takesClash 1 (some .boolean) 0 := ⟨mw_62, mw_958, by decide +kernel, by decide +kernel, by decide +kernel⟩
theorem cb_X9_takesItem : jv_cb yX9_takesItem cX9_takesItem 1 (some .boolean) 0 := ⟨mw_62, mw_938, by decide +kernel, by decide +kernel, by decide +kernel⟩
theorem cb_X9_takeAll : jv_cb yX9_takeAll cX9_takeAll 2 none 0 := ⟨mw_62, mw_962, by decide +kernel, by decide +kernel, by decide +kernel⟩
theorem cb_X9_hill : jv_cb yX9_hill cX9_hill 2 (some .int) 0 := ⟨mw_62, mw_926, by decide +kernel, by decide +kernel, by decide +kernel⟩
theorem cb_X9_heat : jv_cb yX9_heat cX9_heat 2 (some .int) 1 := ⟨mw_62, mw_975, by decide +kernel, by decide +kernel, by decide +kernel⟩
theorem cb_X9_whom : jv_cb yX9_whom cX9_whom 4 (some .int) 1 := ⟨mw_62, mw_996, by decide +kernel, by decide +kernel, by decide +kernel⟩
theorem cb_X9_maySend : jv_cb yX9_maySend cX9_maySend 4 (some .boolean) 2 := ⟨mw_62, mw_992, by decide +kernel, by decide +kernel, by decide +kernel⟩
theorem cb_X9_ring : jv_cb yX9_ring cX9_ring 4 (some .int) 1 := ⟨mw_62, mw_979, by decide +kernel, by decide +kernel, by decide +kernel⟩
theorem cb_X9_temper : jv_cb yX9_temper cX9_temper 3 (some .int) 2 := ⟨mw_62, mw_966, by decide +kernel, by decide +kernel, by decide +kernel⟩
theorem cb_X9_nurse : jv_cb yX9_nurse cX9_nurse 5 (some .int) 2 := ⟨mw_62, mw_983, by decide +kernel, by decide +kernel, by decide +kernel⟩
theorem cb_X9_save : jv_cb yX9_save cX9_save 2 none 0 := ⟨mw_62, mw_1007, by decide +kernel, by decide +kernel, by decide +kernel⟩
theorem cb_X9_sends : jv_cb yX9_sends cX9_sends 3 (some .int) 2 := ⟨mw_62, mw_1003, by decide +kernel, by decide +kernel, by decide +kernel⟩
theorem cb_X9_fetches : jv_cb yX9_fetches cX9_fetches 3 (some .int) 1 := ⟨mw_62, mw_1011, by decide +kernel, by decide +kernel, by decide +kernel⟩
theorem cb_X9_visits : jv_cb yX9_visits cX9_visits 2 (some .int) 1 := ⟨mw_62, mw_1015, by decide +kernel, by decide +kernel, by decide +kernel⟩
theorem cb_X9_right : jv_cb yX9_right cX9_right 4 (some .int) 0 := ⟨mw_62, mw_1023, by decide +kernel, by decide +kernel, by decide +kernel⟩
theorem cb_X9_mixes : jv_cb yX9_mixes cX9_mixes 4 (some .int) 2 := ⟨mw_62, mw_1019, by decide +kernel, by decide +kernel, by decide +kernel⟩
theorem cb_X9_aged : jv_cb yX9_aged cX9_aged 6 (some .int) 3 := ⟨mw_62, mw_1032, by decide +kernel, by decide +kernel, by decide +kernel⟩
theorem cb_X9_broken : jv_cb yX9_broken cX9_broken 3 (some .int) 0 := ⟨mw_62, mw_1036, by decide +kernel, by decide +kernel, by decide +kernel⟩
theorem cb_X9_years : jv_cb yX9_years cX9_years 4 (some .int) 1 := ⟨mw_62, mw_1027, by decide +kernel, by decide +kernel, by decide +kernel⟩
theorem cb_X9_undo : jv_cb yX9_undo cX9_undo 2 (some .int) 0 := ⟨mw_62, mw_1040, by decide +kernel, by decide +kernel, by decide +kernel⟩
theorem cb_X9_now : jv_cb yX9_now cX9_now 4 (some .int) 1 := ⟨mw_62, mw_1044, by decide +kernel, by decide +kernel, by decide +kernel⟩
theorem cb_X9_whenBroken : jv_cb yX9_whenBroken cX9_whenBroken 5 (some .int) 2 := ⟨mw_62, mw_1053, by decide +kernel, by decide +kernel, by decide +kernel⟩
theorem cb_X9_when : jv_cb yX9_when cX9_when 3 (some .int) 2 := ⟨mw_62, mw_1065, by decide +kernel, by decide +kernel, by decide +kernel⟩
theorem cb_X9_hotIn : jv_cb yX9_hotIn cX9_hotIn 5 (some .int) 2 := ⟨mw_62, mw_1074, by decide +kernel, by decide +kernel, by decide +kernel⟩
theorem cb_X9_hot : jv_cb yX9_hot cX9_hot 3 (some .int) 2 := ⟨mw_62, mw_1069, by decide +kernel, by decide +kernel, by decide +kernel⟩
theorem cb_X9_ways : jv_cb yX9_ways cX9_ways 3 (some .int) 0 := ⟨mw_62, mw_1057, by decide +kernel, by decide +kernel, by decide +kernel⟩
theorem cb_X9_mayBe : jv_cb yX9_mayBe cX9_mayBe 6 (some .boolean) 1 := ⟨mw_62, mw_1061, by decide +kernel, by decide +kernel, by decide +kernel⟩
theorem cb_X9_plan : jv_cb yX9_plan cX9_plan 6 (some .int) 1 := ⟨mw_62, mw_1078, by decide +kernel, by decide +kernel, by decide +kernel⟩
theorem cb_X9_soonest : jv_cb yX9_soonest cX9_soonest 6 (some .int) 0 := ⟨mw_62, mw_1048, by decide +kernel, by decide +kernel, by decide +kernel⟩
theorem cb_X9_worthBehind : jv_cb yX9_worthBehind cX9_worthBehind 5 (some .int) 2 := ⟨mw_62, mw_1087, by decide +kernel, by decide +kernel, by decide +kernel⟩
theorem cb_X9_best : jv_cb yX9_best cX9_best 5 (some .int) 2 := ⟨mw_62, mw_1082, by decide +kernel, by decide +kernel, by decide +kernel⟩
theorem cb_X9_isBed : jv_cb yX9_isBed cX9_isBed 4 (some .boolean) 3 := ⟨mw_62, mw_1100, by decide +kernel, by decide +kernel, by decide +kernel⟩
theorem cb_X9_bedsBy : jv_cb yX9_bedsBy cX9_bedsBy 7 (some .int) 2 := ⟨mw_62, mw_1096, by decide +kernel, by decide +kernel, by decide +kernel⟩
theorem cb_X9_beds : jv_cb yX9_beds cX9_beds 8 (some .int) 2 := ⟨mw_62, mw_1091, by decide +kernel, by decide +kernel, by decide +kernel⟩
theorem cb_X9_odds : jv_cb yX9_odds cX9_odds 10 (some .int) 3 := ⟨mw_62, mw_1107, by decide +kernel, by decide +kernel, by decide +kernel⟩
theorem cb_X9_hears : jv_cb yX9_hears cX9_hears 3 (some .int) 2 := ⟨mw_62, mw_1112, by decide +kernel, by decide +kernel, by decide +kernel⟩
theorem cb_X9_forget : jv_cb yX9_forget cX9_forget 2 (some .int) 0 := ⟨mw_62, mw_1116, by decide +kernel, by decide +kernel, by decide +kernel⟩
theorem cb_X9_whose : jv_cb yX9_whose cX9_whose 5 (some .int) 0 := ⟨mw_62, mw_1120, by decide +kernel, by decide +kernel, by decide +kernel⟩
theorem cb_X9_ask : jv_cb yX9_ask cX9_ask 8 (some .int) 0 := ⟨mw_62, mw_1124, by decide +kernel, by decide +kernel, by decide +kernel⟩
theorem cb_X9_markAs : jv_cb yX9_markAs cX9_markAs 3 (some .int) 2 := ⟨mw_62, mw_1134, by decide +kernel, by decide +kernel, by decide +kernel⟩
theorem cb_X9_markAs0 : jv_cb yX9_markAs0 cX9_markAs0 2 (some .int) 1 := ⟨mw_62, mw_1138, by decide +kernel, by decide +kernel, by decide +kernel⟩
theorem cb_X9_mark : jv_cb yX9_mark cX9_mark 3 (some .int) 2 := ⟨mw_62, mw_1129, by decide +kernel, by decide +kernel, by decide +kernel⟩
theorem cb_X9_keep : jv_cb yX9_keep cX9_keep 3 (some .int) 1 := ⟨mw_62, mw_1146, by decide +kernel, by decide +kernel, by decide +kernel⟩
theorem cb_X9_back : jv_cb yX9_back cX9_back 3 (some .int) 1 := ⟨mw_62, mw_1150, by decide +kernel, by decide +kernel, by decide +kernel⟩
theorem cb_X9_count : jv_cb yX9_count cX9_count 2 (some .int) 1 := ⟨mw_62, mw_1154, by decide +kernel, by decide +kernel, by decide +kernel⟩
theorem cb_X9_trace : jv_cb yX9_trace cX9_trace 1 (some .long) 0 := ⟨mw_62, mw_1158, by decide +kernel, by decide +kernel, by decide +kernel⟩
theorem cb_J6_bitCount_0f7a4 : jv_cb yJ6_bitCount_0f7a4 cJ6_bitCount_0f7a4 1 (some .int) 1 := ⟨mw_65, mw_543, by decide +kernel, by decide +kernel, by decide +kernel⟩
theorem cb_J9_max_7cf53 : jv_cb yJ9_max_7cf53 cJ9_max_7cf53 2 (some .int) 2 := ⟨mw_66, mw_601, by decide +kernel, by decide +kernel, by decide +kernel⟩
theorem cb_J9_min_7cf53 : jv_cb yJ9_min_7cf53 cJ9_min_7cf53 2 (some .int) 2 := ⟨mw_66, mw_598, by decide +kernel, by decide +kernel, by decide +kernel⟩
theorem cb_J7_fill_53178 : jv_cb yJ7_fill_53178 cJ7_fill_53178 4 none 2 := ⟨mw_63, mw_393, by decide +kernel, by decide +kernel, by decide +kernel⟩
theorem cb_J7_fill_49daa : jv_cb yJ7_fill_49daa cJ7_fill_49daa 4 none 2 := ⟨mw_63, mw_484, by decide +kernel, by decide +kernel, by decide +kernel⟩
theorem cv_X8_83 : jv_cv RX8 83 yX1_begin := ⟨mw_298, mw_299, mw_300⟩
theorem cv_X1_19 : jv_cv RX1 19 yX1_setYear := ⟨mw_302, mw_303, mw_304⟩
theorem cv_X1_48 : jv_cv RX1 48 yX1_setCell := ⟨mw_306, mw_308, mw_0⟩
theorem cv_X1_28 : jv_cv RX1 28 yX1_setHeat := ⟨mw_310, mw_311, mw_312⟩
theorem cv_X1_32 : jv_cv RX1 32 yX1_setPlace := ⟨mw_314, mw_315, mw_316⟩
theorem cv_X1_35 : jv_cv RX1 35 yX1_setOwner := ⟨mw_318, mw_319, mw_320⟩
theorem cs_X8_87 : jv_cs RX8 87 yX8_isWithin := ⟨mw_364, mw_365⟩
theorem cv_X8_91 : jv_cv RX8 91 yX7_append := ⟨mw_367, mw_368, mw_369⟩
theorem cv_X8_99 : jv_cv RX8 99 yX7_empty := ⟨mw_375, mw_376, mw_377⟩
theorem cv_X8_103 : jv_cv RX8 103 yX7_readAll := ⟨mw_383, mw_384, mw_385⟩
theorem cv_X7_29 : jv_cv RX7 29 yX2_wipe := ⟨mw_387, mw_388, mw_389⟩
theorem cs_X2_40 : jv_cs RX2 40 yJ7_fill_53178 := ⟨mw_391, mw_392⟩
theorem cv_X7_38 : jv_cv RX7 38 yX7_readToken := ⟨mw_394, mw_396, mw_1⟩
theorem cv_X7_110 : jv_cv RX7 110 yX7_byteAt := ⟨mw_398, mw_400, mw_2⟩
theorem cn_X7_76 : jv_cn RX7 76 yX8_isWithin "TemperNurses" := ⟨List.mem_of_getElem? (i := 4) rfl, mw_365⟩
theorem cv_X7_114 : jv_cv RX7 114 yX7_isLetter := ⟨mw_403, mw_405, mw_3⟩
theorem cv_X7_117 : jv_cv RX7 117 yX7_readLetters := ⟨mw_407, mw_409, mw_4⟩
theorem cv_X7_120 : jv_cv RX7 120 yX7_isDigit := ⟨mw_411, mw_413, mw_5⟩
theorem cv_X7_123 : jv_cv RX7 123 yX7_readDigits := ⟨mw_415, mw_417, mw_6⟩
theorem cv_X7_44 : jv_cv RX7 44 yX7_canStand := ⟨mw_419, mw_421, mw_7⟩
theorem cv_X7_54 : jv_cv RX7 54 yX7_canBeginItem := ⟨mw_423, mw_425, mw_8⟩
theorem cv_X7_60 : jv_cv RX7 60 yX7_numbersOfItem := ⟨mw_427, mw_429, mw_9⟩
theorem cv_X7_64 : jv_cv RX7 64 yX7_canBeTold := ⟨mw_431, mw_433, mw_10⟩
theorem cv_X7_92 : jv_cv RX7 92 yX2_hasTemper := ⟨mw_443, mw_444, mw_445⟩
theorem cv_X7_51 : jv_cv RX7 51 yX7_takeToken := ⟨mw_447, mw_449, mw_11⟩
theorem cv_X7_96 : jv_cv RX7 96 yX7_takeItem := ⟨mw_451, mw_453, mw_12⟩
theorem cv_X7_99 : jv_cv RX7 99 yX2_addTemper := ⟨mw_455, mw_456, mw_457⟩
theorem cv_X7_103 : jv_cv RX7 103 yX2_addNurse := ⟨mw_459, mw_460, mw_461⟩
theorem cv_X7_106 : jv_cv RX7 106 yX2_addClash := ⟨mw_463, mw_464, mw_465⟩
theorem cv_X2_46 : jv_cv RX2 46 yX2_hasTemper := ⟨mw_467, mw_444, mw_445⟩
theorem cn_X2_50 : jv_cn RX2 50 yX8_bit "TemperNurses" := ⟨List.mem_of_getElem? (i := 5) rfl, mw_469⟩
theorem cv_X8_109 : jv_cv RX8 109 yX2_take := ⟨mw_471, mw_472, mw_473⟩
theorem cv_X8_112 : jv_cv RX8 112 yX5_empty := ⟨mw_478, mw_479, mw_480⟩
theorem cs_X8_113 : jv_cs RX8 113 yJ7_fill_49daa := ⟨mw_482, mw_483⟩
theorem cv_X8_119 : jv_cv RX8 119 yX2_hasTemper := ⟨mw_489, mw_444, mw_445⟩
theorem cv_X8_122 : jv_cv RX8 122 yX1_heat := ⟨mw_490, mw_491, mw_492⟩
theorem cv_X1_44 : jv_cv RX1 44 yX1_cell := ⟨mw_494, mw_496, mw_13⟩
theorem cv_X8_132 : jv_cv RX8 132 yX1_place := ⟨mw_498, mw_499, mw_500⟩
theorem cv_X8_135 : jv_cv RX8 135 yX1_owner := ⟨mw_502, mw_503, mw_504⟩
theorem cv_X8_141 : jv_cv RX8 141 yX1_ring := ⟨mw_506, mw_507, mw_508⟩
theorem cv_X1_51 : jv_cv RX1 51 yX1_owner := ⟨mw_510, mw_503, mw_504⟩
theorem cv_X8_144 : jv_cv RX8 144 yX2_hasNurse := ⟨mw_515, mw_516, mw_517⟩
theorem cv_X8_156 : jv_cv RX8 156 yX3_thoseWith := ⟨mw_519, mw_520, mw_521⟩
theorem cv_X3_34 : jv_cv RX3 34 yX1_place := ⟨mw_523, mw_499, mw_500⟩
theorem cn_X3_31 : jv_cn RX3 31 yX8_bit "TemperNurses" := ⟨List.mem_of_getElem? (i := 6) rfl, mw_469⟩
theorem cv_X8_159 : jv_cv RX8 159 yX3_thoseThatMayBeSentTo := ⟨mw_525, mw_526, mw_527⟩
theorem cv_X3_37 : jv_cv RX3 37 yX3_mayBeSent := ⟨mw_529, mw_530, mw_531⟩
theorem cv_X3_41 : jv_cv RX3 41 yX3_thoseWith := ⟨mw_533, mw_520, mw_521⟩
theorem cv_X3_44 : jv_cv RX3 44 yX3_mayJoin := ⟨mw_534, mw_535, mw_536⟩
theorem cv_X3_48 : jv_cv RX3 48 yX2_hasTemper := ⟨mw_538, mw_444, mw_445⟩
theorem cv_X3_52 : jv_cv RX3 52 yX2_hasNurse := ⟨mw_539, mw_516, mw_517⟩
theorem cv_X3_25 : jv_cv RX3 25 yX1_heat := ⟨mw_540, mw_491, mw_492⟩
theorem cs_X3_59 : jv_cs RX3 59 yJ6_bitCount_0f7a4 := ⟨mw_541, mw_542⟩
theorem cv_X8_162 : jv_cv RX8 162 yX3_mayBeSent := ⟨mw_551, mw_530, mw_531⟩
theorem cv_X8_166 : jv_cv RX8 166 yX1_remember := ⟨mw_552, mw_553, mw_554⟩
theorem cv_X8_169 : jv_cv RX8 169 yX1_setPlace := ⟨mw_557, mw_315, mw_316⟩
theorem cs_X8_173 : jv_cs RX8 173 yJ6_bitCount_0f7a4 := ⟨mw_558, mw_542⟩
theorem cv_X8_178 : jv_cv RX8 178 yX1_setHeat := ⟨mw_567, mw_311, mw_312⟩
theorem cv_X8_181 : jv_cv RX8 181 yX1_setOwner := ⟨mw_572, mw_319, mw_320⟩
theorem cv_X8_187 : jv_cv RX8 187 yX1_mixesToRight := ⟨mw_573, mw_574, mw_575⟩
theorem cv_X1_54 : jv_cv RX1 54 yX1_isLowestOfRing := ⟨mw_577, mw_579, mw_14⟩
theorem cv_X8_190 : jv_cv RX8 190 yX1_year := ⟨mw_585, mw_586, mw_587⟩
theorem cv_X8_193 : jv_cv RX8 193 yX3_heatIn := ⟨mw_589, mw_590, mw_591⟩
theorem cs_X3_76 : jv_cs RX3 76 yX3_heatNextYear := ⟨mw_593, mw_594⟩
theorem cs_X3_96 : jv_cs RX3 96 yJ9_min_7cf53 := ⟨mw_596, mw_597⟩
theorem cs_X3_84 : jv_cs RX3 84 yJ9_max_7cf53 := ⟨mw_599, mw_600⟩
theorem cv_X8_197 : jv_cv RX8 197 yX1_setYear := ⟨mw_602, mw_303, mw_304⟩
theorem cv_X8_201 : jv_cv RX8 201 yX3_broken := ⟨mw_603, mw_604, mw_605⟩
theorem cv_X8_204 : jv_cv RX8 204 yX1_stepBack := ⟨mw_611, mw_612, mw_613⟩
theorem cv_X8_211 : jv_cv RX8 211 yX6_soonest := ⟨mw_619, mw_620, mw_621⟩
theorem cv_X6_56 : jv_cv RX6 56 yX3_yearsTillBroken := ⟨mw_623, mw_624, mw_625⟩
theorem cs_X6_32 : jv_cs RX6 32 yJ7_fill_53178 := ⟨mw_627, mw_392⟩
theorem cv_X6_63 : jv_cv RX6 63 yX6_tryYears := ⟨mw_628, mw_630, mw_15⟩
theorem cv_X6_84 : jv_cv RX6 84 yX1_heat := ⟨mw_632, mw_491, mw_492⟩
theorem cv_X6_72 : jv_cv RX6 72 yX3_mayJoin := ⟨mw_633, mw_535, mw_536⟩
theorem cn_X6_76 : jv_cn RX6 76 yX8_bit "TemperNurses" := ⟨List.mem_of_getElem? (i := 7) rfl, mw_469⟩
theorem cs_X6_89 : jv_cs RX6 89 yJ9_max_7cf53 := ⟨mw_635, mw_600⟩
theorem cv_X8_214 : jv_cv RX8 214 yX3_heatOfAll := ⟨mw_636, mw_637, mw_638⟩
theorem cv_X8_217 : jv_cv RX8 217 yX3_yearsTillBroken := ⟨mw_644, mw_624, mw_625⟩
theorem cv_X8_220 : jv_cv RX8 220 yX6_findPlan := ⟨mw_653, mw_654, mw_655⟩
theorem cv_X6_38 : jv_cv RX6 38 yX6_tryPlaces := ⟨mw_657, mw_659, mw_16⟩
theorem cv_X8_230 : jv_cv RX8 230 yX3_worthOfFetching := ⟨mw_667, mw_668, mw_669⟩
theorem cv_X3_80 : jv_cv RX3 80 yX3_heatIn := ⟨mw_671, mw_590, mw_591⟩
theorem cv_X3_89 : jv_cv RX3 89 yX1_year := ⟨mw_672, mw_586, mw_587⟩
theorem cv_X8_233 : jv_cv RX8 233 yX0_makeBeds := ⟨mw_677, mw_678, mw_679⟩
theorem cs_X0_29 : jv_cs RX0 29 yJ7_fill_53178 := ⟨mw_681, mw_392⟩
theorem cv_X0_35 : jv_cv RX0 35 yX0_tryOthers := ⟨mw_682, mw_684, mw_17⟩
theorem cv_X0_56 : jv_cv RX0 56 yX0_mayShare := ⟨mw_687, mw_689, mw_18⟩
theorem cn_X0_63 : jv_cn RX0 63 yX8_bit "TemperNurses" := ⟨List.mem_of_getElem? (i := 8) rfl, mw_469⟩
theorem cv_X0_71 : jv_cv RX0 71 yX1_heat := ⟨mw_692, mw_491, mw_492⟩
theorem cv_X8_238 : jv_cv RX8 238 yX8_countLooseWays := ⟨mw_697, mw_699, mw_19⟩
theorem cs_X8_287 : jv_cs RX8 287 yJ7_fill_53178 := ⟨mw_701, mw_392⟩
theorem cs_X8_241 : jv_cs RX8 241 yX8_commonDivisor := ⟨mw_702, mw_703⟩
theorem cv_X8_244 : jv_cv RX8 244 yX5_append := ⟨mw_709, mw_710, mw_711⟩
theorem cv_X8_249 : jv_cv RX8 249 yX5_suspects := ⟨mw_721, mw_722, mw_723⟩
theorem cv_X5_41 : jv_cv RX5 41 yX1_heat := ⟨mw_725, mw_491, mw_492⟩
theorem cv_X5_47 : jv_cv RX5 47 yX5_isAsHeard := ⟨mw_726, mw_728, mw_20⟩
theorem cn_X5_51 : jv_cn RX5 51 yX8_bit "TemperNurses" := ⟨List.mem_of_getElem? (i := 9) rfl, mw_469⟩
theorem cv_X8_252 : jv_cv RX8 252 yX5_nextBang := ⟨mw_735, mw_736, mw_737⟩
theorem cv_X5_54 : jv_cv RX5 54 yX5_suspects := ⟨mw_739, mw_722, mw_723⟩
theorem cs_X5_58 : jv_cs RX5 58 yJ6_bitCount_0f7a4 := ⟨mw_740, mw_542⟩
theorem cv_X5_63 : jv_cv RX5 63 yX5_countBanging := ⟨mw_741, mw_743, mw_21⟩
theorem cs_X5_67 : jv_cs RX5 67 yJ9_max_7cf53 := ⟨mw_745, mw_600⟩
theorem cv_X8_255 : jv_cv RX8 255 yX4_asTemper := ⟨mw_750, mw_751, mw_752⟩
theorem cv_X4_23 : jv_cv RX4 23 yX1_heat := ⟨mw_754, mw_491, mw_492⟩
theorem cv_X8_258 : jv_cv RX8 258 yX4_asRage := ⟨mw_755, mw_756, mw_757⟩
theorem cv_X4_31 : jv_cv RX4 31 yX4_asTemper := ⟨mw_760, mw_751, mw_752⟩
theorem cv_X4_38 : jv_cv RX4 38 yX2_hasTemper := ⟨mw_761, mw_444, mw_445⟩
theorem cv_X8_261 : jv_cv RX8 261 yX4_asSulk := ⟨mw_762, mw_763, mw_764⟩
theorem cv_X4_50 : jv_cv RX4 50 yX3_broken := ⟨mw_767, mw_604, mw_605⟩
theorem cs_X4_54 : jv_cs RX4 54 yJ6_bitCount_0f7a4 := ⟨mw_768, mw_542⟩
theorem cv_X8_264 : jv_cv RX8 264 yX4_asStorm := ⟨mw_769, mw_770, mw_771⟩
theorem cv_X4_61 : jv_cv RX4 61 yX4_asRage := ⟨mw_774, mw_756, mw_757⟩
theorem cv_X8_267 : jv_cv RX8 267 yX4_asGrudge := ⟨mw_775, mw_776, mw_777⟩
theorem cv_X4_66 : jv_cv RX4 66 yX4_asSulk := ⟨mw_780, mw_763, mw_764⟩
theorem cv_X8_270 : jv_cv RX8 270 yX4_asPet := ⟨mw_781, mw_782, mw_783⟩
theorem cv_X4_71 : jv_cv RX4 71 yX1_year := ⟨mw_786, mw_586, mw_587⟩
theorem cv_X8_273 : jv_cv RX8 273 yX8_imageOf := ⟨mw_791, mw_793, mw_22⟩
theorem cv_X8_277 : jv_cv RX8 277 yX1_take := ⟨mw_795, mw_796, mw_797⟩
theorem cs_X9_75 : jv_cs RX9 75 yX9_in := ⟨mw_916, mw_917⟩
theorem cv_X9_103 : jv_cv RX9 103 yX9_lookAt := ⟨mw_927, mw_929, mw_23⟩
theorem cv_X9_93 : jv_cv RX9 93 yX9_isBetween := ⟨mw_931, mw_933, mw_24⟩
theorem cv_X9_133 : jv_cv RX9 133 yX9_takesItem := ⟨mw_935, mw_937, mw_25⟩
theorem cv_X9_116 : jv_cv RX9 116 yX9_isLetter := ⟨mw_939, mw_941, mw_26⟩
theorem cv_X9_120 : jv_cv RX9 120 yX9_takesTemper := ⟨mw_943, mw_945, mw_27⟩
theorem cv_X9_110 : jv_cv RX9 110 yX9_takes := ⟨mw_947, mw_949, mw_28⟩
theorem cv_X9_124 : jv_cv RX9 124 yX9_takesNurse := ⟨mw_951, mw_953, mw_29⟩
theorem cv_X9_127 : jv_cv RX9 127 yX9_takesClash := ⟨mw_955, mw_957, mw_30⟩
theorem cv_X9_136 : jv_cv RX9 136 yX9_takeAll := ⟨mw_959, mw_961, mw_31⟩
theorem cv_X9_149 : jv_cv RX9 149 yX9_isTemper := ⟨mw_967, mw_969, mw_32⟩
theorem cv_X9_143 : jv_cv RX9 143 yX9_heat := ⟨mw_972, mw_974, mw_33⟩
theorem cv_X9_154 : jv_cv RX9 154 yX9_ring := ⟨mw_976, mw_978, mw_34⟩
theorem cv_X9_157 : jv_cv RX9 157 yX9_isNurse := ⟨mw_984, mw_986, mw_35⟩
theorem cv_X9_162 : jv_cv RX9 162 yX9_maySend := ⟨mw_989, mw_991, mw_36⟩
theorem cv_X9_139 : jv_cv RX9 139 yX9_whom := ⟨mw_993, mw_995, mw_37⟩
theorem cs_X9_146 : jv_cs RX9 146 yX9_bits := ⟨mw_997, mw_998⟩
theorem cv_X9_166 : jv_cv RX9 166 yX9_save := ⟨mw_1004, mw_1006, mw_38⟩
theorem cv_X9_169 : jv_cv RX9 169 yX9_right := ⟨mw_1020, mw_1022, mw_39⟩
theorem cv_X9_175 : jv_cv RX9 175 yX9_aged := ⟨mw_1029, mw_1031, mw_40⟩
theorem cv_X9_179 : jv_cv RX9 179 yX9_broken := ⟨mw_1033, mw_1035, mw_41⟩
theorem cv_X9_182 : jv_cv RX9 182 yX9_soonest := ⟨mw_1045, mw_1047, mw_42⟩
theorem cv_X9_185 : jv_cv RX9 185 yX9_whenBroken := ⟨mw_1050, mw_1052, mw_43⟩
theorem cv_X9_194 : jv_cv RX9 194 yX9_ways := ⟨mw_1054, mw_1056, mw_44⟩
theorem cv_X9_197 : jv_cv RX9 197 yX9_mayBe := ⟨mw_1058, mw_1060, mw_45⟩
theorem cv_X9_191 : jv_cv RX9 191 yX9_hotIn := ⟨mw_1071, mw_1073, mw_46⟩
theorem cv_X9_202 : jv_cv RX9 202 yX9_worthBehind := ⟨mw_1084, mw_1086, mw_47⟩
theorem cv_X9_213 : jv_cv RX9 213 yX9_bedsBy := ⟨mw_1093, mw_1095, mw_48⟩
theorem cv_X9_208 : jv_cv RX9 208 yX9_isBed := ⟨mw_1097, mw_1099, mw_49⟩
theorem cs_X9_205 : jv_cs RX9 205 yX9_has := ⟨mw_1101, mw_1102⟩
theorem cv_X9_218 : jv_cv RX9 218 yX9_whose := ⟨mw_1125, mw_1118, mw_1119⟩
theorem cv_X9_238 : jv_cv RX9 238 yX9_markAs := ⟨mw_1131, mw_1133, mw_50⟩
theorem cv_X9_225 : jv_cv RX9 225 yX9_markAs0 := ⟨mw_1135, mw_1137, mw_51⟩
end
section
/-! THE QUIET MACHINE: after the constructors no call makes a cell, and no reference field changes. So a state is a fixed SHAPE (a list of cells: rows of ints or booleans of a length, objects of a class with their references) and numbers: h.1 k j: the int in place j of cell k; h.2 k j: the long. References are places in the shape; 'ad' gives their addresses. jv_V: from this frame the method ends as the function o says. -/
abbrev jv_H : Type := (Nat → Nat → Int32) × (Nat → Nat → Int64)
abbrev jv_S : Type := (Bool × Nat) ⊕ (Nat × List Value)
def jv_rz (ad : Nat → Nat) (v : Value) : Value := match v with
  | .ref r => .ref (ad r)
  | w => w
theorem jv_rz_cat (ad : Nat → Nat) (v : Value) : (jv_rz ad v).category = v.category := by cases v <;> rfl
theorem jv_cats (ad : Nat → Nat) (st : List Value) : ((st.map (jv_rz ad)).map fun v => v.category) = st.map fun v => v.category := by
  rw [List.map_map]
  exact List.map_congr_left fun v _ => jv_rz_cat ad v
def jv_f (ad : Nat → Nat) (h : jv_H) (k j : Nat) (v : Value) : Value := match v with
  | .int _ => .int (h.1 k j)
  | .long _ => .long (h.2 k j)
  | .ref r => .ref (ad r)
  | w => w
def jv_e (ca : Bool → ClassId) (ad : Nat → Nat) (h : jv_H) (k : Nat) (e : jv_S) : va_E := match e with
  | .inl a => .inl (ca a.1, a.2, .inl (h.1 k))
  | .inr o => .inr (o.1, o.2.mapIdx (jv_f ad h k))
def jv_w (ca : Bool → ClassId) (ad : Nat → Nat) (h : jv_H) (S : List jv_S) : va_W := S.mapIdx (fun k e => (ad k, jv_e ca ad h k e))
theorem jv_w_at {ca : Bool → ClassId} {ad : Nat → Nat} {h : jv_H} {S : List jv_S} {k : Nat} {e : jv_S} (hk : S[k]? = some e) : (jv_w ca ad h S)[k]? = some (ad k, jv_e ca ad h k e) := by
  simp [jv_w, hk]
theorem jv_w_of {ca : Bool → ClassId} {ad : Nat → Nat} {h : jv_H} {S : List jv_S} {k : Nat} {q : Nat × va_E} (hk : (jv_w ca ad h S)[k]? = some q) : k < S.length ∧ q.1 = ad k := by
  simp only [jv_w, List.getElem?_mapIdx] at hk
  cases hs : S[k]? with
  | none => rw [hs] at hk; cases hk
  | some e =>
    rw [hs] at hk
    cases hk
    exact ⟨(List.getElem?_eq_some_iff.mp hs).1, rfl⟩
/-- cell k holds these ints now -/
def jv_s (h : jv_H) (k : Nat) (f : Nat → Int32) : jv_H := (fun a => if a = k then f else h.1 a, h.2)
/-- place j of cell k holds this long now -/
def jv_l (h : jv_H) (k j : Nat) (v : Int64) : jv_H := (h.1, fun a b => if a = k ∧ b = j then v else h.2 a b)
theorem jv_s_same (h : jv_H) (k : Nat) (f : Nat → Int32) : (jv_s h k f).1 k = f := if_pos rfl
theorem jv_s_ne (h : jv_H) {k i : Nat} (f : Nat → Int32) (hi : ¬ i = k) : (jv_s h k f).1 i = h.1 i := if_neg hi
theorem jv_e_s (ca : Bool → ClassId) (ad : Nat → Nat) (h : jv_H) {k i : Nat} (f : Nat → Int32) (e : jv_S) (hi : ¬ i = k) : jv_e ca ad (jv_s h k f) i e = jv_e ca ad h i e := by
  cases e with
  | inl a => simp only [jv_e, jv_s_ne h f hi]
  | inr o =>
    have : jv_f ad (jv_s h k f) i = jv_f ad h i := by
      funext j v
      cases v <;> simp only [jv_f, jv_s, if_neg hi]
    simp only [jv_e, this]
theorem jv_e_l (ca : Bool → ClassId) (ad : Nat → Nat) (h : jv_H) {k i j : Nat} (v : Int64) (e : jv_S) (hi : ¬ i = k) : jv_e ca ad (jv_l h k j v) i e = jv_e ca ad h i e := by
  cases e with
  | inl a => simp only [jv_e, jv_l]
  | inr o =>
    have : jv_f ad (jv_l h k j v) i = jv_f ad h i := by
      funext a w
      cases w <;> simp [jv_f, jv_l, hi]
    simp only [jv_e, this]
theorem jv_w_set {ca : Bool → ClassId} {ad : Nat → Nat} {h h' : jv_H} {S : List jv_S} {k : Nat} {e : jv_S} (hk : S[k]? = some e) {x : va_E} (hx : x = jv_e ca ad h' k e) (ho : ∀ i e, ¬ i = k → jv_e ca ad h' i e = jv_e ca ad h i e) : (jv_w ca ad h S).set k (ad k, x) = jv_w ca ad h' S := by
  have hlt : k < S.length := (List.getElem?_eq_some_iff.mp hk).1
  apply List.ext_getElem?
  intro i
  rw [List.getElem?_set]
  by_cases hi : k = i
  · subst hi
    have hlt' : k < (jv_w ca ad h S).length := by simpa [jv_w] using hlt
    rw [if_pos rfl, if_pos hlt', jv_w_at (h := h') hk, hx]
  · rw [if_neg hi]
    simp only [jv_w, List.getElem?_mapIdx]
    cases S[i]? with
    | none => rfl
    | some e' =>
      show some (ad i, jv_e ca ad h i e') = some (ad i, jv_e ca ad h' i e')
      rw [ho i e' (fun q => hi q.symm)]
theorem jv_w_arr {ca : Bool → ClassId} {ad : Nat → Nat} {h : jv_H} {S : List jv_S} {k : Nat} {z : Bool} {n : Nat} (hk : S[k]? = some (.inl (z, n))) (f : Nat → Int32) : (jv_w ca ad h S).set k (ad k, .inl (ca z, n, .inl f)) = jv_w ca ad (jv_s h k f) S :=
  jv_w_set hk (by simp only [jv_e, jv_s_same]) (fun _ e hi => jv_e_s ca ad h f e hi)
theorem jv_fs_i {ad : Nat → Nat} {h : jv_H} {k j : Nat} {fs : List Value} {z : Int32} (hj : fs[j]? = some (.int z)) (v : Int32) : (fs.mapIdx (jv_f ad h k)).set j (.int v) = fs.mapIdx (jv_f ad (jv_s h k (upd (h.1 k) j v)) k) := by
  have hlt : j < fs.length := (List.getElem?_eq_some_iff.mp hj).1
  apply List.ext_getElem?
  intro i
  rw [List.getElem?_set]
  by_cases hi : j = i
  · subst hi
    rw [if_pos rfl, if_pos (by simpa using hlt), List.getElem?_mapIdx, hj]
    simp [jv_f, jv_s, upd]
  · rw [if_neg hi, List.getElem?_mapIdx, List.getElem?_mapIdx]
    cases fs[i]? with
    | none => rfl
    | some w =>
      have hi' : ¬ i = j := fun q => hi q.symm
      cases w <;> simp [jv_f, jv_s, upd, hi']
theorem jv_fs_l {ad : Nat → Nat} {h : jv_H} {k j : Nat} {fs : List Value} {z : Int64} (hj : fs[j]? = some (.long z)) (v : Int64) : (fs.mapIdx (jv_f ad h k)).set j (.long v) = fs.mapIdx (jv_f ad (jv_l h k j v) k) := by
  have hlt : j < fs.length := (List.getElem?_eq_some_iff.mp hj).1
  apply List.ext_getElem?
  intro i
  rw [List.getElem?_set]
  by_cases hi : j = i
  · subst hi
    rw [if_pos rfl, if_pos (by simpa using hlt), List.getElem?_mapIdx, hj]
    simp [jv_f, jv_l]
  · rw [if_neg hi, List.getElem?_mapIdx, List.getElem?_mapIdx]
    cases fs[i]? with
    | none => rfl
    | some w =>
      have hi' : ¬ i = j := fun q => hi q.symm
      cases w <;> simp [jv_f, jv_l, hi']
theorem jv_w_i {ca : Bool → ClassId} {ad : Nat → Nat} {h : jv_H} {S : List jv_S} {k j ci : Nat} {fs : List Value} {z : Int32} (hk : S[k]? = some (.inr (ci, fs))) (hj : fs[j]? = some (.int z)) (v : Int32) : (jv_w ca ad h S).set k (ad k, .inr (ci, (fs.mapIdx (jv_f ad h k)).set j (.int v))) = jv_w ca ad (jv_s h k (upd (h.1 k) j v)) S :=
  jv_w_set hk (by rw [jv_fs_i hj]; rfl) (fun _ e hi => jv_e_s ca ad h _ e hi)
theorem jv_w_l {ca : Bool → ClassId} {ad : Nat → Nat} {h : jv_H} {S : List jv_S} {k j ci : Nat} {fs : List Value} {z : Int64} (hk : S[k]? = some (.inr (ci, fs))) (hj : fs[j]? = some (.long z)) (v : Int64) : (jv_w ca ad h S).set k (ad k, .inr (ci, (fs.mapIdx (jv_f ad h k)).set j (.long v))) = jv_w ca ad (jv_l h k j v) S :=
  jv_w_set hk (by rw [jv_fs_l hj]; rfl) (fun _ e hi => jv_e_l ca ad h _ e hi)
theorem jv_f_at {ad : Nat → Nat} {h : jv_H} {k j : Nat} {fs : List Value} {w : Value} (hj : fs[j]? = some w) : (fs.mapIdx (jv_f ad h k))[j]? = some (jv_f ad h k j w) := by
  rw [List.getElem?_mapIdx, hj]
  rfl
/-- the cells of the shape -/
def jv_A (ad : Nat → Nat) (S : List jv_S) : Nat → Prop := fun q => ∃ k, k < S.length ∧ q = ad k
def jv_J (ad : Nat → Nat) (S : List jv_S) : Prop := ∀ i j, i < S.length → j < S.length → ad i = ad j → i = j
theorem jv_D {ca : Bool → ClassId} {ad : Nat → Nat} {S : List jv_S} (hJ : jv_J ad S) (h : jv_H) : va_D (jv_A ad S) (jv_w ca ad h S) := by
  refine ⟨fun i j p q hi hj e => ?_, fun k q hk => ?_⟩
  · obtain ⟨a1, a2⟩ := jv_w_of hi
    obtain ⟨b1, b2⟩ := jv_w_of hj
    exact hJ i j a1 b1 (by rw [← a2, ← b2, e])
  · obtain ⟨a1, a2⟩ := jv_w_of hk
    exact ⟨k, a1, a2⟩
def jv_ty (ca : Bool → ClassId) : List (ClassId × FieldType) := [(ca false, .int), (ca true, .boolean)]
/-- the four static rows of TextReader: their names, what they hold; they are the references 1000 .. 1003 -/
def jv_sn (i : Nat) : String := match i with
  | 0 => "TEMPER_LEAST"
  | 1 => "TEMPER_MOST"
  | 2 => "NURSE_LEAST"
  | _ => "NURSE_MOST"
def jv_sc (i j : Nat) : Int32 := match i, j with
  | 0, 0 => 1
  | 0, _ => 0
  | 1, 0 => 60
  | 1, 1 => 5
  | 1, _ => 40
  | 2, _ => 1
  | _, 0 => 9
  | _, 1 => 3
  | _, _ => 99
/-- what stays: classes, links between nest mates, static rows -/
def jv_N (ca : Bool → ClassId) (D : va_G) (ad : Nat → Nat) (S : List jv_S) (U : State) : Prop :=
  va_K D vwCl (jv_ty ca) U ∧ (∀ w ∈ jv_ns, va_Nw w U) ∧ ∀ i, i < 4 → va_Z RX7 (jv_sn i) "[I" (.ref (ad (1000 + i))) (jv_A ad S) U U.heap ∧ va_T .int (ad (1000 + i)) 3 (fun j => .int (jv_sc i j)) (jv_A ad S) U U.heap
theorem jv_N_moved {ca : Bool → ClassId} {D : va_G} {ad : Nat → Nat} {S : List jv_S} {s U : State} (h : jv_N ca D ad S s) (hW : s.WarmedH U.vm) (hq : ∀ a : Nat, a < s.heap.size → ¬ jv_A ad S a → U.heap[a]? = s.heap[a]?) : jv_N ca D ad S U := by
  refine ⟨va_K.moved hW.alike h.1, fun w hw => ?_, fun i hi => ⟨((h.2.2 i hi).1.kept hq).moved hW.alike, ((h.2.2 i hi).2.kept hq).moved hW.alike⟩⟩
  obtain ⟨a, i, x, hst, rfl⟩ := jv_ns_ok w hw
  exact va_Nw.warmM hW (h.2.1 _ hw)
theorem jv_N_calling {ca : Bool → ClassId} {D : va_G} {ad : Nat → Nat} {S : List jv_S} {U : State} (g : JFrame) (mk : MethodId) (a : Array Value) (h : jv_N ca D ad S U) : jv_N ca D ad S (U.calling g mk a) := by
  refine ⟨va_K.moved (u := U) (U := U.calling g mk a) (Vm.Alike.refl U.vm) h.1, fun w hw => ?_, fun i hi => ⟨va_Z.moved (u := U) (U := U.calling g mk a) (Vm.Alike.refl U.vm) (h.2.2 i hi).1, va_T.moved (u := U) (U := U.calling g mk a) (Vm.Alike.refl U.vm) (h.2.2 i hi).2⟩⟩
  obtain ⟨a', i, x, hst, rfl⟩ := jv_ns_ok w hw
  exact va_Nw.same (u := U) (U := U.calling g mk a) rfl rfl (h.2.1 _ hw)
def jv_R (d : Nat) : Room := { frames := d, cells := 0, slots := 0, locals := 40 * d }
def jv_lv (ad : Nat → Nat) (lv : List (Nat × Value)) : List (Nat × Value) := lv.map fun q => (q.1, jv_rz ad q.2)
def jv_C (own : String) (cc : ByteArray) (nL : Nat) (rt : Option FieldType) (p : Program) (s : State) (m : MethodId) (args : Array Value) (meth : Method) (c : Code) : Prop :=
  p.tables.exec = Jvm.exec ∧ c.code = cc ∧ meth.sig.returnType = rt ∧ c.maxLocals = nL ∧ s.vm.findClass own = some m.cls ∧ (∀ w ∈ jv_T, w.before args s = true) ∧ meth.locks = false
def jv_Q (ca : Bool → ClassId) (D : va_G) (ad : Nat → Nat) (S : List jv_S) (r : Option Value) (h : jv_H) : Array Value → State → Outcome → State → Prop := fun _ st oc t =>
  oc = .returned (r.map (jv_rz ad)) ∧ va_P D vwCl (jv_w ca ad h S) t.heap ∧ va_F (jv_A ad S) st t
def jv_P (ca : Bool → ClassId) (D : va_G) (ad : Nat → Nat) (S : List jv_S) (as : List Value) (h : jv_H) : Array Value → State → Prop := fun v U =>
  v = (as.map (jv_rz ad)).toArray ∧ jv_N ca D ad S U ∧ jv_J ad S ∧ va_P D vwCl (jv_w ca ad h S) U.heap
def jv_ri (r : Int32) : Option Value := some (.int r)
def jv_rl (r : Int64) : Option Value := some (.long r)
def jv_rr (r : Nat) : Option Value := some (.ref r)
def jv_rv (_ : Unit) : Option Value := none
/-- from this frame, with these numbers, the method ends as o says, if it says anything -/
def jv_V {ρ : Type} (l : Launch) (own : String) (cc : ByteArray) (nL : Nat) (rt : Option FieldType) (d : Nat) (S : List jv_S) (rv : ρ → Option Value) (pc : Nat) (lv : List (Nat × Value)) (st : List Value) (h : jv_H) (o : Option (ρ × jv_H)) : Prop :=
  ∀ res, o = some res → ∀ (p : Program) (e : Env) (s : State) (m : MethodId) (args : Array Value) (below : List Frame) (meth : Method) (c : Code) (ca : Bool → ClassId) (D : va_G) (ad : Nat → Nat) (H : Heap) (locs : List Loc) (ls : Array Slot),
    jv_C own cc nL rt p s m args meth c → jv_N ca D ad S s → jv_J ad S → va_P D vwCl (jv_w ca ad h S) H → va_S (jv_A ad S) s.heap H locs → lv_has ls nL (jv_lv ad lv) →
    W p l e (jv_R d) s m args below meth c H locs 0 0 (MQ below (jv_Q ca D ad S (rv res.1) res.2) args s 0 0 (jv_A ad S)) (F0 m pc ls (st.map (jv_rz ad)))
/-- the method's contract: as o says -/
def jv_E {ρ : Type} (l : Launch) (y : MethodName) (cc : ByteArray) (nL : Nat) (rt : Option FieldType) (d : Nat) (S : List jv_S) (rv : ρ → Option Value) (as : List Value) (h : jv_H) (o : Option (ρ × jv_H)) : Prop :=
  ∀ res, o = some res → ∀ (ca : Bool → ClassId) (D : va_G) (ad : Nat → Nat), Met l y (Cond.code y cc nL rt :: jv_T) (jv_R d) (jv_P ca D ad S as h) (jv_Q ca D ad S (rv res.1) res.2) 0 0 (jv_A ad S)
theorem jv_E_of {ρ : Type} {l : Launch} {y : MethodName} {cc : ByteArray} {nL : Nat} {rt : Option FieldType} {d : Nat} {S : List jv_S} {rv : ρ → Option Value} {as : List Value} {h : jv_H} {o : Option (ρ × jv_H)} (lv : List (Nat × Value)) (hy : plainName y.cls = true) (hn : ∀ ad : Nat → Nat, (lg_sl (as.map (jv_rz ad))).length ≤ nL) (hl : ∀ ad : Nat → Nat, lv_args 0 (as.map (jv_rz ad)) = jv_lv ad lv)
    (k : jv_V l y.cls cc nL rt d S rv 0 lv [] h o) : jv_E l y cc nL rt d S rv as h o := by
  intro res ho ca D ad
  refine Met.ofW (cc := cc) (maxL := nL) (ret := rt) hy rfl ?_
  intro p e s m args below meth c s₁ B hml hv
  obtain ⟨rfl, hN, hJ, hP⟩ := hv
  have hts := atoms_spec (ws := Cond.code y cc nL rt :: jv_T) B.pre
  have hl0 := lv_entry (as.map (jv_rz ad)) (n := nL) (hn ad)
  rw [hl ad] at hl0
  rw [lg_entry_eq]
  generalize (lg_sl (as.map (jv_rz ad)) ++ List.replicate (nL - (lg_sl (as.map (jv_rz ad))).length) Slot.unset).toArray = ls at hl0 ⊢
  exact k res ho p e s m _ below meth c ca D ad s.heap [] ls ⟨B.exec, B.bytes, B.returns, hml, findClass_of_methodNamed B.named, fun w hw => hts w (List.mem_cons_of_mem _ hw), B.notSynchronized⟩ hN hJ hP va_S.rf hl0
end
section
/-! rows of the quiet machine: an instruction, a row -/
section JV
variable {ρ : Type} {l : Launch} {own : String} {cc : ByteArray} {nL : Nat} {rt : Option FieldType} {d : Nat} {S : List jv_S} {rv : ρ → Option Value} {pc : Nat} {lv : List (Nat × Value)} {st : List Value} {h : jv_H} {o o1 o2 : Option (ρ × jv_H)}
theorem jv_lv_at {ad : Nat → Nat} {ls : Array Slot} {k i : Nat} {v : Value} (L : lv_has ls nL (jv_lv ad lv)) (hk : lv[k]? = some (i, v)) : ls[i]? = some (.val (jv_rz ad v)) :=
  lv_at L k (i := i) (v := jv_rz ad v) (by rw [jv_lv, List.getElem?_map, hk]; rfl)
theorem v_none : jv_V l own cc nL rt d S rv pc lv st h none := fun _ ho => by cases ho
theorem v_eq (e : o = o1) (k : jv_V l own cc nL rt d S rv pc lv st h o1) : jv_V l own cc nL rt d S rv pc lv st h o := e ▸ k
/-- fewer locals, in any order -/
theorem v_sub {lv' : List (Nat × Value)} (ks : List Nat) (hl : lv_pick lv ks = lv') (k : jv_V l own cc nL rt d S rv pc lv' st h o) : jv_V l own cc nL rt d S rv pc lv st h o := by
  intro res ho p e s m args below meth c ca D ad H locs ls C N J P Sx L
  refine k res ho p e s m args below meth c ca D ad H locs ls C N J P Sx ⟨L.1, L.2.1, fun q hq => ?_⟩
  rw [← hl] at hq
  obtain ⟨z, hz, rfl⟩ := List.mem_map.mp hq
  obtain ⟨i, -, hi⟩ := List.mem_filterMap.mp hz
  exact L.2.2 _ (List.mem_map.mpr ⟨z, List.mem_of_getElem? hi, rfl⟩)
theorem v_iconst {n : Int} {v : Int32} (pc' : Nat) (hp : pc' = pc + 1) (hd : decode cc pc = .ok (.iconst n, 1)) (hv : Int32.ofInt n = v) (k : jv_V l own cc nL rt d S rv pc' lv (.int v :: st) h o) : jv_V l own cc nL rt d S rv pc lv st h o := by
  subst hp
  exact fun res ho p e s m args below meth c ca D ad H locs ls C N J P Sx L => lv_iconst C.1 C.2.1 hd hv (k res ho p e s m args below meth c ca D ad H locs ls C N J P Sx L)
theorem v_bipush {n : Int} {v : Int32} (pc' : Nat) (hp : pc' = pc + 2) (hd : decode cc pc = .ok (.bipush n, 2)) (hv : (Int8.ofInt n).toInt32 = v) (k : jv_V l own cc nL rt d S rv pc' lv (.int v :: st) h o) : jv_V l own cc nL rt d S rv pc lv st h o := by
  subst hp
  exact fun res ho p e s m args below meth c ca D ad H locs ls C N J P Sx L => lv_bipush C.1 C.2.1 hd hv (k res ho p e s m args below meth c ca D ad H locs ls C N J P Sx L)
theorem v_sipush {n : Int} {v : Int32} (pc' : Nat) (hp : pc' = pc + 3) (hd : decode cc pc = .ok (.sipush n, 3)) (hv : (Int16.ofInt n).toInt32 = v) (k : jv_V l own cc nL rt d S rv pc' lv (.int v :: st) h o) : jv_V l own cc nL rt d S rv pc lv st h o := by
  subst hp
  exact fun res ho p e s m args below meth c ca D ad H locs ls C N J P Sx L => lv_sipush C.1 C.2.1 hd hv (k res ho p e s m args below meth c ca D ad H locs ls C N J P Sx L)
theorem v_lconst {n : Fin 2} {v : Int64} (pc' : Nat) (hp : pc' = pc + 1) (hd : decode cc pc = .ok (.lconst n, 1)) (hv : Int64.ofNat (n : Nat) = v) (k : jv_V l own cc nL rt d S rv pc' lv (.long v :: st) h o) : jv_V l own cc nL rt d S rv pc lv st h o := by
  subst hp
  exact fun res ho p e s m args below meth c ca D ad H locs ls C N J P Sx L => lv_lconst C.1 C.2.1 hd hv (k res ho p e s m args below meth c ca D ad H locs ls C N J P Sx L)
theorem v_ldc {ix : Nat} {v : Int32} (pc' : Nat) (hp : pc' = pc + 2) (hw : Cond.constant own ix v ∈ jv_T) (hd : decode cc pc = .ok (.ldc ix, 2)) (k : jv_V l own cc nL rt d S rv pc' lv (.int v :: st) h o) : jv_V l own cc nL rt d S rv pc lv st h o := by
  subst hp
  exact fun res ho p e s m args below meth c ca D ad H locs ls C N J P Sx L => lv_ldc C.1 C.2.1 C.2.2.2.2.1 (C.2.2.2.2.2.1 _ hw) hd (k res ho p e s m args below meth c ca D ad H locs ls C N J P Sx L)
theorem v_ldcw {ix : Nat} {v : Int32} (pc' : Nat) (hp : pc' = pc + 3) (hw : Cond.constant own ix v ∈ jv_T) (hd : decode cc pc = .ok (.ldc_w ix, 3)) (k : jv_V l own cc nL rt d S rv pc' lv (.int v :: st) h o) : jv_V l own cc nL rt d S rv pc lv st h o := by
  subst hp
  exact fun res ho p e s m args below meth c ca D ad H locs ls C N J P Sx L => lv_ldcw C.1 C.2.1 C.2.2.2.2.1 (C.2.2.2.2.2.1 _ hw) hd (k res ho p e s m args below meth c ca D ad H locs ls C N J P Sx L)
theorem v_ldc2 {ix : Nat} {v : Int64} (pc' : Nat) (hp : pc' = pc + 3) (hw : Cond.constantLong own ix v ∈ jv_T) (hd : decode cc pc = .ok (.ldc2_w ix, 3)) (k : jv_V l own cc nL rt d S rv pc' lv (.long v :: st) h o) : jv_V l own cc nL rt d S rv pc lv st h o := by
  subst hp
  exact fun res ho p e s m args below meth c ca D ad H locs ls C N J P Sx L => lv_ldc2 C.1 C.2.1 C.2.2.2.2.1 (C.2.2.2.2.2.1 _ hw) hd (k res ho p e s m args below meth c ca D ad H locs ls C N J P Sx L)
theorem v_iload_n {i : Fin 4} {j : Nat} {x : Int32} (q : Nat) (pc' : Nat) (hp : pc' = pc + 1) (hd : decode cc pc = .ok (.iload_n i, 1)) (hi : (i : Nat) = j) (hl : lv[q]? = some (j, .int x)) (k : jv_V l own cc nL rt d S rv pc' lv (.int x :: st) h o) : jv_V l own cc nL rt d S rv pc lv st h o := by
  subst hp
  exact fun res ho p e s m args below meth c ca D ad H locs ls C N J P Sx L => lv_iload_n C.1 C.2.1 hd hi (jv_lv_at L hl) (k res ho p e s m args below meth c ca D ad H locs ls C N J P Sx L)
theorem v_iload {j : Nat} {x : Int32} (q : Nat) (pc' : Nat) (hp : pc' = pc + 2) (hd : decode cc pc = .ok (.iload j, 2)) (hl : lv[q]? = some (j, .int x)) (k : jv_V l own cc nL rt d S rv pc' lv (.int x :: st) h o) : jv_V l own cc nL rt d S rv pc lv st h o := by
  subst hp
  exact fun res ho p e s m args below meth c ca D ad H locs ls C N J P Sx L => lv_iload C.1 C.2.1 hd (jv_lv_at L hl) (k res ho p e s m args below meth c ca D ad H locs ls C N J P Sx L)
theorem v_lload_n {i : Fin 4} {j : Nat} {x : Int64} (q : Nat) (pc' : Nat) (hp : pc' = pc + 1) (hd : decode cc pc = .ok (.lload_n i, 1)) (hi : (i : Nat) = j) (hl : lv[q]? = some (j, .long x)) (k : jv_V l own cc nL rt d S rv pc' lv (.long x :: st) h o) : jv_V l own cc nL rt d S rv pc lv st h o := by
  subst hp
  exact fun res ho p e s m args below meth c ca D ad H locs ls C N J P Sx L => lv_lload_n C.1 C.2.1 hd hi (jv_lv_at L hl) (k res ho p e s m args below meth c ca D ad H locs ls C N J P Sx L)
theorem v_lload {j : Nat} {x : Int64} (q : Nat) (pc' : Nat) (hp : pc' = pc + 2) (hd : decode cc pc = .ok (.lload j, 2)) (hl : lv[q]? = some (j, .long x)) (k : jv_V l own cc nL rt d S rv pc' lv (.long x :: st) h o) : jv_V l own cc nL rt d S rv pc lv st h o := by
  subst hp
  exact fun res ho p e s m args below meth c ca D ad H locs ls C N J P Sx L => lv_lload C.1 C.2.1 hd (jv_lv_at L hl) (k res ho p e s m args below meth c ca D ad H locs ls C N J P Sx L)
theorem v_aload_n {i : Fin 4} {j : Nat} {x : Nat} (q : Nat) (pc' : Nat) (hp : pc' = pc + 1) (hd : decode cc pc = .ok (.aload_n i, 1)) (hi : (i : Nat) = j) (hl : lv[q]? = some (j, .ref x)) (k : jv_V l own cc nL rt d S rv pc' lv (.ref x :: st) h o) : jv_V l own cc nL rt d S rv pc lv st h o := by
  subst hp
  exact fun res ho p e s m args below meth c ca D ad H locs ls C N J P Sx L => lv_aload_n C.1 C.2.1 hd hi (jv_lv_at L hl) (k res ho p e s m args below meth c ca D ad H locs ls C N J P Sx L)
/-- a local's new value keeps its place in the list -/
def jv_set : List (Nat × Value) → Nat → Value → List (Nat × Value)
  | [], i, v => [(i, v)]
  | q :: r, i, v => if q.1 = i then (i, v) :: r.filter (fun z => !(z.1 == i)) else q :: jv_set r i v
theorem jv_set_mem : ∀ {lv : List (Nat × Value)} {i : Nat} {v : Value} {q : Nat × Value}, q ∈ jv_set lv i v → q = (i, v) ∨ (q ∈ lv ∧ ¬ q.1 = i)
  | [], i, v, q, h => by
    simp only [jv_set, List.mem_singleton] at h
    exact Or.inl h
  | a :: r, i, v, q, h => by
    simp only [jv_set] at h
    by_cases ha : a.1 = i
    · rw [if_pos ha] at h
      rcases List.mem_cons.mp h with h | h
      · exact Or.inl h
      · obtain ⟨h1, h2⟩ := List.mem_filter.mp h
        exact Or.inr ⟨List.mem_cons_of_mem _ h1, by simpa using h2⟩
    · rw [if_neg ha] at h
      rcases List.mem_cons.mp h with h | h
      · exact Or.inr ⟨by rw [h]; exact List.mem_cons_self, by rw [h]; exact ha⟩
      · rcases jv_set_mem h with h | h
        · exact Or.inl h
        · exact Or.inr ⟨List.mem_cons_of_mem _ h.1, h.2⟩
theorem jv_set_has {ad : Nat → Nat} {ls : Array Slot} {i : Nat} {v : Value} (hc : lv.all (fun q => q.2.category == 1) = true) (L : lv_has ls nL ((i, jv_rz ad v) :: (jv_lv ad lv).filter (fun q => !(q.1 == i) && !(q.1 + 1 == i && q.2.category == 2)))) : lv_has ls nL (jv_lv ad (jv_set lv i v)) := by
  refine ⟨L.1, L.2.1, fun q hq => ?_⟩
  obtain ⟨z, hz, rfl⟩ := List.mem_map.mp hq
  rcases jv_set_mem hz with rfl | ⟨h1, h2⟩
  · exact L.2.2 _ List.mem_cons_self
  · refine L.2.2 _ (List.mem_cons_of_mem _ (List.mem_filter.mpr ⟨List.mem_map.mpr ⟨z, h1, rfl⟩, ?_⟩))
    have hcat : z.2.category = 1 := by simpa using List.all_eq_true.mp hc z h1
    simp [h2, jv_rz_cat, hcat]
theorem v_istore_n {i : Fin 4} {j : Nat} {x : Int32} {lv' : List (Nat × Value)} (pc' : Nat) (hp : pc' = pc + 1) (hd : decode cc pc = .ok (.istore_n i, 1)) (hi : (i : Nat) = j) (hn : j < nL) (hc : lv.all (fun q => q.2.category == 1) = true) (hl : jv_set lv j (.int x) = lv') (k : jv_V l own cc nL rt d S rv pc' lv' st h o) : jv_V l own cc nL rt d S rv pc lv (.int x :: st) h o := by
  subst hp; subst hl
  exact fun res ho p e s m args below meth c ca D ad H locs ls C N J P Sx L => lv_istore_n C.1 C.2.1 hd hi L hn rfl (fun ls' L' => k res ho p e s m args below meth c ca D ad H locs ls' C N J P Sx (jv_set_has hc L'))
theorem v_istore {j : Nat} {x : Int32} {lv' : List (Nat × Value)} (pc' : Nat) (hp : pc' = pc + 2) (hd : decode cc pc = .ok (.istore j, 2)) (hn : j < nL) (hc : lv.all (fun q => q.2.category == 1) = true) (hl : jv_set lv j (.int x) = lv') (k : jv_V l own cc nL rt d S rv pc' lv' st h o) : jv_V l own cc nL rt d S rv pc lv (.int x :: st) h o := by
  subst hp; subst hl
  exact fun res ho p e s m args below meth c ca D ad H locs ls C N J P Sx L => lv_istore C.1 C.2.1 hd L hn rfl (fun ls' L' => k res ho p e s m args below meth c ca D ad H locs ls' C N J P Sx (jv_set_has hc L'))
theorem v_iinc {j : Nat} {n : Int} {x v : Int32} {lv' : List (Nat × Value)} (q : Nat) (pc' : Nat) (hp : pc' = pc + 3) (hd : decode cc pc = .ok (.iinc j n, 3)) (hq : lv[q]? = some (j, .int x)) (hv : x + Int32.ofInt n = v) (hn : j < nL) (hc : lv.all (fun q => q.2.category == 1) = true) (hl : jv_set lv j (.int v) = lv') (k : jv_V l own cc nL rt d S rv pc' lv' st h o) : jv_V l own cc nL rt d S rv pc lv st h o := by
  subst hp; subst hl; subst hv
  intro res ho p e s m args below meth c ca D ad H locs ls C N J P Sx L
  exact lv_iinc (k := q) C.1 C.2.1 hd L (by rw [jv_lv, List.getElem?_map, hq]; rfl) rfl hn rfl (fun ls' L' => k res ho p e s m args below meth c ca D ad H locs ls' C N J P Sx (jv_set_has hc L'))
theorem v_iadd {x y : Int32} (pc' : Nat) (hp : pc' = pc + 1) (hd : decode cc pc = .ok (.iadd, 1)) (k : jv_V l own cc nL rt d S rv pc' lv (.int (x + y) :: st) h o) : jv_V l own cc nL rt d S rv pc lv (.int y :: .int x :: st) h o := by
  subst hp
  exact fun res ho p e s m args below meth c ca D ad H locs ls C N J P Sx L => lv_iadd C.1 C.2.1 hd (k res ho p e s m args below meth c ca D ad H locs ls C N J P Sx L)
theorem v_isub {x y : Int32} (pc' : Nat) (hp : pc' = pc + 1) (hd : decode cc pc = .ok (.isub, 1)) (k : jv_V l own cc nL rt d S rv pc' lv (.int (x - y) :: st) h o) : jv_V l own cc nL rt d S rv pc lv (.int y :: .int x :: st) h o := by
  subst hp
  exact fun res ho p e s m args below meth c ca D ad H locs ls C N J P Sx L => lv_isub C.1 C.2.1 hd (k res ho p e s m args below meth c ca D ad H locs ls C N J P Sx L)
theorem v_imul {x y : Int32} (pc' : Nat) (hp : pc' = pc + 1) (hd : decode cc pc = .ok (.imul, 1)) (k : jv_V l own cc nL rt d S rv pc' lv (.int (x * y) :: st) h o) : jv_V l own cc nL rt d S rv pc lv (.int y :: .int x :: st) h o := by
  subst hp
  exact fun res ho p e s m args below meth c ca D ad H locs ls C N J P Sx L => lv_imul C.1 C.2.1 hd (k res ho p e s m args below meth c ca D ad H locs ls C N J P Sx L)
theorem v_iand {x y : Int32} (pc' : Nat) (hp : pc' = pc + 1) (hd : decode cc pc = .ok (.iand, 1)) (k : jv_V l own cc nL rt d S rv pc' lv (.int (x &&& y) :: st) h o) : jv_V l own cc nL rt d S rv pc lv (.int y :: .int x :: st) h o := by
  subst hp
  exact fun res ho p e s m args below meth c ca D ad H locs ls C N J P Sx L => lv_iand C.1 C.2.1 hd (k res ho p e s m args below meth c ca D ad H locs ls C N J P Sx L)
theorem v_ior {x y : Int32} (pc' : Nat) (hp : pc' = pc + 1) (hd : decode cc pc = .ok (.ior, 1)) (k : jv_V l own cc nL rt d S rv pc' lv (.int (x ||| y) :: st) h o) : jv_V l own cc nL rt d S rv pc lv (.int y :: .int x :: st) h o := by
  subst hp
  exact fun res ho p e s m args below meth c ca D ad H locs ls C N J P Sx L => lv_ior C.1 C.2.1 hd (k res ho p e s m args below meth c ca D ad H locs ls C N J P Sx L)
theorem v_ixor {x y : Int32} (pc' : Nat) (hp : pc' = pc + 1) (hd : decode cc pc = .ok (.ixor, 1)) (k : jv_V l own cc nL rt d S rv pc' lv (.int (x ^^^ y) :: st) h o) : jv_V l own cc nL rt d S rv pc lv (.int y :: .int x :: st) h o := by
  subst hp
  exact fun res ho p e s m args below meth c ca D ad H locs ls C N J P Sx L => lv_ixor C.1 C.2.1 hd (k res ho p e s m args below meth c ca D ad H locs ls C N J P Sx L)
theorem v_ishl {x y : Int32} (pc' : Nat) (hp : pc' = pc + 1) (hd : decode cc pc = .ok (.ishl, 1)) (k : jv_V l own cc nL rt d S rv pc' lv (.int (x <<< (y &&& 31)) :: st) h o) : jv_V l own cc nL rt d S rv pc lv (.int y :: .int x :: st) h o := by
  subst hp
  exact fun res ho p e s m args below meth c ca D ad H locs ls C N J P Sx L => lv_ishl C.1 C.2.1 hd (k res ho p e s m args below meth c ca D ad H locs ls C N J P Sx L)
theorem v_ishr {x y : Int32} (pc' : Nat) (hp : pc' = pc + 1) (hd : decode cc pc = .ok (.ishr, 1)) (k : jv_V l own cc nL rt d S rv pc' lv (.int (x >>> (y &&& 31)) :: st) h o) : jv_V l own cc nL rt d S rv pc lv (.int y :: .int x :: st) h o := by
  subst hp
  exact fun res ho p e s m args below meth c ca D ad H locs ls C N J P Sx L => lv_ishr C.1 C.2.1 hd (k res ho p e s m args below meth c ca D ad H locs ls C N J P Sx L)
theorem v_iushr {x y : Int32} (pc' : Nat) (hp : pc' = pc + 1) (hd : decode cc pc = .ok (.iushr, 1)) (k : jv_V l own cc nL rt d S rv pc' lv (.int ((x.toUInt32 >>> (y.toUInt32 &&& Int32.toUInt32 31)).toInt32) :: st) h o) : jv_V l own cc nL rt d S rv pc lv (.int y :: .int x :: st) h o := by
  subst hp
  exact fun res ho p e s m args below meth c ca D ad H locs ls C N J P Sx L => lv_iushr C.1 C.2.1 hd rfl (k res ho p e s m args below meth c ca D ad H locs ls C N J P Sx L)
theorem v_ladd {x y : Int64} (pc' : Nat) (hp : pc' = pc + 1) (hd : decode cc pc = .ok (.ladd, 1)) (k : jv_V l own cc nL rt d S rv pc' lv (.long (x + y) :: st) h o) : jv_V l own cc nL rt d S rv pc lv (.long y :: .long x :: st) h o := by
  subst hp
  exact fun res ho p e s m args below meth c ca D ad H locs ls C N J P Sx L => lv_ladd C.1 C.2.1 hd (k res ho p e s m args below meth c ca D ad H locs ls C N J P Sx L)
theorem v_lcmp {x y : Int64} (pc' : Nat) (hp : pc' = pc + 1) (hd : decode cc pc = .ok (.lcmp, 1)) (k : jv_V l own cc nL rt d S rv pc' lv (.int (lg_cmp x y) :: st) h o) : jv_V l own cc nL rt d S rv pc lv (.long y :: .long x :: st) h o := by
  subst hp
  exact fun res ho p e s m args below meth c ca D ad H locs ls C N J P Sx L => W.lcmp C.1 C.2.1 hd (k res ho p e s m args below meth c ca D ad H locs ls C N J P Sx L)
theorem v_i2l {x : Int32} (pc' : Nat) (hp : pc' = pc + 1) (hd : decode cc pc = .ok (.i2l, 1)) (k : jv_V l own cc nL rt d S rv pc' lv (.long (x.toInt64) :: st) h o) : jv_V l own cc nL rt d S rv pc lv (.int x :: st) h o := by
  subst hp
  exact fun res ho p e s m args below meth c ca D ad H locs ls C N J P Sx L => lv_i2l C.1 C.2.1 hd rfl (k res ho p e s m args below meth c ca D ad H locs ls C N J P Sx L)
theorem v_dupi {x : Int32} (pc' : Nat) (hp : pc' = pc + 1) (hd : decode cc pc = .ok (.dup, 1)) (k : jv_V l own cc nL rt d S rv pc' lv (.int x :: .int x :: st) h o) : jv_V l own cc nL rt d S rv pc lv (.int x :: st) h o := by
  subst hp
  exact fun res ho p e s m args below meth c ca D ad H locs ls C N J P Sx L => lv_dup C.1 C.2.1 hd rfl (k res ho p e s m args below meth c ca D ad H locs ls C N J P Sx L)
theorem v_dupr {x : Nat} (pc' : Nat) (hp : pc' = pc + 1) (hd : decode cc pc = .ok (.dup, 1)) (k : jv_V l own cc nL rt d S rv pc' lv (.ref x :: .ref x :: st) h o) : jv_V l own cc nL rt d S rv pc lv (.ref x :: st) h o := by
  subst hp
  exact fun res ho p e s m args below meth c ca D ad H locs ls C N J P Sx L => lv_dup C.1 C.2.1 hd rfl (k res ho p e s m args below meth c ca D ad H locs ls C N J P Sx L)
theorem v_dup2 {y : Int32} {x : Nat} (pc' : Nat) (hp : pc' = pc + 1) (hd : decode cc pc = .ok (.dup2, 1)) (k : jv_V l own cc nL rt d S rv pc' lv (.int y :: .ref x :: .int y :: .ref x :: st) h o) : jv_V l own cc nL rt d S rv pc lv (.int y :: .ref x :: st) h o := by
  subst hp
  exact fun res ho p e s m args below meth c ca D ad H locs ls C N J P Sx L => lv_dup2_11 C.1 C.2.1 hd rfl rfl (k res ho p e s m args below meth c ca D ad H locs ls C N J P Sx L)
theorem v_popi {x : Int32} (pc' : Nat) (hp : pc' = pc + 1) (hd : decode cc pc = .ok (.pop, 1)) (k : jv_V l own cc nL rt d S rv pc' lv (st) h o) : jv_V l own cc nL rt d S rv pc lv (.int x :: st) h o := by
  subst hp
  exact fun res ho p e s m args below meth c ca D ad H locs ls C N J P Sx L => lv_pop C.1 C.2.1 hd rfl (k res ho p e s m args below meth c ca D ad H locs ls C N J P Sx L)
theorem v_idiv {x y : Int32} {inst : Decidable (y = 0)} (pc' : Nat) (hp : pc' = pc + 1) (hd : decode cc pc = .ok (.idiv, 1)) (k : ¬ y = 0 → jv_V l own cc nL rt d S rv pc' lv (.int (x / y) :: st) h o) : jv_V l own cc nL rt d S rv pc lv (.int y :: .int x :: st) h (@ite _ (y = 0) inst none o) := by
  subst hp
  intro res ho p e s m args below meth c ca D ad H locs ls C N J P Sx L
  by_cases hy : y = 0
  · rw [if_pos hy] at ho; cases ho
  · rw [if_neg hy] at ho
    exact lv_idiv C.1 C.2.1 hd hy (k hy res ho p e s m args below meth c ca D ad H locs ls C N J P Sx L)
theorem v_irem {x y : Int32} {inst : Decidable (y = 0)} (pc' : Nat) (hp : pc' = pc + 1) (hd : decode cc pc = .ok (.irem, 1)) (k : ¬ y = 0 → jv_V l own cc nL rt d S rv pc' lv (.int (x - x / y * y) :: st) h o) : jv_V l own cc nL rt d S rv pc lv (.int y :: .int x :: st) h (@ite _ (y = 0) inst none o) := by
  subst hp
  intro res ho p e s m args below meth c ca D ad H locs ls C N J P Sx L
  by_cases hy : y = 0
  · rw [if_pos hy] at ho; cases ho
  · rw [if_neg hy] at ho
    exact lv_irem C.1 C.2.1 hd hy (k hy res ho p e s m args below meth c ca D ad H locs ls C N J P Sx L)
theorem v_if_eq {x : Int32} {off : Int} {inst : Decidable (x = 0)} (tgt pc' : Nat) (hp : pc' = pc + 3) (ht : (pc : Int) + off = (tgt : Int)) (hd : decode cc pc = .ok (.ifCond .eq off, 3)) (kt : x = 0 → jv_V l own cc nL rt d S rv tgt lv st h o1) (kf : ¬ x = 0 → jv_V l own cc nL rt d S rv pc' lv st h o2) : jv_V l own cc nL rt d S rv pc lv (.int x :: st) h (@ite _ (x = 0) inst o1 o2) := by
  subst hp
  intro res ho p e s m args below meth c ca D ad H locs ls C N J P Sx L
  refine lv_if_eq C.1 C.2.1 hd ht (fun hc => ?_) (fun hc => ?_)
  · rw [if_pos hc] at ho
    exact kt hc res ho p e s m args below meth c ca D ad H locs ls C N J P Sx L
  · rw [if_neg (by first | exact hc | exact fun q => q hc)] at ho
    exact kf hc res ho p e s m args below meth c ca D ad H locs ls C N J P Sx L
theorem v_icmp_eq {x y : Int32} {off : Int} {inst : Decidable (x = y)} (tgt pc' : Nat) (hp : pc' = pc + 3) (ht : (pc : Int) + off = (tgt : Int)) (hd : decode cc pc = .ok (.if_icmp .eq off, 3)) (kt : x = y → jv_V l own cc nL rt d S rv tgt lv st h o1) (kf : ¬ x = y → jv_V l own cc nL rt d S rv pc' lv st h o2) : jv_V l own cc nL rt d S rv pc lv (.int y :: .int x :: st) h (@ite _ (x = y) inst o1 o2) := by
  subst hp
  intro res ho p e s m args below meth c ca D ad H locs ls C N J P Sx L
  refine lv_icmp_eq C.1 C.2.1 hd ht (fun hc => ?_) (fun hc => ?_)
  · rw [if_pos hc] at ho
    exact kt hc res ho p e s m args below meth c ca D ad H locs ls C N J P Sx L
  · rw [if_neg (by first | exact hc | exact fun q => q hc)] at ho
    exact kf hc res ho p e s m args below meth c ca D ad H locs ls C N J P Sx L
theorem v_if_ne {x : Int32} {off : Int} {inst : Decidable (x = 0)} (tgt pc' : Nat) (hp : pc' = pc + 3) (ht : (pc : Int) + off = (tgt : Int)) (hd : decode cc pc = .ok (.ifCond .ne off, 3)) (kt : ¬ x = 0 → jv_V l own cc nL rt d S rv tgt lv st h o1) (kf : x = 0 → jv_V l own cc nL rt d S rv pc' lv st h o2) : jv_V l own cc nL rt d S rv pc lv (.int x :: st) h (@ite _ (x = 0) inst o2 o1) := by
  subst hp
  intro res ho p e s m args below meth c ca D ad H locs ls C N J P Sx L
  refine lv_if_ne C.1 C.2.1 hd ht (fun hc => ?_) (fun hc => ?_)
  · rw [if_neg hc] at ho
    exact kt hc res ho p e s m args below meth c ca D ad H locs ls C N J P Sx L
  · rw [if_pos hc] at ho
    exact kf hc res ho p e s m args below meth c ca D ad H locs ls C N J P Sx L
theorem v_icmp_ne {x y : Int32} {off : Int} {inst : Decidable (x = y)} (tgt pc' : Nat) (hp : pc' = pc + 3) (ht : (pc : Int) + off = (tgt : Int)) (hd : decode cc pc = .ok (.if_icmp .ne off, 3)) (kt : ¬ x = y → jv_V l own cc nL rt d S rv tgt lv st h o1) (kf : x = y → jv_V l own cc nL rt d S rv pc' lv st h o2) : jv_V l own cc nL rt d S rv pc lv (.int y :: .int x :: st) h (@ite _ (x = y) inst o2 o1) := by
  subst hp
  intro res ho p e s m args below meth c ca D ad H locs ls C N J P Sx L
  refine lv_icmp_ne C.1 C.2.1 hd ht (fun hc => ?_) (fun hc => ?_)
  · rw [if_neg hc] at ho
    exact kt hc res ho p e s m args below meth c ca D ad H locs ls C N J P Sx L
  · rw [if_pos hc] at ho
    exact kf hc res ho p e s m args below meth c ca D ad H locs ls C N J P Sx L
theorem v_if_lt {x : Int32} {off : Int} {inst : Decidable (x < 0)} (tgt pc' : Nat) (hp : pc' = pc + 3) (ht : (pc : Int) + off = (tgt : Int)) (hd : decode cc pc = .ok (.ifCond .lt off, 3)) (kt : x < 0 → jv_V l own cc nL rt d S rv tgt lv st h o1) (kf : ¬ x < 0 → jv_V l own cc nL rt d S rv pc' lv st h o2) : jv_V l own cc nL rt d S rv pc lv (.int x :: st) h (@ite _ (x < 0) inst o1 o2) := by
  subst hp
  intro res ho p e s m args below meth c ca D ad H locs ls C N J P Sx L
  refine lv_if_lt C.1 C.2.1 hd ht (fun hc => ?_) (fun hc => ?_)
  · rw [if_pos hc] at ho
    exact kt hc res ho p e s m args below meth c ca D ad H locs ls C N J P Sx L
  · rw [if_neg (by first | exact hc | exact fun q => q hc)] at ho
    exact kf hc res ho p e s m args below meth c ca D ad H locs ls C N J P Sx L
theorem v_icmp_lt {x y : Int32} {off : Int} {inst : Decidable (x < y)} (tgt pc' : Nat) (hp : pc' = pc + 3) (ht : (pc : Int) + off = (tgt : Int)) (hd : decode cc pc = .ok (.if_icmp .lt off, 3)) (kt : x < y → jv_V l own cc nL rt d S rv tgt lv st h o1) (kf : ¬ x < y → jv_V l own cc nL rt d S rv pc' lv st h o2) : jv_V l own cc nL rt d S rv pc lv (.int y :: .int x :: st) h (@ite _ (x < y) inst o1 o2) := by
  subst hp
  intro res ho p e s m args below meth c ca D ad H locs ls C N J P Sx L
  refine lv_icmp_lt C.1 C.2.1 hd ht (fun hc => ?_) (fun hc => ?_)
  · rw [if_pos hc] at ho
    exact kt hc res ho p e s m args below meth c ca D ad H locs ls C N J P Sx L
  · rw [if_neg (by first | exact hc | exact fun q => q hc)] at ho
    exact kf hc res ho p e s m args below meth c ca D ad H locs ls C N J P Sx L
theorem v_if_ge {x : Int32} {off : Int} {inst : Decidable (0 ≤ x)} (tgt pc' : Nat) (hp : pc' = pc + 3) (ht : (pc : Int) + off = (tgt : Int)) (hd : decode cc pc = .ok (.ifCond .ge off, 3)) (kt : 0 ≤ x → jv_V l own cc nL rt d S rv tgt lv st h o1) (kf : ¬ 0 ≤ x → jv_V l own cc nL rt d S rv pc' lv st h o2) : jv_V l own cc nL rt d S rv pc lv (.int x :: st) h (@ite _ (0 ≤ x) inst o1 o2) := by
  subst hp
  intro res ho p e s m args below meth c ca D ad H locs ls C N J P Sx L
  refine lv_if_ge C.1 C.2.1 hd ht (fun hc => ?_) (fun hc => ?_)
  · rw [if_pos hc] at ho
    exact kt hc res ho p e s m args below meth c ca D ad H locs ls C N J P Sx L
  · rw [if_neg (by first | exact hc | exact fun q => q hc)] at ho
    exact kf hc res ho p e s m args below meth c ca D ad H locs ls C N J P Sx L
theorem v_icmp_ge {x y : Int32} {off : Int} {inst : Decidable (y ≤ x)} (tgt pc' : Nat) (hp : pc' = pc + 3) (ht : (pc : Int) + off = (tgt : Int)) (hd : decode cc pc = .ok (.if_icmp .ge off, 3)) (kt : y ≤ x → jv_V l own cc nL rt d S rv tgt lv st h o1) (kf : ¬ y ≤ x → jv_V l own cc nL rt d S rv pc' lv st h o2) : jv_V l own cc nL rt d S rv pc lv (.int y :: .int x :: st) h (@ite _ (y ≤ x) inst o1 o2) := by
  subst hp
  intro res ho p e s m args below meth c ca D ad H locs ls C N J P Sx L
  refine lv_icmp_ge C.1 C.2.1 hd ht (fun hc => ?_) (fun hc => ?_)
  · rw [if_pos hc] at ho
    exact kt hc res ho p e s m args below meth c ca D ad H locs ls C N J P Sx L
  · rw [if_neg (by first | exact hc | exact fun q => q hc)] at ho
    exact kf hc res ho p e s m args below meth c ca D ad H locs ls C N J P Sx L
theorem v_if_gt {x : Int32} {off : Int} {inst : Decidable (0 < x)} (tgt pc' : Nat) (hp : pc' = pc + 3) (ht : (pc : Int) + off = (tgt : Int)) (hd : decode cc pc = .ok (.ifCond .gt off, 3)) (kt : 0 < x → jv_V l own cc nL rt d S rv tgt lv st h o1) (kf : ¬ 0 < x → jv_V l own cc nL rt d S rv pc' lv st h o2) : jv_V l own cc nL rt d S rv pc lv (.int x :: st) h (@ite _ (0 < x) inst o1 o2) := by
  subst hp
  intro res ho p e s m args below meth c ca D ad H locs ls C N J P Sx L
  refine lv_if_gt C.1 C.2.1 hd ht (fun hc => ?_) (fun hc => ?_)
  · rw [if_pos hc] at ho
    exact kt hc res ho p e s m args below meth c ca D ad H locs ls C N J P Sx L
  · rw [if_neg (by first | exact hc | exact fun q => q hc)] at ho
    exact kf hc res ho p e s m args below meth c ca D ad H locs ls C N J P Sx L
theorem v_icmp_gt {x y : Int32} {off : Int} {inst : Decidable (y < x)} (tgt pc' : Nat) (hp : pc' = pc + 3) (ht : (pc : Int) + off = (tgt : Int)) (hd : decode cc pc = .ok (.if_icmp .gt off, 3)) (kt : y < x → jv_V l own cc nL rt d S rv tgt lv st h o1) (kf : ¬ y < x → jv_V l own cc nL rt d S rv pc' lv st h o2) : jv_V l own cc nL rt d S rv pc lv (.int y :: .int x :: st) h (@ite _ (y < x) inst o1 o2) := by
  subst hp
  intro res ho p e s m args below meth c ca D ad H locs ls C N J P Sx L
  refine lv_icmp_gt C.1 C.2.1 hd ht (fun hc => ?_) (fun hc => ?_)
  · rw [if_pos hc] at ho
    exact kt hc res ho p e s m args below meth c ca D ad H locs ls C N J P Sx L
  · rw [if_neg (by first | exact hc | exact fun q => q hc)] at ho
    exact kf hc res ho p e s m args below meth c ca D ad H locs ls C N J P Sx L
theorem v_if_le {x : Int32} {off : Int} {inst : Decidable (x ≤ 0)} (tgt pc' : Nat) (hp : pc' = pc + 3) (ht : (pc : Int) + off = (tgt : Int)) (hd : decode cc pc = .ok (.ifCond .le off, 3)) (kt : x ≤ 0 → jv_V l own cc nL rt d S rv tgt lv st h o1) (kf : ¬ x ≤ 0 → jv_V l own cc nL rt d S rv pc' lv st h o2) : jv_V l own cc nL rt d S rv pc lv (.int x :: st) h (@ite _ (x ≤ 0) inst o1 o2) := by
  subst hp
  intro res ho p e s m args below meth c ca D ad H locs ls C N J P Sx L
  refine lv_if_le C.1 C.2.1 hd ht (fun hc => ?_) (fun hc => ?_)
  · rw [if_pos hc] at ho
    exact kt hc res ho p e s m args below meth c ca D ad H locs ls C N J P Sx L
  · rw [if_neg (by first | exact hc | exact fun q => q hc)] at ho
    exact kf hc res ho p e s m args below meth c ca D ad H locs ls C N J P Sx L
theorem v_icmp_le {x y : Int32} {off : Int} {inst : Decidable (x ≤ y)} (tgt pc' : Nat) (hp : pc' = pc + 3) (ht : (pc : Int) + off = (tgt : Int)) (hd : decode cc pc = .ok (.if_icmp .le off, 3)) (kt : x ≤ y → jv_V l own cc nL rt d S rv tgt lv st h o1) (kf : ¬ x ≤ y → jv_V l own cc nL rt d S rv pc' lv st h o2) : jv_V l own cc nL rt d S rv pc lv (.int y :: .int x :: st) h (@ite _ (x ≤ y) inst o1 o2) := by
  subst hp
  intro res ho p e s m args below meth c ca D ad H locs ls C N J P Sx L
  refine lv_icmp_le C.1 C.2.1 hd ht (fun hc => ?_) (fun hc => ?_)
  · rw [if_pos hc] at ho
    exact kt hc res ho p e s m args below meth c ca D ad H locs ls C N J P Sx L
  · rw [if_neg (by first | exact hc | exact fun q => q hc)] at ho
    exact kf hc res ho p e s m args below meth c ca D ad H locs ls C N J P Sx L
theorem v_goto {off : Int} (tgt : Nat) (ht : (pc : Int) + off = (tgt : Int)) (hd : decode cc pc = .ok (.goto off, 3)) (k : jv_V l own cc nL rt d S rv tgt lv st h o) : jv_V l own cc nL rt d S rv pc lv st h o := by
  exact fun res ho p e s m args below meth c ca D ad H locs ls C N J P Sx L => lv_goto C.1 C.2.1 hd ht (k res ho p e s m args below meth c ca D ad H locs ls C N J P Sx L)
/-- a switch, value by value: the number is v, or it isn't and the switch is asked on -/
theorem v_tabc {x : Int32} {dflt lo hi off : Int} {offs : Array Int} {len : Nat} (v : Int32) {inst : Decidable (x = v)} (tgt : Nat) (hd : decode cc pc = .ok (.tableswitch dflt lo hi offs, len)) (hv : ¬ v.toInt < lo ∧ ¬ hi < v.toInt ∧ offs[(v.toInt - lo).toNat]? = some off) (ht : (pc : Int) + off = (tgt : Int)) (kt : x = v → jv_V l own cc nL rt d S rv tgt lv st h o1) (kf : ¬ x = v → jv_V l own cc nL rt d S rv pc lv (.int x :: st) h o2) : jv_V l own cc nL rt d S rv pc lv (.int x :: st) h (@ite _ (x = v) inst o1 o2) := by
  intro res ho p e s m args below meth c ca D ad H locs ls C N J P Sx L
  by_cases hc : x = v
  · rw [if_pos hc] at ho
    have k := kt hc res ho p e s m args below meth c ca D ad H locs ls C N J P Sx L
    subst hc
    exact lv_tableIn C.1 C.2.1 hd hv.1 hv.2.1 hv.2.2 ht k
  · rw [if_neg hc] at ho
    exact kf hc res ho p e s m args below meth c ca D ad H locs ls C N J P Sx L
theorem v_tabd {x : Int32} {dflt lo hi : Int} {offs : Array Int} {len : Nat} (tgt : Nat) (hd : decode cc pc = .ok (.tableswitch dflt lo hi offs, len)) (hv : x.toInt < lo ∨ hi < x.toInt) (ht : (pc : Int) + dflt = (tgt : Int)) (k : jv_V l own cc nL rt d S rv tgt lv st h o) : jv_V l own cc nL rt d S rv pc lv (.int x :: st) h o :=
  fun res ho p e s m args below meth c ca D ad H locs ls C N J P Sx L => lv_tableOut C.1 C.2.1 hd hv ht (k res ho p e s m args below meth c ca D ad H locs ls C N J P Sx L)
theorem v_lokc {x : Int32} {dflt off : Int} {ps : Array (Int × Int)} {len : Nat} (v : Int32) {inst : Decidable (x = v)} (tgt : Nat) (hd : decode cc pc = .ok (.lookupswitch dflt ps, len)) (hs : (ps.toList.zip (ps.toList.drop 1)).all (fun (a, next) => a.1 < next.1) = true) (hv : Op.lookupswitch.offset ps.toList dflt v.toInt = off) (ht : (pc : Int) + off = (tgt : Int)) (kt : x = v → jv_V l own cc nL rt d S rv tgt lv st h o1) (kf : ¬ x = v → jv_V l own cc nL rt d S rv pc lv (.int x :: st) h o2) : jv_V l own cc nL rt d S rv pc lv (.int x :: st) h (@ite _ (x = v) inst o1 o2) := by
  intro res ho p e s m args below meth c ca D ad H locs ls C N J P Sx L
  by_cases hc : x = v
  · rw [if_pos hc] at ho
    have k := kt hc res ho p e s m args below meth c ca D ad H locs ls C N J P Sx L
    subst hc
    exact lv_lookup C.1 C.2.1 hd hs hv ht k
  · rw [if_neg hc] at ho
    exact kf hc res ho p e s m args below meth c ca D ad H locs ls C N J P Sx L
theorem v_lokd {x : Int32} {dflt : Int} {ps : Array (Int × Int)} {len : Nat} (tgt : Nat) (hd : decode cc pc = .ok (.lookupswitch dflt ps, len)) (hs : (ps.toList.zip (ps.toList.drop 1)).all (fun (a, next) => a.1 < next.1) = true) (hv : Op.lookupswitch.offset ps.toList dflt x.toInt = dflt) (ht : (pc : Int) + dflt = (tgt : Int)) (k : jv_V l own cc nL rt d S rv tgt lv st h o) : jv_V l own cc nL rt d S rv pc lv (.int x :: st) h o :=
  fun res ho p e s m args below meth c ca D ad H locs ls C N J P Sx L => lv_lookup C.1 C.2.1 hd hs hv ht (k res ho p e s m args below meth c ca D ad H locs ls C N J P Sx L)
end JV
end
section
/-! rows of the quiet machine: fields, rows of numbers, ends, calls -/
section JW
variable {ρ : Type} {l : Launch} {own : String} {cc : ByteArray} {nL : Nat} {rt : Option FieldType} {d : Nat} {S : List jv_S} {rv : ρ → Option Value} {pc : Nat} {lv : List (Nat × Value)} {st : List Value} {h : jv_H} {o o1 o2 : Option (ρ × jv_H)}
theorem jv_Tx {w : Cond} {p : Program} {s : State} {m : MethodId} {args : Array Value} {meth : Method} {c : Code} (C : jv_C own cc nL rt p s m args meth c) (hw : w ∈ jv_T) : w.before args s = true := C.2.2.2.2.2.1 w hw
theorem v_get {ix ci j a : Nat} {fin : Bool} {ty : FieldType} {fs : List Value} {w v : Value} (pc' : Nat) (hp : pc' = pc + 3) (hf : jv_fl own ix ci j fin ty) (hS : S[a]? = some (.inr (ci, fs))) (hj : fs[j]? = some w) (hv : ∀ ad : Nat → Nat, jv_f ad h a j w = jv_rz ad v) (hd : decode cc pc = .ok (.getfield ix, 3)) (k : jv_V l own cc nL rt d S rv pc' lv (v :: st) h o) : jv_V l own cc nL rt d S rv pc lv (.ref a :: st) h o := by
  subst hp
  intro res ho p e s m args below meth c ca D ad H locs ls C N J P Sx L
  obtain ⟨Cn, T, n, ty0, h1, h2, h3, h4, h5, h6, h7, h8⟩ := hf
  have hat : (jv_w ca ad h S)[a]? = some (ad a, .inr (ci, fs.mapIdx (jv_f ad h a))) := jv_w_at hS
  exact va_get (D := D) (ci := ci) (v := jv_rz ad v) C.1 C.2.1 (fun w hw => jv_Tx C hw) h3 C.2.2.2.2.1 N.1 P a hat h1 j h2 (jv_Tx C h4) (fun _ h9 => h9) (by rw [jv_f_at hj, hv]) hd (k res ho p e s m args below meth c ca D ad H locs ls C N J P Sx L)
theorem v_geti {ix ci j a : Nat} {fin : Bool} {ty : FieldType} {fs : List Value} (pc' : Nat) (hp : pc' = pc + 3) (hf : jv_fl own ix ci j fin ty) (hS : S[a]? = some (.inr (ci, fs))) (hj : fs[j]? = some (.int 0)) (hd : decode cc pc = .ok (.getfield ix, 3)) (k : jv_V l own cc nL rt d S rv pc' lv (.int (h.1 a j) :: st) h o) : jv_V l own cc nL rt d S rv pc lv (.ref a :: st) h o := v_get pc' hp hf hS hj (fun _ => rfl) hd k
theorem v_getl {ix ci j a : Nat} {fin : Bool} {ty : FieldType} {fs : List Value} (pc' : Nat) (hp : pc' = pc + 3) (hf : jv_fl own ix ci j fin ty) (hS : S[a]? = some (.inr (ci, fs))) (hj : fs[j]? = some (.long 0)) (hd : decode cc pc = .ok (.getfield ix, 3)) (k : jv_V l own cc nL rt d S rv pc' lv (.long (h.2 a j) :: st) h o) : jv_V l own cc nL rt d S rv pc lv (.ref a :: st) h o := v_get pc' hp hf hS hj (fun _ => rfl) hd k
theorem v_getr {ix ci j a r : Nat} {fin : Bool} {ty : FieldType} {fs : List Value} (pc' : Nat) (hp : pc' = pc + 3) (hf : jv_fl own ix ci j fin ty) (hS : S[a]? = some (.inr (ci, fs))) (hj : fs[j]? = some (.ref r)) (hd : decode cc pc = .ok (.getfield ix, 3)) (k : jv_V l own cc nL rt d S rv pc' lv (.ref r :: st) h o) : jv_V l own cc nL rt d S rv pc lv (.ref a :: st) h o := v_get pc' hp hf hS hj (fun _ => rfl) hd k
theorem v_puti {ix ci j a : Nat} {fs : List Value} {v : Int32} (pc' : Nat) (hp : pc' = pc + 3) (hf : jv_fl own ix ci j false .int) (hS : S[a]? = some (.inr (ci, fs))) (hj : fs[j]? = some (.int 0)) (hd : decode cc pc = .ok (.putfield ix, 3)) (k : jv_V l own cc nL rt d S rv pc' lv st (jv_s h a (upd (h.1 a) j v)) o) : jv_V l own cc nL rt d S rv pc lv (.int v :: .ref a :: st) h o := by
  subst hp
  intro res ho p e s m args below meth c ca D ad H locs ls C N J P Sx L
  obtain ⟨Cn, T, n, ty0, h1, h2, h3, h4, h5, h6, h7, h8⟩ := hf
  have hat : (jv_w ca ad h S)[a]? = some (ad a, .inr (ci, fs.mapIdx (jv_f ad h a))) := jv_w_at hS
  refine va_put (D := D) (ci := ci) (v := .int v) (ty := .int) C.1 C.2.1 (fun w hw => jv_Tx C hw) h3 ty0 h7 h8 C.2.2.2.2.1 N.1 P (jv_D J h) Sx a hat h1 j h2 (jv_Tx C h4) (fun _ h9 => h9) h5 h6 rfl rfl (by simpa using (List.getElem?_eq_some_iff.mp hj).1) hd (fun H1 locs1 P1 _ S1 => ?_)
  rw [jv_w_i hS hj v] at P1
  exact k res ho p e s m args below meth c ca D ad H1 locs1 ls C N J P1 S1 L
theorem v_putl {ix ci j a : Nat} {fs : List Value} {v : Int64} (pc' : Nat) (hp : pc' = pc + 3) (hf : jv_fl own ix ci j false .long) (hS : S[a]? = some (.inr (ci, fs))) (hj : fs[j]? = some (.long 0)) (hd : decode cc pc = .ok (.putfield ix, 3)) (k : jv_V l own cc nL rt d S rv pc' lv st (jv_l h a j v) o) : jv_V l own cc nL rt d S rv pc lv (.long v :: .ref a :: st) h o := by
  subst hp
  intro res ho p e s m args below meth c ca D ad H locs ls C N J P Sx L
  obtain ⟨Cn, T, n, ty0, h1, h2, h3, h4, h5, h6, h7, h8⟩ := hf
  have hat : (jv_w ca ad h S)[a]? = some (ad a, .inr (ci, fs.mapIdx (jv_f ad h a))) := jv_w_at hS
  refine va_put (D := D) (ci := ci) (v := .long v) (ty := .long) C.1 C.2.1 (fun w hw => jv_Tx C hw) h3 ty0 h7 h8 C.2.2.2.2.1 N.1 P (jv_D J h) Sx a hat h1 j h2 (jv_Tx C h4) (fun _ h9 => h9) h5 h6 rfl rfl (by simpa using (List.getElem?_eq_some_iff.mp hj).1) hd (fun H1 locs1 P1 _ S1 => ?_)
  rw [jv_w_l hS hj v] at P1
  exact k res ho p e s m args below meth c ca D ad H1 locs1 ls C N J P1 S1 L
/-- a place that a row of n has -/
abbrev jv_ix (i : Int32) (n : Nat) : Prop := 0 ≤ i.toInt ∧ i.toInt < n
theorem v_iald {a n : Nat} {i : Int32} {inst : Decidable (jv_ix i n)} (pc' : Nat) (hp : pc' = pc + 1) (hS : S[a]? = some (.inl (false, n))) (hd : decode cc pc = .ok (.iaload, 1)) (k : jv_ix i n → jv_V l own cc nL rt d S rv pc' lv (.int (h.1 a i.toNatClampNeg) :: st) h o) : jv_V l own cc nL rt d S rv pc lv (.int i :: .ref a :: st) h (@ite _ (jv_ix i n) inst o none) := by
  subst hp
  intro res ho p e s m args below meth c ca D ad H locs ls C N J P Sx L
  by_cases hi : jv_ix i n
  · rw [if_pos hi] at ho
    exact va_iald C.1 C.2.1 N.1 P a 0 (jv_w_at hS) rfl (vp_in_iff.mpr hi) hd (k hi res ho p e s m args below meth c ca D ad H locs ls C N J P Sx L)
  · rw [if_neg hi] at ho; cases ho
theorem v_zald {a n : Nat} {i : Int32} {inst : Decidable (jv_ix i n)} (pc' : Nat) (hp : pc' = pc + 1) (hS : S[a]? = some (.inl (true, n))) (hd : decode cc pc = .ok (.baload, 1)) (k : jv_ix i n → jv_V l own cc nL rt d S rv pc' lv (.int (h.1 a i.toNatClampNeg) :: st) h o) : jv_V l own cc nL rt d S rv pc lv (.int i :: .ref a :: st) h (@ite _ (jv_ix i n) inst o none) := by
  subst hp
  intro res ho p e s m args below meth c ca D ad H locs ls C N J P Sx L
  by_cases hi : jv_ix i n
  · rw [if_pos hi] at ho
    exact va_zald C.1 C.2.1 N.1 P a 1 (jv_w_at hS) rfl (vp_in_iff.mpr hi) hd (k hi res ho p e s m args below meth c ca D ad H locs ls C N J P Sx L)
  · rw [if_neg hi] at ho; cases ho
theorem v_iast {a n : Nat} {i x : Int32} {inst : Decidable (jv_ix i n)} (pc' : Nat) (hp : pc' = pc + 1) (hS : S[a]? = some (.inl (false, n))) (hd : decode cc pc = .ok (.iastore, 1)) (k : jv_ix i n → jv_V l own cc nL rt d S rv pc' lv st (jv_s h a (upd (h.1 a) i.toNatClampNeg x)) o) : jv_V l own cc nL rt d S rv pc lv (.int x :: .int i :: .ref a :: st) h (@ite _ (jv_ix i n) inst o none) := by
  subst hp
  intro res ho p e s m args below meth c ca D ad H locs ls C N J P Sx L
  by_cases hi : jv_ix i n
  · rw [if_pos hi] at ho
    refine va_iast C.1 C.2.1 N.1 P (jv_D J h) Sx a 0 (jv_w_at hS) rfl (vp_in_iff.mpr hi) hd (fun H1 locs1 P1 _ S1 => ?_)
    rw [jv_w_arr hS] at P1
    exact k hi res ho p e s m args below meth c ca D ad H1 locs1 ls C N J P1 S1 L
  · rw [if_neg hi] at ho; cases ho
theorem v_zast {a n : Nat} {i x : Int32} {inst : Decidable (jv_ix i n)} (pc' : Nat) (hp : pc' = pc + 1) (hS : S[a]? = some (.inl (true, n))) (hd : decode cc pc = .ok (.bastore, 1)) (k : jv_ix i n → jv_V l own cc nL rt d S rv pc' lv st (jv_s h a (upd (h.1 a) i.toNatClampNeg (vp_nar .boolean x))) o) : jv_V l own cc nL rt d S rv pc lv (.int x :: .int i :: .ref a :: st) h (@ite _ (jv_ix i n) inst o none) := by
  subst hp
  intro res ho p e s m args below meth c ca D ad H locs ls C N J P Sx L
  by_cases hi : jv_ix i n
  · rw [if_pos hi] at ho
    refine va_zast C.1 C.2.1 N.1 P (jv_D J h) Sx a 1 (jv_w_at hS) rfl (vp_in_iff.mpr hi) hd (fun H1 locs1 P1 _ S1 => ?_)
    rw [jv_w_arr hS] at P1
    exact k hi res ho p e s m args below meth c ca D ad H1 locs1 ls C N J P1 S1 L
  · rw [if_neg hi] at ho; cases ho
theorem v_alen {a n : Nat} {z : Bool} {v : Int32} (pc' : Nat) (hp : pc' = pc + 1) (hS : S[a]? = some (.inl (z, n))) (hv : Int32.ofNat n = v) (hd : decode cc pc = .ok (.arraylength, 1)) (k : jv_V l own cc nL rt d S rv pc' lv (.int v :: st) h o) : jv_V l own cc nL rt d S rv pc lv (.ref a :: st) h o := by
  subst hp
  intro res ho p e s m args below meth c ca D ad H locs ls C N J P Sx L
  cases z with
  | false => exact va_alen C.1 C.2.1 N.1 P a 0 (jv_w_at hS) (ty := .int) rfl hv hd (k res ho p e s m args below meth c ca D ad H locs ls C N J P Sx L)
  | true => exact va_alen C.1 C.2.1 N.1 P a 1 (jv_w_at hS) (ty := .boolean) rfl hv hd (k res ho p e s m args below meth c ca D ad H locs ls C N J P Sx L)
theorem v_gets {ix : Nat} (i : Nat) (pc' : Nat) (hp : pc' = pc + 3) (hi : i < 4) (hw : Cond.fieldLink own ix RX7 (jv_sn i) "[I" ∈ jv_T) (hd : decode cc pc = .ok (.getstatic ix, 3)) (k : jv_V l own cc nL rt d S rv pc' lv (.ref (1000 + i) :: st) h o) : jv_V l own cc nL rt d S rv pc lv st h o := by
  subst hp
  intro res ho p e s m args below meth c ca D ad H locs ls C N J P Sx L
  exact va_gets C.1 C.2.1 (N.2.2 i hi).1 Sx C.2.2.2.2.1 (jv_Tx C hw) (fun _ h9 => h9) hd (k res ho p e s m args below meth c ca D ad H locs ls C N J P Sx L)
theorem v_tald {j : Int32} {inst : Decidable (jv_ix j 3)} (i : Nat) (pc' : Nat) (hp : pc' = pc + 1) (hi : i < 4) (hd : decode cc pc = .ok (.iaload, 1)) (k : jv_ix j 3 → jv_V l own cc nL rt d S rv pc' lv (.int (jv_sc i j.toNatClampNeg) :: st) h o) : jv_V l own cc nL rt d S rv pc lv (.int j :: .ref (1000 + i) :: st) h (@ite _ (jv_ix j 3) inst o none) := by
  subst hp
  intro res ho p e s m args below meth c ca D ad H locs ls C N J P Sx L
  by_cases hj : jv_ix j 3
  · rw [if_pos hj] at ho
    exact va_ti C.1 C.2.1 (N.2.2 i hi).2 Sx (vp_in_iff.mpr hj) rfl hd (k hj res ho p e s m args below meth c ca D ad H locs ls C N J P Sx L)
  · rw [if_neg hj] at ho; cases ho
theorem v_mmax {ix : Nat} {x y : Int32} (pc' : Nat) (hp : pc' = pc + 3) (hd1 : 1 ≤ d) (hst : (st.map fun v => v.category).sum ≤ 8) (hw : Cond.methodLink own ix Lib.Math.max.name ∈ jv_T) (h2 : Cond.static Lib.Math.max.name ∈ jv_T) (h3 : Cond.initialized "java/lang/Math" ∈ jv_T) (h4 : Cond.code Lib.Math.max.name Lib.Math.max.code 2 (some .int) ∈ jv_T) (hd : decode cc pc = .ok (.invokestatic ix, 3)) (k : jv_V l own cc nL rt d S rv pc' lv (.int (if x < y then y else x) :: st) h o) : jv_V l own cc nL rt d S rv pc lv (.int y :: .int x :: st) h o := by
  subst hp
  intro res ho p e s m args below meth c ca D ad H locs ls C N J P Sx L
  exact va_mmax C.1 C.2.1 (C.2.2.2.1.trans L.1.symm) C.2.2.2.2.1 (jv_Tx C hw) (jv_Tx C h2) (jv_Tx C h3) (jv_Tx C h4) hd1 (by rw [jv_cats]; show _ ≤ 40 * d; omega) (Nat.zero_le _) (Nat.zero_le _) hd (k res ho p e s m args below meth c ca D ad H locs ls C N J P Sx L)
theorem v_mmin {ix : Nat} {x y : Int32} (pc' : Nat) (hp : pc' = pc + 3) (hd1 : 1 ≤ d) (hst : (st.map fun v => v.category).sum ≤ 8) (hw : Cond.methodLink own ix Lib.Math.min.name ∈ jv_T) (h2 : Cond.static Lib.Math.min.name ∈ jv_T) (h3 : Cond.initialized "java/lang/Math" ∈ jv_T) (h4 : Cond.code Lib.Math.min.name Lib.Math.min.code 2 (some .int) ∈ jv_T) (hd : decode cc pc = .ok (.invokestatic ix, 3)) (k : jv_V l own cc nL rt d S rv pc' lv (.int (if y < x then y else x) :: st) h o) : jv_V l own cc nL rt d S rv pc lv (.int y :: .int x :: st) h o := by
  subst hp
  intro res ho p e s m args below meth c ca D ad H locs ls C N J P Sx L
  exact va_mmin C.1 C.2.1 (C.2.2.2.1.trans L.1.symm) C.2.2.2.2.1 (jv_Tx C hw) (jv_Tx C h2) (jv_Tx C h3) (jv_Tx C h4) hd1 (by rw [jv_cats]; show _ ≤ 40 * d; omega) (Nat.zero_le _) (Nat.zero_le _) hd (k res ho p e s m args below meth c ca D ad H locs ls C N J P Sx L)
/-- n ints can be taken from place sp of n0 to place dp of n1 -/
abbrev jv_cp (sp dp n : Int32) (n0 n1 : Nat) : Prop := 0 ≤ sp.toInt ∧ 0 ≤ dp.toInt ∧ 0 ≤ n.toInt ∧ sp.toInt + n.toInt ≤ n0 ∧ dp.toInt + n.toInt ≤ n1
theorem jv_clamp {x : Int32} (h : 0 ≤ x.toInt) : ¬ x < 0 ∧ (x.toNatClampNeg : Int) = x.toInt := by
  refine ⟨fun q => ?_, ?_⟩
  · have h1 : x.toInt < (0 : Int32).toInt := Int32.lt_iff_toInt_lt.mp q
    have h2 : (0 : Int32).toInt = 0 := rfl
    omega
  · show ((x.toInt.toNat : Nat) : Int) = x.toInt
    omega
theorem jv_native : nativeFrameWords "java/lang/System" "arraycopy" 5 = 7 := by decide +kernel
theorem v_copy {ix a0 a1 n0 n1 : Nat} {sp dp n : Int32} {inst : Decidable (jv_cp sp dp n n0 n1)} (pc' : Nat) (hp : pc' = pc + 3) (hd1 : 1 ≤ d) (hst : (st.map fun v => v.category).sum ≤ 8) (hS0 : S[a0]? = some (.inl (false, n0))) (hS1 : S[a1]? = some (.inl (false, n1))) (hw : Cond.methodLink own ix arraycopyName ∈ jv_T) (h2 : Cond.native arraycopyName ∈ jv_T) (h3 : Cond.static arraycopyName ∈ jv_T) (h4 : Cond.initialized "java/lang/System" ∈ jv_T) (hd : decode cc pc = .ok (.invokestatic ix, 3)) (k : jv_cp sp dp n n0 n1 → jv_V l own cc nL rt d S rv pc' lv st (jv_s h a1 (va_cpy (h.1 a0) (h.1 a1) sp.toNatClampNeg dp.toNatClampNeg n.toNatClampNeg)) o) : jv_V l own cc nL rt d S rv pc lv (.int n :: .int dp :: .ref a1 :: .int sp :: .ref a0 :: st) h (@ite _ (jv_cp sp dp n n0 n1) inst o none) := by
  subst hp
  intro res ho p e s m args below meth c ca D ad H locs ls C N J P Sx L
  by_cases hi : jv_cp sp dp n n0 n1
  · rw [if_pos hi] at ho
    obtain ⟨b1, b2, b3, b4, b5⟩ := hi
    have g1 := jv_clamp b1
    have g2 := jv_clamp b2
    have g3 := jv_clamp b3
    refine va_copyi (ty := .int) C.1 C.2.1 (C.2.2.2.1.trans L.1.symm) C.2.2.2.2.1 (jv_Tx C hw) (jv_Tx C h2) (jv_Tx C h3) (jv_Tx C h4) N.1 P (jv_D J h) Sx a0 a1 0 0 (jv_w_at hS0) (jv_w_at hS1) rfl rfl rfl g1.1 g2.1 g3.1 (by omega) (by omega) (fun _ _ => rfl) hd1 (by rw [jv_cats, jv_native]; show _ ≤ 40 * d; omega) hd (fun H1 locs1 P1 _ S1 => ?_)
    rw [jv_w_arr hS1] at P1
    exact k ⟨b1, b2, b3, b4, b5⟩ res ho p e s m args below meth c ca D ad H1 locs1 ls C N J P1 S1 L
  · rw [if_neg hi] at ho; cases ho
-- ends
theorem v_iret {v : Int32} (hr : rt = some .int) (hd : decode cc pc = .ok (.ireturn, 1)) : jv_V l own cc nL rt d S jv_ri pc lv [.int v] h (some (v, h)) := by
  subst hr
  intro res ho p e s m args below meth c ca D ad H locs ls C N J P Sx L
  cases ho
  exact W.iret C.1 C.2.1 C.2.2.1 (fun t ht _ => ⟨rfl, by rw [ht]; exact P, Sx.F ht⟩) Sx.2.2 hd (hlocks := C.2.2.2.2.2.2)
theorem v_zret {v : Int32} {inst : Decidable (v = 0 ∨ v = 1)} (hr : rt = some .boolean) (hd : decode cc pc = .ok (.ireturn, 1)) : jv_V l own cc nL rt d S jv_ri pc lv [.int v] h (@ite _ (v = 0 ∨ v = 1) inst (some (v, h)) none) := by
  subst hr
  intro res ho p e s m args below meth c ca D ad H locs ls C N J P Sx L
  by_cases hv : v = 0 ∨ v = 1
  · rw [if_pos hv] at ho
    cases ho
    exact W.zret C.1 C.2.1 C.2.2.1 (by rcases hv with rfl | rfl <;> rfl) (fun t ht _ => ⟨rfl, by rw [ht]; exact P, Sx.F ht⟩) Sx.2.2 hd (hlocks := C.2.2.2.2.2.2)
  · rw [if_neg hv] at ho; cases ho
theorem v_lret {v : Int64} (hr : rt = some .long) (hd : decode cc pc = .ok (.lreturn, 1)) : jv_V l own cc nL rt d S jv_rl pc lv [.long v] h (some (v, h)) := by
  subst hr
  intro res ho p e s m args below meth c ca D ad H locs ls C N J P Sx L
  cases ho
  exact W.lret C.1 C.2.1 C.2.2.1 (fun t ht _ => ⟨rfl, by rw [ht]; exact P, Sx.F ht⟩) Sx.2.2 hd (hlocks := C.2.2.2.2.2.2)
theorem v_aret {v : Nat} {nm : String} (hr : rt = some (.object nm)) (hd : decode cc pc = .ok (.areturn, 1)) : jv_V l own cc nL rt d S jv_rr pc lv [.ref v] h (some (v, h)) := by
  subst hr
  intro res ho p e s m args below meth c ca D ad H locs ls C N J P Sx L
  cases ho
  exact W.aret C.1 C.2.1 C.2.2.1 (Or.inl ⟨_, rfl⟩) (Or.inr ⟨_, rfl⟩) (fun t ht _ => ⟨rfl, by rw [ht]; exact P, Sx.F ht⟩) Sx.2.2 hd (hlocks := C.2.2.2.2.2.2)
theorem v_vret (hr : rt = none) (hd : decode cc pc = .ok (.return_, 1)) : jv_V l own cc nL rt d S jv_rv pc lv [] h (some ((), h)) := by
  subst hr
  intro res ho p e s m args below meth c ca D ad H locs ls C N J P Sx L
  cases ho
  exact W.vret C.1 C.2.1 C.2.2.1 (fun t ht _ => ⟨rfl, by rw [ht]; exact P, Sx.F ht⟩) Sx.2.2 hd (hlocks := C.2.2.2.2.2.2)
-- calls
theorem jv_blind {ca : Bool → ClassId} {D : va_G} {ad : Nat → Nat} {as : List Value} {h : jv_H} : FrameBlind (jv_P ca D ad S as h) := fun a U g mk q => ⟨q.1, jv_N_calling g mk a q.2.1, q.2.2.1, q.2.2.2⟩
theorem jv_go {p : Program} {e : Env} {s : State} {m : MethodId} {args : Array Value} {below : List Frame} {meth : Method} {c : Code} {ca : Bool → ClassId} {D : va_G} {ad : Nat → Nat} {H : Heap} {locs : List Loc} {ls : Array Slot} {Q : State → Prop} {r : Option Value} {h1 : jv_H} {st0 rest : List Value} {a : Array Value}
    (hr : va_Run p l e (jv_R d) s m args below meth c H locs 0 0 0 0 (F0 m pc ls st0) rest (jv_Q ca D ad S r h1 a) (jv_A ad S)) (Sx : va_S (jv_A ad S) s.heap H locs)
    (kk : ∀ (H1 : Heap) (locs1 : List Loc), va_P D vwCl (jv_w ca ad h1 S) H1 → va_S (jv_A ad S) s.heap H1 locs1 → W p l e (jv_R d) s m args below meth c H1 locs1 0 0 Q (F0 m (pc + 3) ls ((r.map (jv_rz ad)).toList ++ rest))) :
    W p l e (jv_R d) s m args below meth c H locs 0 0 Q (F0 m pc ls st0) := by
  intro T hT X
  obtain ⟨v, st₀, t, T', L, h0, X', hL, e1, e2, ⟨hv, hP, hz, hk⟩, st⟩ := hr T hT X
  cases hv
  rw [h0] at hz hk
  obtain ⟨t2, a1, b1⟩ := kk T'.heap (locs ++ L) (by rw [e1]; exact hP) ⟨Nat.le_trans Sx.1 (by rw [e1]; exact hz), fun q q1 q2 => by rw [e1, hk q (Nat.lt_of_lt_of_le q1 Sx.1) q2]; exact Sx.2.1 q q1 q2, fun q hq => by
    rcases List.mem_append.mp hq with g | g
    · exact Sx.2.2 q g
    · exact hL q g⟩ T' rfl X'
  exact ⟨t2, st t2 a1, b1⟩
theorem jv_pre {p : Program} {s : State} {m : MethodId} {args : Array Value} {meth : Method} {c : Code} {ca : Bool → ClassId} {D : va_G} {ad : Nat → Nat} {H : Heap} {locs : List Loc} {as : List Value} (N : jv_N ca D ad S s) (J : jv_J ad S) (P : va_P D vwCl (jv_w ca ad h S) H) (Sx : va_S (jv_A ad S) s.heap H locs) : ∀ U : State, U.heap = H → s.WarmedH U.vm → jv_P ca D ad S as h (as.map (jv_rz ad)).toArray U :=
  fun U hU hW => ⟨rfl, jv_N_moved N hW (fun a ha hn => by rw [hU]; exact Sx.2.1 a ha hn), J, by rw [hU]; exact P⟩
theorem jv_words {y : MethodName} {cc' : ByteArray} {nL' : Nat} {rt' : Option FieldType} (hc : Cond.code y cc' nL' rt' ∈ jv_T) (ws0 : List Cond) (h0 : ∀ w ∈ ws0, w ∈ jv_T) : GoodIn jv_T (ws0 ++ (Cond.code y cc' nL' rt' :: jv_T)) := jv_good fun w hw => by
  rcases List.mem_append.mp hw with q | q
  · exact h0 w q
  · rcases List.mem_cons.mp q with rfl | q
    · exact hc
    · exact q
theorem v_callv {ρ' : Type} {rv' : ρ' → Option Value} {y : MethodName} {cc' : ByteArray} {nL' n ix a ci : Nat} {rt' : Option FieldType} {as : List Value} {fs : List Value} {f : Option (ρ' × jv_H)} {g : ρ' × jv_H → Option (ρ × jv_H)} (pc' : Nat) (hp : pc' = pc + 3) (hd1 : 1 ≤ d) (hnl : nL' ≤ 21) (hcb : jv_cb y cc' nL' rt' n) (hcv : jv_cv own ix y) (hS : S[a]? = some (.inr (ci, fs))) (hci : vwCl[ci]?.map (fun q => q.1) = some y.cls) (hn : as.length = n) (hst : (st.map fun v => v.category).sum ≤ 8) (hd : decode cc pc = .ok (.invokevirtual ix, 3))
    (hE : jv_E l y cc' nL' rt' (d - 1) S rv' (.ref a :: as) h f) (k : ∀ q, jv_V l own cc nL rt d S rv pc' lv ((rv' q.1).toList ++ st) q.2 (g q)) : jv_V l own cc nL rt d S rv pc lv (as.reverse ++ .ref a :: st) h (f.bind g) := by
  subst hp
  intro res ho p e s m args below meth c ca D ad H locs ls C N J P Sx L
  cases hf : f with
  | none => rw [hf] at ho; cases ho
  | some q =>
    rw [hf] at ho
    have hM := hE q hf ca D ad
    have hK := k q res ho
    obtain ⟨w1, w2, w3⟩ := hcv
    obtain ⟨w4, w5, w6⟩ := hcb
    cases hcl : vwCl[ci]? with
    | none => rw [hcl] at hci; cases hci
    | some r =>
      rw [hcl] at hci
      have hrc : r.1 = y.cls := Option.some.inj hci
      have cw : CallW (jv_R d) s args own y.cls ix y cc' nL' rt' (Cond.code y cc' nL' rt' :: jv_T) (jv_R (d - 1)) 0 0 n := cwV n C.2.2.2.2.2.1 (jv_words w5 [.methodLink own ix y, .instanceMethod y, .selects y.cls y y, .initialized y.cls] (fun w hw => by
        simp only [List.mem_cons, List.not_mem_nil, or_false] at hw
        rcases hw with rfl | rfl | rfl | rfl
        · exact w1
        · exact w2
        · exact w3
        · exact w4)) rfl rfl rfl ⟨rfl, w6⟩ ⟨by show d - 1 + 1 ≤ d; omega, by show 8 + (nL' + 11) + 40 * (d - 1) ≤ 40 * d; omega⟩
      have hpre := jv_pre (as := .ref a :: as) (p := p) (m := m) (args := args) (meth := meth) (c := c) N J P Sx
      have hrec := va_recv N.1 P hcl (jv_w_at (ca := ca) (ad := ad) (h := h) hS)
      rw [hrc] at hrec
      have hstk : ((as.reverse ++ .ref a :: st).map (jv_rz ad)) = (as.map (jv_rz ad)).reverse ++ .ref (ad a) :: st.map (jv_rz ad) := by rw [List.map_append, List.map_reverse]; rfl
      rw [hstk]
      refine jv_go (va_runV (C := y.cls) (As := as.map (jv_rz ad)) (b := ad a) (rest := st.map (jv_rz ad)) ⟨C.1, C.2.1, C.2.2.2.1, C.2.2.2.2.1, C.2.2.2.2.2.1⟩ hM cw ⟨jv_blind, hrec, hpre⟩ rfl (by rw [List.length_map, hn]) L.1 rfl (lv_room (by rw [jv_cats]; exact hst)) hd ⟨Nat.le_refl _, Nat.le_refl _⟩) Sx (fun H1 locs1 P1 S1 => ?_)
      have hz := hK p e s m args below meth c ca D ad H1 locs1 ls C N J P1 S1 L
      rw [List.map_append] at hz
      cases hrv : rv' q.1 with
      | none => rw [hrv] at hz; exact hz
      | some v => rw [hrv] at hz; exact hz
theorem v_calls {ρ' : Type} {rv' : ρ' → Option Value} {y : MethodName} {cc' : ByteArray} {nL' n ix : Nat} {rt' : Option FieldType} {as : List Value} {f : Option (ρ' × jv_H)} {g : ρ' × jv_H → Option (ρ × jv_H)} (pc' : Nat) (hp : pc' = pc + 3) (hd1 : 1 ≤ d) (hnl : nL' ≤ 21) (hcb : jv_cb y cc' nL' rt' n) (hcs : jv_cs own ix y) (hn : as.length = n) (hst : (st.map fun v => v.category).sum ≤ 8) (hd : decode cc pc = .ok (.invokestatic ix, 3))
    (hE : jv_E l y cc' nL' rt' (d - 1) S rv' as h f) (k : ∀ q, jv_V l own cc nL rt d S rv pc' lv ((rv' q.1).toList ++ st) q.2 (g q)) : jv_V l own cc nL rt d S rv pc lv (as.reverse ++ st) h (f.bind g) := by
  subst hp
  intro res ho p e s m args below meth c ca D ad H locs ls C N J P Sx L
  cases hf : f with
  | none => rw [hf] at ho; cases ho
  | some q =>
    rw [hf] at ho
    have hM := hE q hf ca D ad
    have hK := k q res ho
    obtain ⟨w1, w2⟩ := hcs
    obtain ⟨w4, w5, w6⟩ := hcb
    have cw : CallB (jv_R d) s args own ix y cc' nL' rt' (Cond.code y cc' nL' rt' :: jv_T) (jv_R (d - 1)) 0 0 n ∧ (Cond.static y).before args s = true := va_cwS n C.2.2.2.2.2.1 (jv_words w5 [.methodLink own ix y, .static y, .initialized y.cls] (fun w hw => by
        simp only [List.mem_cons, List.not_mem_nil, or_false] at hw
        rcases hw with rfl | rfl | rfl
        · exact w1
        · exact w2
        · exact w4)) rfl rfl rfl w6 ⟨by show d - 1 + 1 ≤ d; omega, by show 8 + (nL' + 11) + 40 * (d - 1) ≤ 40 * d; omega⟩
    have hpre := jv_pre (as := as) (p := p) (m := m) (args := args) (meth := meth) (c := c) N J P Sx
    have hstk : ((as.reverse ++ st).map (jv_rz ad)) = (as.map (jv_rz ad)).reverse ++ st.map (jv_rz ad) := by rw [List.map_append, List.map_reverse]
    rw [hstk]
    refine jv_go (va_runS (As := as.map (jv_rz ad)) (rest := st.map (jv_rz ad)) ⟨C.1, C.2.1, C.2.2.2.1, C.2.2.2.2.1, C.2.2.2.2.2.1⟩ hM cw ⟨jv_blind, hpre⟩ rfl (by rw [List.length_map, hn]) L.1 rfl (lv_room (by rw [jv_cats]; exact hst)) hd ⟨Nat.le_refl _, Nat.le_refl _⟩) Sx (fun H1 locs1 P1 S1 => ?_)
    have hz := hK p e s m args below meth c ca D ad H1 locs1 ls C N J P1 S1 L
    rw [List.map_append] at hz
    cases hrv : rv' q.1 with
    | none => rw [hrv] at hz; exact hz
    | some v => rw [hrv] at hz; exact hz
theorem v_calln {ρ' : Type} {rv' : ρ' → Option Value} {y : MethodName} {cc' : ByteArray} {nL' n ix : Nat} {rt' : Option FieldType} {as : List Value} {host : String} {f : Option (ρ' × jv_H)} {g : ρ' × jv_H → Option (ρ × jv_H)} (pc' : Nat) (hp : pc' = pc + 3) (hd1 : 1 ≤ d) (hnl : nL' ≤ 21) (hcb : jv_cb y cc' nL' rt' n) (hcs : jv_cn own ix y host) (hn : as.length = n) (hst : (st.map fun v => v.category).sum ≤ 8) (hd : decode cc pc = .ok (.invokestatic ix, 3))
    (hE : jv_E l y cc' nL' rt' (d - 1) S rv' as h f) (k : ∀ q, jv_V l own cc nL rt d S rv pc' lv ((rv' q.1).toList ++ st) q.2 (g q)) : jv_V l own cc nL rt d S rv pc lv (as.reverse ++ st) h (f.bind g) := by
  subst hp
  intro res ho p e s m args below meth c ca D ad H locs ls C N J P Sx L
  cases hf : f with
  | none => rw [hf] at ho; cases ho
  | some q =>
    rw [hf] at ho
    have hM := hE q hf ca D ad
    have hK := k q res ho
    obtain ⟨w1, w2⟩ := hcs
    obtain ⟨w4, w5, w6⟩ := hcb
    have cw : va_CN (jv_R d) s args own ix y host cc' nL' rt' (Cond.code y cc' nL' rt' :: jv_T) (jv_R (d - 1)) 0 0 n := va_cnB n C.2.2.2.2.2.1 (jv_words w5 [] (fun w hw => by cases hw)) rfl rfl rfl (N.2.1 _ w1) (jv_Tx C w4) w6 ⟨by show d - 1 + 1 ≤ d; omega, by show 8 + (nL' + 11) + 40 * (d - 1) ≤ 40 * d; omega⟩
    have hpre := jv_pre (as := as) (p := p) (m := m) (args := args) (meth := meth) (c := c) N J P Sx
    have hstk : ((as.reverse ++ st).map (jv_rz ad)) = (as.map (jv_rz ad)).reverse ++ st.map (jv_rz ad) := by rw [List.map_append, List.map_reverse]
    rw [hstk]
    refine jv_go (va_runSN (As := as.map (jv_rz ad)) (rest := st.map (jv_rz ad)) ⟨C.1, C.2.1, C.2.2.2.1, C.2.2.2.2.1, C.2.2.2.2.2.1⟩ hM ⟨cw, jv_Tx C w2, trivial⟩ ⟨jv_blind, hpre⟩ rfl (by rw [List.length_map, hn]) L.1 rfl (lv_room (by rw [jv_cats]; exact hst)) hd ⟨Nat.le_refl _, Nat.le_refl _⟩) Sx (fun H1 locs1 P1 S1 => ?_)
    have hz := hK p e s m args below meth c ca D ad H1 locs1 ls C N J P1 S1 L
    rw [List.map_append] at hz
    cases hrv : rv' q.1 with
    | none => rw [hrv] at hz; exact hz
    | some v => rw [hrv] at hz; exact hz
end JW
end
