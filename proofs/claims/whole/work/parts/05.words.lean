/-! the words of the tables that calls carry along; each by its place; tokens of fields and calls: written by wip/whole/mkwords.py -/
def jv_T : List Cond := lw_tbl.filter goodWord
theorem jv_in {w : Cond} (i : Nat) (h : lw_tbl[i]? = some w) (g : goodWord w = true) : w ∈ jv_T := List.mem_filter.mpr ⟨List.mem_of_getElem? h, g⟩
theorem jv_good {ws : List Cond} (h : ∀ w ∈ ws, w ∈ jv_T) : GoodIn jv_T ws := fun w hw => ⟨h w hw, good_of_word (List.mem_filter.mp (h w hw)).2⟩
theorem mw_0 : (Jvm.Cond.selects "TemperNurses$Course" ({ cls := "TemperNurses$Course", name := "setCell", desc := "(II)V" } : Jvm.MethodName) ({ cls := "TemperNurses$Course", name := "setCell", desc := "(II)V" } : Jvm.MethodName)) ∈ jv_T := jv_in 0 (by decide +kernel) (by decide +kernel)
theorem mw_1 : (Jvm.Cond.selects "TemperNurses$TextReader" ({ cls := "TemperNurses$TextReader", name := "readToken", desc := "()V" } : Jvm.MethodName) ({ cls := "TemperNurses$TextReader", name := "readToken", desc := "()V" } : Jvm.MethodName)) ∈ jv_T := jv_in 1 (by decide +kernel) (by decide +kernel)
theorem mw_2 : (Jvm.Cond.selects "TemperNurses$TextReader" ({ cls := "TemperNurses$TextReader", name := "byteAt", desc := "(I)I" } : Jvm.MethodName) ({ cls := "TemperNurses$TextReader", name := "byteAt", desc := "(I)I" } : Jvm.MethodName)) ∈ jv_T := jv_in 2 (by decide +kernel) (by decide +kernel)
theorem mw_3 : (Jvm.Cond.selects "TemperNurses$TextReader" ({ cls := "TemperNurses$TextReader", name := "isLetter", desc := "(I)Z" } : Jvm.MethodName) ({ cls := "TemperNurses$TextReader", name := "isLetter", desc := "(I)Z" } : Jvm.MethodName)) ∈ jv_T := jv_in 3 (by decide +kernel) (by decide +kernel)
theorem mw_4 : (Jvm.Cond.selects "TemperNurses$TextReader" ({ cls := "TemperNurses$TextReader", name := "readLetters", desc := "()V" } : Jvm.MethodName) ({ cls := "TemperNurses$TextReader", name := "readLetters", desc := "()V" } : Jvm.MethodName)) ∈ jv_T := jv_in 4 (by decide +kernel) (by decide +kernel)
theorem mw_5 : (Jvm.Cond.selects "TemperNurses$TextReader" ({ cls := "TemperNurses$TextReader", name := "isDigit", desc := "(I)Z" } : Jvm.MethodName) ({ cls := "TemperNurses$TextReader", name := "isDigit", desc := "(I)Z" } : Jvm.MethodName)) ∈ jv_T := jv_in 5 (by decide +kernel) (by decide +kernel)
theorem mw_6 : (Jvm.Cond.selects "TemperNurses$TextReader" ({ cls := "TemperNurses$TextReader", name := "readDigits", desc := "()V" } : Jvm.MethodName) ({ cls := "TemperNurses$TextReader", name := "readDigits", desc := "()V" } : Jvm.MethodName)) ∈ jv_T := jv_in 6 (by decide +kernel) (by decide +kernel)
theorem mw_7 : (Jvm.Cond.selects "TemperNurses$TextReader" ({ cls := "TemperNurses$TextReader", name := "canStand", desc := "()Z" } : Jvm.MethodName) ({ cls := "TemperNurses$TextReader", name := "canStand", desc := "()Z" } : Jvm.MethodName)) ∈ jv_T := jv_in 7 (by decide +kernel) (by decide +kernel)
theorem mw_8 : (Jvm.Cond.selects "TemperNurses$TextReader" ({ cls := "TemperNurses$TextReader", name := "canBeginItem", desc := "()Z" } : Jvm.MethodName) ({ cls := "TemperNurses$TextReader", name := "canBeginItem", desc := "()Z" } : Jvm.MethodName)) ∈ jv_T := jv_in 8 (by decide +kernel) (by decide +kernel)
theorem mw_9 : (Jvm.Cond.selects "TemperNurses$TextReader" ({ cls := "TemperNurses$TextReader", name := "numbersOfItem", desc := "()I" } : Jvm.MethodName) ({ cls := "TemperNurses$TextReader", name := "numbersOfItem", desc := "()I" } : Jvm.MethodName)) ∈ jv_T := jv_in 9 (by decide +kernel) (by decide +kernel)
theorem mw_10 : (Jvm.Cond.selects "TemperNurses$TextReader" ({ cls := "TemperNurses$TextReader", name := "canBeTold", desc := "()Z" } : Jvm.MethodName) ({ cls := "TemperNurses$TextReader", name := "canBeTold", desc := "()Z" } : Jvm.MethodName)) ∈ jv_T := jv_in 10 (by decide +kernel) (by decide +kernel)
theorem mw_11 : (Jvm.Cond.selects "TemperNurses$TextReader" ({ cls := "TemperNurses$TextReader", name := "takeToken", desc := "()V" } : Jvm.MethodName) ({ cls := "TemperNurses$TextReader", name := "takeToken", desc := "()V" } : Jvm.MethodName)) ∈ jv_T := jv_in 11 (by decide +kernel) (by decide +kernel)
theorem mw_12 : (Jvm.Cond.selects "TemperNurses$TextReader" ({ cls := "TemperNurses$TextReader", name := "takeItem", desc := "()V" } : Jvm.MethodName) ({ cls := "TemperNurses$TextReader", name := "takeItem", desc := "()V" } : Jvm.MethodName)) ∈ jv_T := jv_in 12 (by decide +kernel) (by decide +kernel)
theorem mw_13 : (Jvm.Cond.selects "TemperNurses$Course" ({ cls := "TemperNurses$Course", name := "cell", desc := "(I)I" } : Jvm.MethodName) ({ cls := "TemperNurses$Course", name := "cell", desc := "(I)I" } : Jvm.MethodName)) ∈ jv_T := jv_in 13 (by decide +kernel) (by decide +kernel)
theorem mw_14 : (Jvm.Cond.selects "TemperNurses$Course" ({ cls := "TemperNurses$Course", name := "isLowestOfRing", desc := "(I)Z" } : Jvm.MethodName) ({ cls := "TemperNurses$Course", name := "isLowestOfRing", desc := "(I)Z" } : Jvm.MethodName)) ∈ jv_T := jv_in 14 (by decide +kernel) (by decide +kernel)
theorem mw_15 : (Jvm.Cond.selects "TemperNurses$Planner" ({ cls := "TemperNurses$Planner", name := "tryYears", desc := "(II)V" } : Jvm.MethodName) ({ cls := "TemperNurses$Planner", name := "tryYears", desc := "(II)V" } : Jvm.MethodName)) ∈ jv_T := jv_in 15 (by decide +kernel) (by decide +kernel)
theorem mw_16 : (Jvm.Cond.selects "TemperNurses$Planner" ({ cls := "TemperNurses$Planner", name := "tryPlaces", desc := "(II)V" } : Jvm.MethodName) ({ cls := "TemperNurses$Planner", name := "tryPlaces", desc := "(II)V" } : Jvm.MethodName)) ∈ jv_T := jv_in 16 (by decide +kernel) (by decide +kernel)
theorem mw_17 : (Jvm.Cond.selects "TemperNurses$BedMaker" ({ cls := "TemperNurses$BedMaker", name := "tryOthers", desc := "(II)V" } : Jvm.MethodName) ({ cls := "TemperNurses$BedMaker", name := "tryOthers", desc := "(II)V" } : Jvm.MethodName)) ∈ jv_T := jv_in 17 (by decide +kernel) (by decide +kernel)
theorem mw_18 : (Jvm.Cond.selects "TemperNurses$BedMaker" ({ cls := "TemperNurses$BedMaker", name := "mayShare", desc := "(II)Z" } : Jvm.MethodName) ({ cls := "TemperNurses$BedMaker", name := "mayShare", desc := "(II)Z" } : Jvm.MethodName)) ∈ jv_T := jv_in 18 (by decide +kernel) (by decide +kernel)
theorem mw_19 : (Jvm.Cond.selects "TemperNurses" ({ cls := "TemperNurses", name := "countLooseWays", desc := "(II)I" } : Jvm.MethodName) ({ cls := "TemperNurses", name := "countLooseWays", desc := "(II)I" } : Jvm.MethodName)) ∈ jv_T := jv_in 19 (by decide +kernel) (by decide +kernel)
theorem mw_20 : (Jvm.Cond.selects "TemperNurses$Listener" ({ cls := "TemperNurses$Listener", name := "isAsHeard", desc := "(I)Z" } : Jvm.MethodName) ({ cls := "TemperNurses$Listener", name := "isAsHeard", desc := "(I)Z" } : Jvm.MethodName)) ∈ jv_T := jv_in 20 (by decide +kernel) (by decide +kernel)
theorem mw_21 : (Jvm.Cond.selects "TemperNurses$Listener" ({ cls := "TemperNurses$Listener", name := "countBanging", desc := "(II)I" } : Jvm.MethodName) ({ cls := "TemperNurses$Listener", name := "countBanging", desc := "(II)I" } : Jvm.MethodName)) ∈ jv_T := jv_in 21 (by decide +kernel) (by decide +kernel)
theorem mw_22 : (Jvm.Cond.selects "TemperNurses" ({ cls := "TemperNurses", name := "imageOf", desc := "(I)LTemperNurses$Course;" } : Jvm.MethodName) ({ cls := "TemperNurses", name := "imageOf", desc := "(I)LTemperNurses$Course;" } : Jvm.MethodName)) ∈ jv_T := jv_in 22 (by decide +kernel) (by decide +kernel)
theorem mw_23 : (Jvm.Cond.selects "TemperNursesModel" ({ cls := "TemperNursesModel", name := "lookAt", desc := "(I)V" } : Jvm.MethodName) ({ cls := "TemperNursesModel", name := "lookAt", desc := "(I)V" } : Jvm.MethodName)) ∈ jv_T := jv_in 23 (by decide +kernel) (by decide +kernel)
theorem mw_24 : (Jvm.Cond.selects "TemperNursesModel" ({ cls := "TemperNursesModel", name := "isBetween", desc := "(III)Z" } : Jvm.MethodName) ({ cls := "TemperNursesModel", name := "isBetween", desc := "(III)Z" } : Jvm.MethodName)) ∈ jv_T := jv_in 24 (by decide +kernel) (by decide +kernel)
theorem mw_25 : (Jvm.Cond.selects "TemperNursesModel" ({ cls := "TemperNursesModel", name := "takesItem", desc := "()Z" } : Jvm.MethodName) ({ cls := "TemperNursesModel", name := "takesItem", desc := "()Z" } : Jvm.MethodName)) ∈ jv_T := jv_in 25 (by decide +kernel) (by decide +kernel)
theorem mw_26 : (Jvm.Cond.selects "TemperNursesModel" ({ cls := "TemperNursesModel", name := "isLetter", desc := "(I)Z" } : Jvm.MethodName) ({ cls := "TemperNursesModel", name := "isLetter", desc := "(I)Z" } : Jvm.MethodName)) ∈ jv_T := jv_in 26 (by decide +kernel) (by decide +kernel)
theorem mw_27 : (Jvm.Cond.selects "TemperNursesModel" ({ cls := "TemperNursesModel", name := "takesTemper", desc := "()Z" } : Jvm.MethodName) ({ cls := "TemperNursesModel", name := "takesTemper", desc := "()Z" } : Jvm.MethodName)) ∈ jv_T := jv_in 27 (by decide +kernel) (by decide +kernel)
theorem mw_28 : (Jvm.Cond.selects "TemperNursesModel" ({ cls := "TemperNursesModel", name := "takes", desc := "(III)Z" } : Jvm.MethodName) ({ cls := "TemperNursesModel", name := "takes", desc := "(III)Z" } : Jvm.MethodName)) ∈ jv_T := jv_in 28 (by decide +kernel) (by decide +kernel)
theorem mw_29 : (Jvm.Cond.selects "TemperNursesModel" ({ cls := "TemperNursesModel", name := "takesNurse", desc := "()Z" } : Jvm.MethodName) ({ cls := "TemperNursesModel", name := "takesNurse", desc := "()Z" } : Jvm.MethodName)) ∈ jv_T := jv_in 29 (by decide +kernel) (by decide +kernel)
theorem mw_30 : (Jvm.Cond.selects "TemperNursesModel" ({ cls := "TemperNursesModel", name := "takesClash", desc := "()Z" } : Jvm.MethodName) ({ cls := "TemperNursesModel", name := "takesClash", desc := "()Z" } : Jvm.MethodName)) ∈ jv_T := jv_in 30 (by decide +kernel) (by decide +kernel)
theorem mw_31 : (Jvm.Cond.selects "TemperNursesModel" ({ cls := "TemperNursesModel", name := "takeAll", desc := "()V" } : Jvm.MethodName) ({ cls := "TemperNursesModel", name := "takeAll", desc := "()V" } : Jvm.MethodName)) ∈ jv_T := jv_in 31 (by decide +kernel) (by decide +kernel)
theorem mw_32 : (Jvm.Cond.selects "TemperNursesModel" ({ cls := "TemperNursesModel", name := "isTemper", desc := "(I)Z" } : Jvm.MethodName) ({ cls := "TemperNursesModel", name := "isTemper", desc := "(I)Z" } : Jvm.MethodName)) ∈ jv_T := jv_in 32 (by decide +kernel) (by decide +kernel)
theorem mw_33 : (Jvm.Cond.selects "TemperNursesModel" ({ cls := "TemperNursesModel", name := "heat", desc := "(I)I" } : Jvm.MethodName) ({ cls := "TemperNursesModel", name := "heat", desc := "(I)I" } : Jvm.MethodName)) ∈ jv_T := jv_in 33 (by decide +kernel) (by decide +kernel)
theorem mw_34 : (Jvm.Cond.selects "TemperNursesModel" ({ cls := "TemperNursesModel", name := "ring", desc := "(I)I" } : Jvm.MethodName) ({ cls := "TemperNursesModel", name := "ring", desc := "(I)I" } : Jvm.MethodName)) ∈ jv_T := jv_in 34 (by decide +kernel) (by decide +kernel)
theorem mw_35 : (Jvm.Cond.selects "TemperNursesModel" ({ cls := "TemperNursesModel", name := "isNurse", desc := "(I)Z" } : Jvm.MethodName) ({ cls := "TemperNursesModel", name := "isNurse", desc := "(I)Z" } : Jvm.MethodName)) ∈ jv_T := jv_in 35 (by decide +kernel) (by decide +kernel)
theorem mw_36 : (Jvm.Cond.selects "TemperNursesModel" ({ cls := "TemperNursesModel", name := "maySend", desc := "(II)Z" } : Jvm.MethodName) ({ cls := "TemperNursesModel", name := "maySend", desc := "(II)Z" } : Jvm.MethodName)) ∈ jv_T := jv_in 36 (by decide +kernel) (by decide +kernel)
theorem mw_37 : (Jvm.Cond.selects "TemperNursesModel" ({ cls := "TemperNursesModel", name := "whom", desc := "(I)I" } : Jvm.MethodName) ({ cls := "TemperNursesModel", name := "whom", desc := "(I)I" } : Jvm.MethodName)) ∈ jv_T := jv_in 37 (by decide +kernel) (by decide +kernel)
theorem mw_38 : (Jvm.Cond.selects "TemperNursesModel" ({ cls := "TemperNursesModel", name := "save", desc := "()V" } : Jvm.MethodName) ({ cls := "TemperNursesModel", name := "save", desc := "()V" } : Jvm.MethodName)) ∈ jv_T := jv_in 38 (by decide +kernel) (by decide +kernel)
theorem mw_39 : (Jvm.Cond.selects "TemperNursesModel" ({ cls := "TemperNursesModel", name := "right", desc := "()I" } : Jvm.MethodName) ({ cls := "TemperNursesModel", name := "right", desc := "()I" } : Jvm.MethodName)) ∈ jv_T := jv_in 39 (by decide +kernel) (by decide +kernel)
theorem mw_40 : (Jvm.Cond.selects "TemperNursesModel" ({ cls := "TemperNursesModel", name := "aged", desc := "(III)I" } : Jvm.MethodName) ({ cls := "TemperNursesModel", name := "aged", desc := "(III)I" } : Jvm.MethodName)) ∈ jv_T := jv_in 40 (by decide +kernel) (by decide +kernel)
theorem mw_41 : (Jvm.Cond.selects "TemperNursesModel" ({ cls := "TemperNursesModel", name := "broken", desc := "()I" } : Jvm.MethodName) ({ cls := "TemperNursesModel", name := "broken", desc := "()I" } : Jvm.MethodName)) ∈ jv_T := jv_in 41 (by decide +kernel) (by decide +kernel)
theorem mw_42 : (Jvm.Cond.selects "TemperNursesModel" ({ cls := "TemperNursesModel", name := "soonest", desc := "()I" } : Jvm.MethodName) ({ cls := "TemperNursesModel", name := "soonest", desc := "()I" } : Jvm.MethodName)) ∈ jv_T := jv_in 42 (by decide +kernel) (by decide +kernel)
theorem mw_43 : (Jvm.Cond.selects "TemperNursesModel" ({ cls := "TemperNursesModel", name := "whenBroken", desc := "(II)I" } : Jvm.MethodName) ({ cls := "TemperNursesModel", name := "whenBroken", desc := "(II)I" } : Jvm.MethodName)) ∈ jv_T := jv_in 43 (by decide +kernel) (by decide +kernel)
theorem mw_44 : (Jvm.Cond.selects "TemperNursesModel" ({ cls := "TemperNursesModel", name := "ways", desc := "()I" } : Jvm.MethodName) ({ cls := "TemperNursesModel", name := "ways", desc := "()I" } : Jvm.MethodName)) ∈ jv_T := jv_in 44 (by decide +kernel) (by decide +kernel)
theorem mw_45 : (Jvm.Cond.selects "TemperNursesModel" ({ cls := "TemperNursesModel", name := "mayBe", desc := "(I)Z" } : Jvm.MethodName) ({ cls := "TemperNursesModel", name := "mayBe", desc := "(I)Z" } : Jvm.MethodName)) ∈ jv_T := jv_in 45 (by decide +kernel) (by decide +kernel)
theorem mw_46 : (Jvm.Cond.selects "TemperNursesModel" ({ cls := "TemperNursesModel", name := "hotIn", desc := "(II)I" } : Jvm.MethodName) ({ cls := "TemperNursesModel", name := "hotIn", desc := "(II)I" } : Jvm.MethodName)) ∈ jv_T := jv_in 46 (by decide +kernel) (by decide +kernel)
theorem mw_47 : (Jvm.Cond.selects "TemperNursesModel" ({ cls := "TemperNursesModel", name := "worthBehind", desc := "(II)I" } : Jvm.MethodName) ({ cls := "TemperNursesModel", name := "worthBehind", desc := "(II)I" } : Jvm.MethodName)) ∈ jv_T := jv_in 47 (by decide +kernel) (by decide +kernel)
theorem mw_48 : (Jvm.Cond.selects "TemperNursesModel" ({ cls := "TemperNursesModel", name := "bedsBy", desc := "(II)I" } : Jvm.MethodName) ({ cls := "TemperNursesModel", name := "bedsBy", desc := "(II)I" } : Jvm.MethodName)) ∈ jv_T := jv_in 48 (by decide +kernel) (by decide +kernel)
theorem mw_49 : (Jvm.Cond.selects "TemperNursesModel" ({ cls := "TemperNursesModel", name := "isBed", desc := "(III)Z" } : Jvm.MethodName) ({ cls := "TemperNursesModel", name := "isBed", desc := "(III)Z" } : Jvm.MethodName)) ∈ jv_T := jv_in 49 (by decide +kernel) (by decide +kernel)
theorem mw_50 : (Jvm.Cond.selects "TemperNursesModel" ({ cls := "TemperNursesModel", name := "markAs", desc := "(II)I" } : Jvm.MethodName) ({ cls := "TemperNursesModel", name := "markAs", desc := "(II)I" } : Jvm.MethodName)) ∈ jv_T := jv_in 50 (by decide +kernel) (by decide +kernel)
theorem mw_51 : (Jvm.Cond.selects "TemperNursesModel" ({ cls := "TemperNursesModel", name := "markAs0", desc := "(I)I" } : Jvm.MethodName) ({ cls := "TemperNursesModel", name := "markAs0", desc := "(I)I" } : Jvm.MethodName)) ∈ jv_T := jv_in 51 (by decide +kernel) (by decide +kernel)
theorem mw_52 : (Jvm.Cond.initialized "TemperNursesLaw") ∈ jv_T := jv_in 52 (by decide +kernel) (by decide +kernel)
theorem mw_53 : (Jvm.Cond.initialized "TemperNurses") ∈ jv_T := jv_in 53 (by decide +kernel) (by decide +kernel)
theorem mw_54 : (Jvm.Cond.initialized "TemperNurses$Hill") ∈ jv_T := jv_in 54 (by decide +kernel) (by decide +kernel)
theorem mw_55 : (Jvm.Cond.initialized "TemperNurses$TextReader") ∈ jv_T := jv_in 55 (by decide +kernel) (by decide +kernel)
theorem mw_56 : (Jvm.Cond.initialized "TemperNurses$Course") ∈ jv_T := jv_in 56 (by decide +kernel) (by decide +kernel)
theorem mw_57 : (Jvm.Cond.initialized "TemperNurses$House") ∈ jv_T := jv_in 57 (by decide +kernel) (by decide +kernel)
theorem mw_58 : (Jvm.Cond.initialized "TemperNurses$Planner") ∈ jv_T := jv_in 58 (by decide +kernel) (by decide +kernel)
theorem mw_59 : (Jvm.Cond.initialized "TemperNurses$BedMaker") ∈ jv_T := jv_in 59 (by decide +kernel) (by decide +kernel)
theorem mw_60 : (Jvm.Cond.initialized "TemperNurses$Listener") ∈ jv_T := jv_in 60 (by decide +kernel) (by decide +kernel)
theorem mw_61 : (Jvm.Cond.initialized "TemperNurses$Kinds") ∈ jv_T := jv_in 61 (by decide +kernel) (by decide +kernel)
theorem mw_62 : (Jvm.Cond.initialized "TemperNursesModel") ∈ jv_T := jv_in 62 (by decide +kernel) (by decide +kernel)
theorem mw_63 : (Jvm.Cond.initialized "java/util/Arrays") ∈ jv_T := jv_in 63 (by decide +kernel) (by decide +kernel)
theorem mw_64 : (Jvm.Cond.initialized "java/lang/System") ∈ jv_T := jv_in 64 (by decide +kernel) (by decide +kernel)
theorem mw_65 : (Jvm.Cond.initialized "java/lang/Integer") ∈ jv_T := jv_in 65 (by decide +kernel) (by decide +kernel)
theorem mw_66 : (Jvm.Cond.initialized "java/lang/Math") ∈ jv_T := jv_in 66 (by decide +kernel) (by decide +kernel)
theorem mw_68 : (Jvm.Cond.instantiable "TemperNurses" (12 : Nat)) ∈ jv_T := jv_in 68 (by decide +kernel) (by decide +kernel)
theorem mw_70 : (Jvm.Cond.instanceMethod ({ cls := "TemperNurses", name := "<init>", desc := "()V" } : Jvm.MethodName)) ∈ jv_T := jv_in 70 (by decide +kernel) (by decide +kernel)
theorem mw_71 : (Jvm.Cond.code ({ cls := "TemperNurses", name := "<init>", desc := "()V" } : Jvm.MethodName) prog_1_method_1_code (1 : Nat) (Option.none : Option Jvm.ClassFile.FieldType)) ∈ jv_T := jv_in 71 (by decide +kernel) (by decide +kernel)
theorem mw_72 : (Jvm.Cond.methodLink "TemperNurses" (1 : Nat) ({ cls := "java/lang/Object", name := "<init>", desc := "()V" } : Jvm.MethodName)) ∈ jv_T := jv_in 72 (by decide +kernel) (by decide +kernel)
theorem mw_73 : (Jvm.Cond.instanceMethod ({ cls := "java/lang/Object", name := "<init>", desc := "()V" } : Jvm.MethodName)) ∈ jv_T := jv_in 73 (by decide +kernel) (by decide +kernel)
theorem mw_74 : (Jvm.Cond.code ({ cls := "java/lang/Object", name := "<init>", desc := "()V" } : Jvm.MethodName) object_method_1_code (1 : Nat) (Option.none : Option Jvm.ClassFile.FieldType)) ∈ jv_T := jv_in 74 (by decide +kernel) (by decide +kernel)
theorem mw_75 : (Jvm.Cond.classLink "TemperNurses" (7 : Nat) "TemperNurses$Hill") ∈ jv_T := jv_in 75 (by decide +kernel) (by decide +kernel)
theorem mw_76 : (Jvm.Cond.instantiable "TemperNurses$Hill" (9 : Nat)) ∈ jv_T := jv_in 76 (by decide +kernel) (by decide +kernel)
theorem mw_78 : (Jvm.Cond.instanceMethod ({ cls := "TemperNurses$Hill", name := "<init>", desc := "()V" } : Jvm.MethodName)) ∈ jv_T := jv_in 78 (by decide +kernel) (by decide +kernel)
theorem mw_79 : (Jvm.Cond.code ({ cls := "TemperNurses$Hill", name := "<init>", desc := "()V" } : Jvm.MethodName) prog_4_method_1_code (1 : Nat) (Option.none : Option Jvm.ClassFile.FieldType)) ∈ jv_T := jv_in 79 (by decide +kernel) (by decide +kernel)
theorem mw_80 : (Jvm.Cond.methodLink "TemperNurses$Hill" (3 : Nat) ({ cls := "java/lang/Object", name := "<init>", desc := "()V" } : Jvm.MethodName)) ∈ jv_T := jv_in 80 (by decide +kernel) (by decide +kernel)
theorem mw_81 : (Jvm.Cond.fieldLink "TemperNurses$Hill" (33 : Nat) "TemperNurses$Hill" "tempers" "I") ∈ jv_T := jv_in 81 (by decide +kernel) (by decide +kernel)
theorem mw_82 : (Jvm.Cond.fieldLink "TemperNurses$House" (19 : Nat) "TemperNurses$Hill" "tempers" "I") ∈ jv_T := jv_in 82 (by decide +kernel) (by decide +kernel)
theorem mw_83 : (Jvm.Cond.fieldLink "TemperNurses$BedMaker" (45 : Nat) "TemperNurses$Hill" "tempers" "I") ∈ jv_T := jv_in 83 (by decide +kernel) (by decide +kernel)
theorem mw_84 : (Jvm.Cond.fieldLink "TemperNurses$Planner" (48 : Nat) "TemperNurses$Hill" "tempers" "I") ∈ jv_T := jv_in 84 (by decide +kernel) (by decide +kernel)
theorem mw_85 : (Jvm.Cond.fieldLink "TemperNurses$Listener" (32 : Nat) "TemperNurses$Hill" "tempers" "I") ∈ jv_T := jv_in 85 (by decide +kernel) (by decide +kernel)
theorem mw_86 : (Jvm.Cond.fieldLink "TemperNurses$TextReader" (70 : Nat) "TemperNurses$Hill" "tempers" "I") ∈ jv_T := jv_in 86 (by decide +kernel) (by decide +kernel)
theorem mw_87 : (Jvm.Cond.fieldLink "TemperNurses" (177 : Nat) "TemperNurses$Hill" "tempers" "I") ∈ jv_T := jv_in 87 (by decide +kernel) (by decide +kernel)
theorem mw_88 : (Jvm.Cond.fieldLink "TemperNurses$Hill" (37 : Nat) "TemperNurses$Hill" "nurses" "I") ∈ jv_T := jv_in 88 (by decide +kernel) (by decide +kernel)
theorem mw_89 : (Jvm.Cond.fieldLink "TemperNurses$Planner" (53 : Nat) "TemperNurses$Hill" "nurses" "I") ∈ jv_T := jv_in 89 (by decide +kernel) (by decide +kernel)
theorem mw_90 : (Jvm.Cond.fieldLink "TemperNurses$TextReader" (73 : Nat) "TemperNurses$Hill" "nurses" "I") ∈ jv_T := jv_in 90 (by decide +kernel) (by decide +kernel)
theorem mw_91 : (Jvm.Cond.fieldLink "TemperNurses" (276 : Nat) "TemperNurses$Hill" "nurses" "I") ∈ jv_T := jv_in 91 (by decide +kernel) (by decide +kernel)
theorem mw_92 : (Jvm.Cond.fieldLink "TemperNurses$Hill" (9 : Nat) "TemperNurses$Hill" "heats" "[I") ∈ jv_T := jv_in 92 (by decide +kernel) (by decide +kernel)
theorem mw_93 : (Jvm.Cond.fieldLink "TemperNurses$Course" (23 : Nat) "TemperNurses$Hill" "heats" "[I") ∈ jv_T := jv_in 93 (by decide +kernel) (by decide +kernel)
theorem mw_94 : (Jvm.Cond.fieldLink "TemperNurses$Hill" (15 : Nat) "TemperNurses$Hill" "grows" "[I") ∈ jv_T := jv_in 94 (by decide +kernel) (by decide +kernel)
theorem mw_95 : (Jvm.Cond.fieldLink "TemperNurses$Kinds" (44 : Nat) "TemperNurses$Hill" "grows" "[I") ∈ jv_T := jv_in 95 (by decide +kernel) (by decide +kernel)
theorem mw_96 : (Jvm.Cond.fieldLink "TemperNurses" (119 : Nat) "TemperNurses$Hill" "grows" "[I") ∈ jv_T := jv_in 96 (by decide +kernel) (by decide +kernel)
theorem mw_97 : (Jvm.Cond.fieldLink "TemperNurses$House" (73 : Nat) "TemperNurses$Hill" "grows" "[I") ∈ jv_T := jv_in 97 (by decide +kernel) (by decide +kernel)
theorem mw_98 : (Jvm.Cond.fieldLink "TemperNurses$Hill" (18 : Nat) "TemperNurses$Hill" "dues" "[I") ∈ jv_T := jv_in 98 (by decide +kernel) (by decide +kernel)
theorem mw_99 : (Jvm.Cond.fieldLink "TemperNurses" (122 : Nat) "TemperNurses$Hill" "dues" "[I") ∈ jv_T := jv_in 99 (by decide +kernel) (by decide +kernel)
theorem mw_100 : (Jvm.Cond.fieldLink "TemperNurses$House" (93 : Nat) "TemperNurses$Hill" "dues" "[I") ∈ jv_T := jv_in 100 (by decide +kernel) (by decide +kernel)
theorem mw_101 : (Jvm.Cond.fieldLink "TemperNurses$Hill" (21 : Nat) "TemperNurses$Hill" "clashes" "[I") ∈ jv_T := jv_in 101 (by decide +kernel) (by decide +kernel)
theorem mw_102 : (Jvm.Cond.fieldLink "TemperNurses$BedMaker" (60 : Nat) "TemperNurses$Hill" "clashes" "[I") ∈ jv_T := jv_in 102 (by decide +kernel) (by decide +kernel)
theorem mw_103 : (Jvm.Cond.fieldLink "TemperNurses" (131 : Nat) "TemperNurses$Hill" "clashes" "[I") ∈ jv_T := jv_in 103 (by decide +kernel) (by decide +kernel)
theorem mw_104 : (Jvm.Cond.fieldLink "TemperNurses$House" (67 : Nat) "TemperNurses$Hill" "clashes" "[I") ∈ jv_T := jv_in 104 (by decide +kernel) (by decide +kernel)
theorem mw_105 : (Jvm.Cond.fieldLink "TemperNurses$Hill" (24 : Nat) "TemperNurses$Hill" "tames" "[I") ∈ jv_T := jv_in 105 (by decide +kernel) (by decide +kernel)
theorem mw_106 : (Jvm.Cond.fieldLink "TemperNurses" (140 : Nat) "TemperNurses$Hill" "tames" "[I") ∈ jv_T := jv_in 106 (by decide +kernel) (by decide +kernel)
theorem mw_107 : (Jvm.Cond.fieldLink "TemperNurses$House" (70 : Nat) "TemperNurses$Hill" "tames" "[I") ∈ jv_T := jv_in 107 (by decide +kernel) (by decide +kernel)
theorem mw_108 : (Jvm.Cond.fieldLink "TemperNurses$Hill" (27 : Nat) "TemperNurses$Hill" "rooms" "[I") ∈ jv_T := jv_in 108 (by decide +kernel) (by decide +kernel)
theorem mw_109 : (Jvm.Cond.fieldLink "TemperNurses" (143 : Nat) "TemperNurses$Hill" "rooms" "[I") ∈ jv_T := jv_in 109 (by decide +kernel) (by decide +kernel)
theorem mw_110 : (Jvm.Cond.fieldLink "TemperNurses$House" (64 : Nat) "TemperNurses$Hill" "rooms" "[I") ∈ jv_T := jv_in 110 (by decide +kernel) (by decide +kernel)
theorem mw_111 : (Jvm.Cond.fieldLink "TemperNurses$Hill" (30 : Nat) "TemperNurses$Hill" "holds" "[I") ∈ jv_T := jv_in 111 (by decide +kernel) (by decide +kernel)
theorem mw_112 : (Jvm.Cond.fieldLink "TemperNurses" (146 : Nat) "TemperNurses$Hill" "holds" "[I") ∈ jv_T := jv_in 112 (by decide +kernel) (by decide +kernel)
theorem mw_113 : (Jvm.Cond.fieldLink "TemperNurses$House" (55 : Nat) "TemperNurses$Hill" "holds" "[I") ∈ jv_T := jv_in 113 (by decide +kernel) (by decide +kernel)
theorem mw_114 : (Jvm.Cond.lays "TemperNurses$Hill" "TemperNurses$Hill" "tempers" "I") ∈ jv_T := jv_in 114 (by decide +kernel) (by decide +kernel)
theorem mw_116 : (Jvm.Cond.lays "TemperNurses$Hill" "TemperNurses$Hill" "nurses" "I") ∈ jv_T := jv_in 116 (by decide +kernel) (by decide +kernel)
theorem mw_118 : (Jvm.Cond.laysFinal "TemperNurses$Hill" "TemperNurses$Hill" "heats" "[I") ∈ jv_T := jv_in 118 (by decide +kernel) (by decide +kernel)
theorem mw_120 : (Jvm.Cond.laysFinal "TemperNurses$Hill" "TemperNurses$Hill" "grows" "[I") ∈ jv_T := jv_in 120 (by decide +kernel) (by decide +kernel)
theorem mw_122 : (Jvm.Cond.laysFinal "TemperNurses$Hill" "TemperNurses$Hill" "dues" "[I") ∈ jv_T := jv_in 122 (by decide +kernel) (by decide +kernel)
theorem mw_124 : (Jvm.Cond.laysFinal "TemperNurses$Hill" "TemperNurses$Hill" "clashes" "[I") ∈ jv_T := jv_in 124 (by decide +kernel) (by decide +kernel)
theorem mw_126 : (Jvm.Cond.laysFinal "TemperNurses$Hill" "TemperNurses$Hill" "tames" "[I") ∈ jv_T := jv_in 126 (by decide +kernel) (by decide +kernel)
theorem mw_128 : (Jvm.Cond.laysFinal "TemperNurses$Hill" "TemperNurses$Hill" "rooms" "[I") ∈ jv_T := jv_in 128 (by decide +kernel) (by decide +kernel)
theorem mw_130 : (Jvm.Cond.laysFinal "TemperNurses$Hill" "TemperNurses$Hill" "holds" "[I") ∈ jv_T := jv_in 130 (by decide +kernel) (by decide +kernel)
theorem mw_133 : (Jvm.Cond.arrayClass Jvm.ClassFile.FieldType.int) ∈ jv_T := jv_in 133 (by decide +kernel) (by decide +kernel)
theorem mw_134 : (Jvm.Cond.classLink "TemperNurses" (16 : Nat) "TemperNurses$TextReader") ∈ jv_T := jv_in 134 (by decide +kernel) (by decide +kernel)
theorem mw_135 : (Jvm.Cond.instantiable "TemperNurses$TextReader" (10 : Nat)) ∈ jv_T := jv_in 135 (by decide +kernel) (by decide +kernel)
theorem mw_137 : (Jvm.Cond.instanceMethod ({ cls := "TemperNurses$TextReader", name := "<init>", desc := "()V" } : Jvm.MethodName)) ∈ jv_T := jv_in 137 (by decide +kernel) (by decide +kernel)
theorem mw_138 : (Jvm.Cond.code ({ cls := "TemperNurses$TextReader", name := "<init>", desc := "()V" } : Jvm.MethodName) prog_9_method_1_code (1 : Nat) (Option.none : Option Jvm.ClassFile.FieldType)) ∈ jv_T := jv_in 138 (by decide +kernel) (by decide +kernel)
theorem mw_139 : (Jvm.Cond.methodLink "TemperNurses$TextReader" (3 : Nat) ({ cls := "java/lang/Object", name := "<init>", desc := "()V" } : Jvm.MethodName)) ∈ jv_T := jv_in 139 (by decide +kernel) (by decide +kernel)
theorem mw_140 : (Jvm.Cond.classLink "TemperNurses$TextReader" (9 : Nat) "TemperNurses$Hill") ∈ jv_T := jv_in 140 (by decide +kernel) (by decide +kernel)
theorem mw_142 : (Jvm.Cond.fieldLink "TemperNurses$TextReader" (12 : Nat) "TemperNurses$TextReader" "draft" "LTemperNurses$Hill;") ∈ jv_T := jv_in 142 (by decide +kernel) (by decide +kernel)
theorem mw_143 : (Jvm.Cond.fieldLink "TemperNurses" (102 : Nat) "TemperNurses$TextReader" "draft" "LTemperNurses$Hill;") ∈ jv_T := jv_in 143 (by decide +kernel) (by decide +kernel)
theorem mw_144 : (Jvm.Cond.fieldLink "TemperNurses$TextReader" (25 : Nat) "TemperNurses$TextReader" "length" "I") ∈ jv_T := jv_in 144 (by decide +kernel) (by decide +kernel)
theorem mw_145 : (Jvm.Cond.fieldLink "TemperNurses" (91 : Nat) "TemperNurses$TextReader" "length" "I") ∈ jv_T := jv_in 145 (by decide +kernel) (by decide +kernel)
theorem mw_146 : (Jvm.Cond.fieldLink "TemperNurses$TextReader" (18 : Nat) "TemperNurses$TextReader" "bytes" "[I") ∈ jv_T := jv_in 146 (by decide +kernel) (by decide +kernel)
theorem mw_147 : (Jvm.Cond.fieldLink "TemperNurses$TextReader" (41 : Nat) "TemperNurses$TextReader" "kind" "I") ∈ jv_T := jv_in 147 (by decide +kernel) (by decide +kernel)
theorem mw_148 : (Jvm.Cond.fieldLink "TemperNurses$TextReader" (48 : Nat) "TemperNurses$TextReader" "start" "I") ∈ jv_T := jv_in 148 (by decide +kernel) (by decide +kernel)
theorem mw_149 : (Jvm.Cond.fieldLink "TemperNurses$TextReader" (32 : Nat) "TemperNurses$TextReader" "next" "I") ∈ jv_T := jv_in 149 (by decide +kernel) (by decide +kernel)
theorem mw_150 : (Jvm.Cond.fieldLink "TemperNurses$TextReader" (67 : Nat) "TemperNurses$TextReader" "value" "I") ∈ jv_T := jv_in 150 (by decide +kernel) (by decide +kernel)
theorem mw_151 : (Jvm.Cond.fieldLink "TemperNurses$TextReader" (35 : Nat) "TemperNurses$TextReader" "item" "I") ∈ jv_T := jv_in 151 (by decide +kernel) (by decide +kernel)
theorem mw_152 : (Jvm.Cond.fieldLink "TemperNurses$TextReader" (57 : Nat) "TemperNurses$TextReader" "toldSoFar" "I") ∈ jv_T := jv_in 152 (by decide +kernel) (by decide +kernel)
theorem mw_153 : (Jvm.Cond.fieldLink "TemperNurses$TextReader" (22 : Nat) "TemperNurses$TextReader" "numbers" "[I") ∈ jv_T := jv_in 153 (by decide +kernel) (by decide +kernel)
theorem mw_154 : (Jvm.Cond.laysFinal "TemperNurses$TextReader" "TemperNurses$TextReader" "draft" "LTemperNurses$Hill;") ∈ jv_T := jv_in 154 (by decide +kernel) (by decide +kernel)
theorem mw_156 : (Jvm.Cond.lays "TemperNurses$TextReader" "TemperNurses$TextReader" "length" "I") ∈ jv_T := jv_in 156 (by decide +kernel) (by decide +kernel)
theorem mw_158 : (Jvm.Cond.laysFinal "TemperNurses$TextReader" "TemperNurses$TextReader" "bytes" "[I") ∈ jv_T := jv_in 158 (by decide +kernel) (by decide +kernel)
theorem mw_160 : (Jvm.Cond.lays "TemperNurses$TextReader" "TemperNurses$TextReader" "kind" "I") ∈ jv_T := jv_in 160 (by decide +kernel) (by decide +kernel)
theorem mw_162 : (Jvm.Cond.lays "TemperNurses$TextReader" "TemperNurses$TextReader" "start" "I") ∈ jv_T := jv_in 162 (by decide +kernel) (by decide +kernel)
theorem mw_164 : (Jvm.Cond.lays "TemperNurses$TextReader" "TemperNurses$TextReader" "next" "I") ∈ jv_T := jv_in 164 (by decide +kernel) (by decide +kernel)
theorem mw_166 : (Jvm.Cond.lays "TemperNurses$TextReader" "TemperNurses$TextReader" "value" "I") ∈ jv_T := jv_in 166 (by decide +kernel) (by decide +kernel)
theorem mw_168 : (Jvm.Cond.lays "TemperNurses$TextReader" "TemperNurses$TextReader" "item" "I") ∈ jv_T := jv_in 168 (by decide +kernel) (by decide +kernel)
theorem mw_170 : (Jvm.Cond.lays "TemperNurses$TextReader" "TemperNurses$TextReader" "toldSoFar" "I") ∈ jv_T := jv_in 170 (by decide +kernel) (by decide +kernel)
theorem mw_172 : (Jvm.Cond.laysFinal "TemperNurses$TextReader" "TemperNurses$TextReader" "numbers" "[I") ∈ jv_T := jv_in 172 (by decide +kernel) (by decide +kernel)
theorem mw_175 : (Jvm.Cond.classLink "TemperNurses" (23 : Nat) "TemperNurses$Course") ∈ jv_T := jv_in 175 (by decide +kernel) (by decide +kernel)
theorem mw_176 : (Jvm.Cond.instantiable "TemperNurses$Course" (2 : Nat)) ∈ jv_T := jv_in 176 (by decide +kernel) (by decide +kernel)
theorem mw_178 : (Jvm.Cond.instanceMethod ({ cls := "TemperNurses$Course", name := "<init>", desc := "()V" } : Jvm.MethodName)) ∈ jv_T := jv_in 178 (by decide +kernel) (by decide +kernel)
theorem mw_179 : (Jvm.Cond.code ({ cls := "TemperNurses$Course", name := "<init>", desc := "()V" } : Jvm.MethodName) prog_3_method_1_code (1 : Nat) (Option.none : Option Jvm.ClassFile.FieldType)) ∈ jv_T := jv_in 179 (by decide +kernel) (by decide +kernel)
theorem mw_180 : (Jvm.Cond.methodLink "TemperNurses$Course" (5 : Nat) ({ cls := "java/lang/Object", name := "<init>", desc := "()V" } : Jvm.MethodName)) ∈ jv_T := jv_in 180 (by decide +kernel) (by decide +kernel)
theorem mw_181 : (Jvm.Cond.fieldLink "TemperNurses$Course" (11 : Nat) "TemperNurses$Course" "rows" "[I") ∈ jv_T := jv_in 181 (by decide +kernel) (by decide +kernel)
theorem mw_182 : (Jvm.Cond.fieldLink "TemperNurses$Course" (15 : Nat) "TemperNurses$Course" "past" "I") ∈ jv_T := jv_in 182 (by decide +kernel) (by decide +kernel)
theorem mw_183 : (Jvm.Cond.fieldLink "TemperNurses" (201 : Nat) "TemperNurses$Course" "past" "I") ∈ jv_T := jv_in 183 (by decide +kernel) (by decide +kernel)
theorem mw_184 : (Jvm.Cond.laysFinal "TemperNurses$Course" "TemperNurses$Course" "rows" "[I") ∈ jv_T := jv_in 184 (by decide +kernel) (by decide +kernel)
theorem mw_186 : (Jvm.Cond.lays "TemperNurses$Course" "TemperNurses$Course" "past" "I") ∈ jv_T := jv_in 186 (by decide +kernel) (by decide +kernel)
theorem mw_189 : (Jvm.Cond.classLink "TemperNurses" (30 : Nat) "TemperNurses$House") ∈ jv_T := jv_in 189 (by decide +kernel) (by decide +kernel)
theorem mw_190 : (Jvm.Cond.instantiable "TemperNurses$House" (2 : Nat)) ∈ jv_T := jv_in 190 (by decide +kernel) (by decide +kernel)
theorem mw_191 : (Jvm.Cond.methodLink "TemperNurses" (32 : Nat) ({ cls := "TemperNurses$House", name := "<init>", desc := "(LTemperNurses$Hill;LTemperNurses$Course;)V" } : Jvm.MethodName)) ∈ jv_T := jv_in 191 (by decide +kernel) (by decide +kernel)
theorem mw_192 : (Jvm.Cond.instanceMethod ({ cls := "TemperNurses$House", name := "<init>", desc := "(LTemperNurses$Hill;LTemperNurses$Course;)V" } : Jvm.MethodName)) ∈ jv_T := jv_in 192 (by decide +kernel) (by decide +kernel)
theorem mw_193 : (Jvm.Cond.code ({ cls := "TemperNurses$House", name := "<init>", desc := "(LTemperNurses$Hill;LTemperNurses$Course;)V" } : Jvm.MethodName) prog_5_method_1_code (3 : Nat) (Option.none : Option Jvm.ClassFile.FieldType)) ∈ jv_T := jv_in 193 (by decide +kernel) (by decide +kernel)
theorem mw_194 : (Jvm.Cond.methodLink "TemperNurses$House" (3 : Nat) ({ cls := "java/lang/Object", name := "<init>", desc := "()V" } : Jvm.MethodName)) ∈ jv_T := jv_in 194 (by decide +kernel) (by decide +kernel)
theorem mw_195 : (Jvm.Cond.fieldLink "TemperNurses$House" (9 : Nat) "TemperNurses$House" "told" "LTemperNurses$Hill;") ∈ jv_T := jv_in 195 (by decide +kernel) (by decide +kernel)
theorem mw_196 : (Jvm.Cond.fieldLink "TemperNurses$BedMaker" (39 : Nat) "TemperNurses$House" "told" "LTemperNurses$Hill;") ∈ jv_T := jv_in 196 (by decide +kernel) (by decide +kernel)
theorem mw_197 : (Jvm.Cond.fieldLink "TemperNurses$Planner" (42 : Nat) "TemperNurses$House" "told" "LTemperNurses$Hill;") ∈ jv_T := jv_in 197 (by decide +kernel) (by decide +kernel)
theorem mw_198 : (Jvm.Cond.fieldLink "TemperNurses$Kinds" (34 : Nat) "TemperNurses$House" "told" "LTemperNurses$Hill;") ∈ jv_T := jv_in 198 (by decide +kernel) (by decide +kernel)
theorem mw_199 : (Jvm.Cond.fieldLink "TemperNurses$Listener" (26 : Nat) "TemperNurses$House" "told" "LTemperNurses$Hill;") ∈ jv_T := jv_in 199 (by decide +kernel) (by decide +kernel)
theorem mw_200 : (Jvm.Cond.fieldLink "TemperNurses$House" (15 : Nat) "TemperNurses$House" "course" "LTemperNurses$Course;") ∈ jv_T := jv_in 200 (by decide +kernel) (by decide +kernel)
theorem mw_201 : (Jvm.Cond.fieldLink "TemperNurses$Kinds" (17 : Nat) "TemperNurses$House" "course" "LTemperNurses$Course;") ∈ jv_T := jv_in 201 (by decide +kernel) (by decide +kernel)
theorem mw_202 : (Jvm.Cond.fieldLink "TemperNurses$Listener" (37 : Nat) "TemperNurses$House" "course" "LTemperNurses$Course;") ∈ jv_T := jv_in 202 (by decide +kernel) (by decide +kernel)
theorem mw_203 : (Jvm.Cond.fieldLink "TemperNurses$BedMaker" (67 : Nat) "TemperNurses$House" "course" "LTemperNurses$Course;") ∈ jv_T := jv_in 203 (by decide +kernel) (by decide +kernel)
theorem mw_204 : (Jvm.Cond.fieldLink "TemperNurses$Planner" (80 : Nat) "TemperNurses$House" "course" "LTemperNurses$Course;") ∈ jv_T := jv_in 204 (by decide +kernel) (by decide +kernel)
theorem mw_205 : (Jvm.Cond.laysFinal "TemperNurses$House" "TemperNurses$House" "told" "LTemperNurses$Hill;") ∈ jv_T := jv_in 205 (by decide +kernel) (by decide +kernel)
theorem mw_207 : (Jvm.Cond.laysFinal "TemperNurses$House" "TemperNurses$House" "course" "LTemperNurses$Course;") ∈ jv_T := jv_in 207 (by decide +kernel) (by decide +kernel)
theorem mw_210 : (Jvm.Cond.classLink "TemperNurses" (39 : Nat) "TemperNurses$Planner") ∈ jv_T := jv_in 210 (by decide +kernel) (by decide +kernel)
theorem mw_211 : (Jvm.Cond.instantiable "TemperNurses$Planner" (7 : Nat)) ∈ jv_T := jv_in 211 (by decide +kernel) (by decide +kernel)
theorem mw_212 : (Jvm.Cond.methodLink "TemperNurses" (41 : Nat) ({ cls := "TemperNurses$Planner", name := "<init>", desc := "(LTemperNurses$House;)V" } : Jvm.MethodName)) ∈ jv_T := jv_in 212 (by decide +kernel) (by decide +kernel)
theorem mw_213 : (Jvm.Cond.instanceMethod ({ cls := "TemperNurses$Planner", name := "<init>", desc := "(LTemperNurses$House;)V" } : Jvm.MethodName)) ∈ jv_T := jv_in 213 (by decide +kernel) (by decide +kernel)
theorem mw_214 : (Jvm.Cond.code ({ cls := "TemperNurses$Planner", name := "<init>", desc := "(LTemperNurses$House;)V" } : Jvm.MethodName) prog_8_method_1_code (2 : Nat) (Option.none : Option Jvm.ClassFile.FieldType)) ∈ jv_T := jv_in 214 (by decide +kernel) (by decide +kernel)
theorem mw_215 : (Jvm.Cond.methodLink "TemperNurses$Planner" (3 : Nat) ({ cls := "java/lang/Object", name := "<init>", desc := "()V" } : Jvm.MethodName)) ∈ jv_T := jv_in 215 (by decide +kernel) (by decide +kernel)
theorem mw_216 : (Jvm.Cond.fieldLink "TemperNurses$Planner" (24 : Nat) "TemperNurses$Planner" "house" "LTemperNurses$House;") ∈ jv_T := jv_in 216 (by decide +kernel) (by decide +kernel)
theorem mw_217 : (Jvm.Cond.fieldLink "TemperNurses$Planner" (9 : Nat) "TemperNurses$Planner" "tried" "[I") ∈ jv_T := jv_in 217 (by decide +kernel) (by decide +kernel)
theorem mw_218 : (Jvm.Cond.fieldLink "TemperNurses$Planner" (15 : Nat) "TemperNurses$Planner" "having" "[I") ∈ jv_T := jv_in 218 (by decide +kernel) (by decide +kernel)
theorem mw_219 : (Jvm.Cond.fieldLink "TemperNurses$Planner" (18 : Nat) "TemperNurses$Planner" "yearsBy" "[I") ∈ jv_T := jv_in 219 (by decide +kernel) (by decide +kernel)
theorem mw_220 : (Jvm.Cond.fieldLink "TemperNurses$Planner" (60 : Nat) "TemperNurses$Planner" "fewestYears" "I") ∈ jv_T := jv_in 220 (by decide +kernel) (by decide +kernel)
theorem mw_221 : (Jvm.Cond.fieldLink "TemperNurses$Planner" (21 : Nat) "TemperNurses$Planner" "chosen" "[I") ∈ jv_T := jv_in 221 (by decide +kernel) (by decide +kernel)
theorem mw_222 : (Jvm.Cond.fieldLink "TemperNurses" (219 : Nat) "TemperNurses$Planner" "chosen" "[I") ∈ jv_T := jv_in 222 (by decide +kernel) (by decide +kernel)
theorem mw_223 : (Jvm.Cond.fieldLink "TemperNurses$Planner" (28 : Nat) "TemperNurses$Planner" "most" "I") ∈ jv_T := jv_in 223 (by decide +kernel) (by decide +kernel)
theorem mw_224 : (Jvm.Cond.fieldLink "TemperNurses" (216 : Nat) "TemperNurses$Planner" "most" "I") ∈ jv_T := jv_in 224 (by decide +kernel) (by decide +kernel)
theorem mw_225 : (Jvm.Cond.laysFinal "TemperNurses$Planner" "TemperNurses$Planner" "house" "LTemperNurses$House;") ∈ jv_T := jv_in 225 (by decide +kernel) (by decide +kernel)
theorem mw_227 : (Jvm.Cond.laysFinal "TemperNurses$Planner" "TemperNurses$Planner" "tried" "[I") ∈ jv_T := jv_in 227 (by decide +kernel) (by decide +kernel)
theorem mw_229 : (Jvm.Cond.laysFinal "TemperNurses$Planner" "TemperNurses$Planner" "having" "[I") ∈ jv_T := jv_in 229 (by decide +kernel) (by decide +kernel)
theorem mw_231 : (Jvm.Cond.laysFinal "TemperNurses$Planner" "TemperNurses$Planner" "yearsBy" "[I") ∈ jv_T := jv_in 231 (by decide +kernel) (by decide +kernel)
theorem mw_233 : (Jvm.Cond.lays "TemperNurses$Planner" "TemperNurses$Planner" "fewestYears" "I") ∈ jv_T := jv_in 233 (by decide +kernel) (by decide +kernel)
theorem mw_235 : (Jvm.Cond.laysFinal "TemperNurses$Planner" "TemperNurses$Planner" "chosen" "[I") ∈ jv_T := jv_in 235 (by decide +kernel) (by decide +kernel)
theorem mw_237 : (Jvm.Cond.lays "TemperNurses$Planner" "TemperNurses$Planner" "most" "I") ∈ jv_T := jv_in 237 (by decide +kernel) (by decide +kernel)
theorem mw_240 : (Jvm.Cond.classLink "TemperNurses" (48 : Nat) "TemperNurses$BedMaker") ∈ jv_T := jv_in 240 (by decide +kernel) (by decide +kernel)
theorem mw_241 : (Jvm.Cond.instantiable "TemperNurses$BedMaker" (5 : Nat)) ∈ jv_T := jv_in 241 (by decide +kernel) (by decide +kernel)
theorem mw_242 : (Jvm.Cond.methodLink "TemperNurses" (50 : Nat) ({ cls := "TemperNurses$BedMaker", name := "<init>", desc := "(LTemperNurses$House;)V" } : Jvm.MethodName)) ∈ jv_T := jv_in 242 (by decide +kernel) (by decide +kernel)
theorem mw_243 : (Jvm.Cond.instanceMethod ({ cls := "TemperNurses$BedMaker", name := "<init>", desc := "(LTemperNurses$House;)V" } : Jvm.MethodName)) ∈ jv_T := jv_in 243 (by decide +kernel) (by decide +kernel)
theorem mw_244 : (Jvm.Cond.code ({ cls := "TemperNurses$BedMaker", name := "<init>", desc := "(LTemperNurses$House;)V" } : Jvm.MethodName) prog_2_method_1_code (2 : Nat) (Option.none : Option Jvm.ClassFile.FieldType)) ∈ jv_T := jv_in 244 (by decide +kernel) (by decide +kernel)
theorem mw_245 : (Jvm.Cond.methodLink "TemperNurses$BedMaker" (3 : Nat) ({ cls := "java/lang/Object", name := "<init>", desc := "()V" } : Jvm.MethodName)) ∈ jv_T := jv_in 245 (by decide +kernel) (by decide +kernel)
theorem mw_246 : (Jvm.Cond.fieldLink "TemperNurses$BedMaker" (18 : Nat) "TemperNurses$BedMaker" "house" "LTemperNurses$House;") ∈ jv_T := jv_in 246 (by decide +kernel) (by decide +kernel)
theorem mw_247 : (Jvm.Cond.fieldLink "TemperNurses$BedMaker" (9 : Nat) "TemperNurses$BedMaker" "tried" "[I") ∈ jv_T := jv_in 247 (by decide +kernel) (by decide +kernel)
theorem mw_248 : (Jvm.Cond.fieldLink "TemperNurses$BedMaker" (22 : Nat) "TemperNurses$BedMaker" "limit" "I") ∈ jv_T := jv_in 248 (by decide +kernel) (by decide +kernel)
theorem mw_249 : (Jvm.Cond.fieldLink "TemperNurses$BedMaker" (15 : Nat) "TemperNurses$BedMaker" "chosen" "[I") ∈ jv_T := jv_in 249 (by decide +kernel) (by decide +kernel)
theorem mw_250 : (Jvm.Cond.fieldLink "TemperNurses" (230 : Nat) "TemperNurses$BedMaker" "chosen" "[I") ∈ jv_T := jv_in 250 (by decide +kernel) (by decide +kernel)
theorem mw_251 : (Jvm.Cond.fieldLink "TemperNurses$BedMaker" (26 : Nat) "TemperNurses$BedMaker" "most" "I") ∈ jv_T := jv_in 251 (by decide +kernel) (by decide +kernel)
theorem mw_252 : (Jvm.Cond.fieldLink "TemperNurses" (229 : Nat) "TemperNurses$BedMaker" "most" "I") ∈ jv_T := jv_in 252 (by decide +kernel) (by decide +kernel)
theorem mw_253 : (Jvm.Cond.laysFinal "TemperNurses$BedMaker" "TemperNurses$BedMaker" "house" "LTemperNurses$House;") ∈ jv_T := jv_in 253 (by decide +kernel) (by decide +kernel)
theorem mw_255 : (Jvm.Cond.laysFinal "TemperNurses$BedMaker" "TemperNurses$BedMaker" "tried" "[I") ∈ jv_T := jv_in 255 (by decide +kernel) (by decide +kernel)
theorem mw_257 : (Jvm.Cond.lays "TemperNurses$BedMaker" "TemperNurses$BedMaker" "limit" "I") ∈ jv_T := jv_in 257 (by decide +kernel) (by decide +kernel)
theorem mw_259 : (Jvm.Cond.laysFinal "TemperNurses$BedMaker" "TemperNurses$BedMaker" "chosen" "[I") ∈ jv_T := jv_in 259 (by decide +kernel) (by decide +kernel)
theorem mw_261 : (Jvm.Cond.lays "TemperNurses$BedMaker" "TemperNurses$BedMaker" "most" "I") ∈ jv_T := jv_in 261 (by decide +kernel) (by decide +kernel)
theorem mw_264 : (Jvm.Cond.classLink "TemperNurses" (55 : Nat) "TemperNurses$Listener") ∈ jv_T := jv_in 264 (by decide +kernel) (by decide +kernel)
theorem mw_265 : (Jvm.Cond.instantiable "TemperNurses$Listener" (4 : Nat)) ∈ jv_T := jv_in 265 (by decide +kernel) (by decide +kernel)
theorem mw_266 : (Jvm.Cond.methodLink "TemperNurses" (57 : Nat) ({ cls := "TemperNurses$Listener", name := "<init>", desc := "(LTemperNurses$House;)V" } : Jvm.MethodName)) ∈ jv_T := jv_in 266 (by decide +kernel) (by decide +kernel)
theorem mw_267 : (Jvm.Cond.instanceMethod ({ cls := "TemperNurses$Listener", name := "<init>", desc := "(LTemperNurses$House;)V" } : Jvm.MethodName)) ∈ jv_T := jv_in 267 (by decide +kernel) (by decide +kernel)
theorem mw_268 : (Jvm.Cond.code ({ cls := "TemperNurses$Listener", name := "<init>", desc := "(LTemperNurses$House;)V" } : Jvm.MethodName) prog_7_method_1_code (2 : Nat) (Option.none : Option Jvm.ClassFile.FieldType)) ∈ jv_T := jv_in 268 (by decide +kernel) (by decide +kernel)
theorem mw_269 : (Jvm.Cond.methodLink "TemperNurses$Listener" (3 : Nat) ({ cls := "java/lang/Object", name := "<init>", desc := "()V" } : Jvm.MethodName)) ∈ jv_T := jv_in 269 (by decide +kernel) (by decide +kernel)
theorem mw_270 : (Jvm.Cond.fieldLink "TemperNurses$Listener" (18 : Nat) "TemperNurses$Listener" "house" "LTemperNurses$House;") ∈ jv_T := jv_in 270 (by decide +kernel) (by decide +kernel)
theorem mw_271 : (Jvm.Cond.fieldLink "TemperNurses$Listener" (9 : Nat) "TemperNurses$Listener" "bangsAt" "[I") ∈ jv_T := jv_in 271 (by decide +kernel) (by decide +kernel)
theorem mw_272 : (Jvm.Cond.fieldLink "TemperNurses$Listener" (15 : Nat) "TemperNurses$Listener" "bangs" "[I") ∈ jv_T := jv_in 272 (by decide +kernel) (by decide +kernel)
theorem mw_273 : (Jvm.Cond.fieldLink "TemperNurses$Listener" (22 : Nat) "TemperNurses$Listener" "heard" "I") ∈ jv_T := jv_in 273 (by decide +kernel) (by decide +kernel)
theorem mw_274 : (Jvm.Cond.fieldLink "TemperNurses" (239 : Nat) "TemperNurses$Listener" "heard" "I") ∈ jv_T := jv_in 274 (by decide +kernel) (by decide +kernel)
theorem mw_275 : (Jvm.Cond.laysFinal "TemperNurses$Listener" "TemperNurses$Listener" "house" "LTemperNurses$House;") ∈ jv_T := jv_in 275 (by decide +kernel) (by decide +kernel)
theorem mw_277 : (Jvm.Cond.laysFinal "TemperNurses$Listener" "TemperNurses$Listener" "bangsAt" "[I") ∈ jv_T := jv_in 277 (by decide +kernel) (by decide +kernel)
theorem mw_279 : (Jvm.Cond.laysFinal "TemperNurses$Listener" "TemperNurses$Listener" "bangs" "[I") ∈ jv_T := jv_in 279 (by decide +kernel) (by decide +kernel)
theorem mw_281 : (Jvm.Cond.lays "TemperNurses$Listener" "TemperNurses$Listener" "heard" "I") ∈ jv_T := jv_in 281 (by decide +kernel) (by decide +kernel)
theorem mw_284 : (Jvm.Cond.classLink "TemperNurses" (62 : Nat) "TemperNurses$Kinds") ∈ jv_T := jv_in 284 (by decide +kernel) (by decide +kernel)
theorem mw_285 : (Jvm.Cond.instantiable "TemperNurses$Kinds" (2 : Nat)) ∈ jv_T := jv_in 285 (by decide +kernel) (by decide +kernel)
theorem mw_286 : (Jvm.Cond.methodLink "TemperNurses" (64 : Nat) ({ cls := "TemperNurses$Kinds", name := "<init>", desc := "(LTemperNurses$House;)V" } : Jvm.MethodName)) ∈ jv_T := jv_in 286 (by decide +kernel) (by decide +kernel)
theorem mw_287 : (Jvm.Cond.instanceMethod ({ cls := "TemperNurses$Kinds", name := "<init>", desc := "(LTemperNurses$House;)V" } : Jvm.MethodName)) ∈ jv_T := jv_in 287 (by decide +kernel) (by decide +kernel)
theorem mw_288 : (Jvm.Cond.code ({ cls := "TemperNurses$Kinds", name := "<init>", desc := "(LTemperNurses$House;)V" } : Jvm.MethodName) prog_6_method_1_code (2 : Nat) (Option.none : Option Jvm.ClassFile.FieldType)) ∈ jv_T := jv_in 288 (by decide +kernel) (by decide +kernel)
theorem mw_289 : (Jvm.Cond.methodLink "TemperNurses$Kinds" (1 : Nat) ({ cls := "java/lang/Object", name := "<init>", desc := "()V" } : Jvm.MethodName)) ∈ jv_T := jv_in 289 (by decide +kernel) (by decide +kernel)
theorem mw_290 : (Jvm.Cond.fieldLink "TemperNurses$Kinds" (7 : Nat) "TemperNurses$Kinds" "house" "LTemperNurses$House;") ∈ jv_T := jv_in 290 (by decide +kernel) (by decide +kernel)
theorem mw_291 : (Jvm.Cond.fieldLink "TemperNurses$Kinds" (13 : Nat) "TemperNurses$Kinds" "traced" "J") ∈ jv_T := jv_in 291 (by decide +kernel) (by decide +kernel)
theorem mw_292 : (Jvm.Cond.fieldLink "TemperNurses" (279 : Nat) "TemperNurses$Kinds" "traced" "J") ∈ jv_T := jv_in 292 (by decide +kernel) (by decide +kernel)
theorem mw_293 : (Jvm.Cond.laysFinal "TemperNurses$Kinds" "TemperNurses$Kinds" "house" "LTemperNurses$House;") ∈ jv_T := jv_in 293 (by decide +kernel) (by decide +kernel)
theorem mw_295 : (Jvm.Cond.lays "TemperNurses$Kinds" "TemperNurses$Kinds" "traced" "J") ∈ jv_T := jv_in 295 (by decide +kernel) (by decide +kernel)
theorem mw_298 : (Jvm.Cond.methodLink "TemperNurses" (79 : Nat) ({ cls := "TemperNurses$Course", name := "begin", desc := "(LTemperNurses$Hill;)V" } : Jvm.MethodName)) ∈ jv_T := jv_in 298 (by decide +kernel) (by decide +kernel)
theorem mw_299 : (Jvm.Cond.instanceMethod ({ cls := "TemperNurses$Course", name := "begin", desc := "(LTemperNurses$Hill;)V" } : Jvm.MethodName)) ∈ jv_T := jv_in 299 (by decide +kernel) (by decide +kernel)
theorem mw_300 : (Jvm.Cond.selects "TemperNurses$Course" ({ cls := "TemperNurses$Course", name := "begin", desc := "(LTemperNurses$Hill;)V" } : Jvm.MethodName) ({ cls := "TemperNurses$Course", name := "begin", desc := "(LTemperNurses$Hill;)V" } : Jvm.MethodName)) ∈ jv_T := jv_in 300 (by decide +kernel) (by decide +kernel)
theorem mw_301 : (Jvm.Cond.code ({ cls := "TemperNurses$Course", name := "begin", desc := "(LTemperNurses$Hill;)V" } : Jvm.MethodName) prog_3_method_2_code (3 : Nat) (Option.none : Option Jvm.ClassFile.FieldType)) ∈ jv_T := jv_in 301 (by decide +kernel) (by decide +kernel)
theorem mw_302 : (Jvm.Cond.methodLink "TemperNurses$Course" (19 : Nat) ({ cls := "TemperNurses$Course", name := "setYear", desc := "(I)V" } : Jvm.MethodName)) ∈ jv_T := jv_in 302 (by decide +kernel) (by decide +kernel)
theorem mw_303 : (Jvm.Cond.instanceMethod ({ cls := "TemperNurses$Course", name := "setYear", desc := "(I)V" } : Jvm.MethodName)) ∈ jv_T := jv_in 303 (by decide +kernel) (by decide +kernel)
theorem mw_304 : (Jvm.Cond.selects "TemperNurses$Course" ({ cls := "TemperNurses$Course", name := "setYear", desc := "(I)V" } : Jvm.MethodName) ({ cls := "TemperNurses$Course", name := "setYear", desc := "(I)V" } : Jvm.MethodName)) ∈ jv_T := jv_in 304 (by decide +kernel) (by decide +kernel)
theorem mw_305 : (Jvm.Cond.code ({ cls := "TemperNurses$Course", name := "setYear", desc := "(I)V" } : Jvm.MethodName) prog_3_method_10_code (2 : Nat) (Option.none : Option Jvm.ClassFile.FieldType)) ∈ jv_T := jv_in 305 (by decide +kernel) (by decide +kernel)
theorem mw_306 : (Jvm.Cond.methodLink "TemperNurses$Course" (48 : Nat) ({ cls := "TemperNurses$Course", name := "setCell", desc := "(II)V" } : Jvm.MethodName)) ∈ jv_T := jv_in 306 (by decide +kernel) (by decide +kernel)
theorem mw_308 : (Jvm.Cond.instanceMethod ({ cls := "TemperNurses$Course", name := "setCell", desc := "(II)V" } : Jvm.MethodName)) ∈ jv_T := jv_in 308 (by decide +kernel) (by decide +kernel)
theorem mw_309 : (Jvm.Cond.code ({ cls := "TemperNurses$Course", name := "setCell", desc := "(II)V" } : Jvm.MethodName) prog_3_method_18_code (4 : Nat) (Option.none : Option Jvm.ClassFile.FieldType)) ∈ jv_T := jv_in 309 (by decide +kernel) (by decide +kernel)
theorem mw_310 : (Jvm.Cond.methodLink "TemperNurses$Course" (28 : Nat) ({ cls := "TemperNurses$Course", name := "setHeat", desc := "(II)V" } : Jvm.MethodName)) ∈ jv_T := jv_in 310 (by decide +kernel) (by decide +kernel)
theorem mw_311 : (Jvm.Cond.instanceMethod ({ cls := "TemperNurses$Course", name := "setHeat", desc := "(II)V" } : Jvm.MethodName)) ∈ jv_T := jv_in 311 (by decide +kernel) (by decide +kernel)
theorem mw_312 : (Jvm.Cond.selects "TemperNurses$Course" ({ cls := "TemperNurses$Course", name := "setHeat", desc := "(II)V" } : Jvm.MethodName) ({ cls := "TemperNurses$Course", name := "setHeat", desc := "(II)V" } : Jvm.MethodName)) ∈ jv_T := jv_in 312 (by decide +kernel) (by decide +kernel)
theorem mw_313 : (Jvm.Cond.code ({ cls := "TemperNurses$Course", name := "setHeat", desc := "(II)V" } : Jvm.MethodName) prog_3_method_11_code (3 : Nat) (Option.none : Option Jvm.ClassFile.FieldType)) ∈ jv_T := jv_in 313 (by decide +kernel) (by decide +kernel)
theorem mw_314 : (Jvm.Cond.methodLink "TemperNurses$Course" (32 : Nat) ({ cls := "TemperNurses$Course", name := "setPlace", desc := "(II)V" } : Jvm.MethodName)) ∈ jv_T := jv_in 314 (by decide +kernel) (by decide +kernel)
theorem mw_315 : (Jvm.Cond.instanceMethod ({ cls := "TemperNurses$Course", name := "setPlace", desc := "(II)V" } : Jvm.MethodName)) ∈ jv_T := jv_in 315 (by decide +kernel) (by decide +kernel)
theorem mw_316 : (Jvm.Cond.selects "TemperNurses$Course" ({ cls := "TemperNurses$Course", name := "setPlace", desc := "(II)V" } : Jvm.MethodName) ({ cls := "TemperNurses$Course", name := "setPlace", desc := "(II)V" } : Jvm.MethodName)) ∈ jv_T := jv_in 316 (by decide +kernel) (by decide +kernel)
theorem mw_317 : (Jvm.Cond.code ({ cls := "TemperNurses$Course", name := "setPlace", desc := "(II)V" } : Jvm.MethodName) prog_3_method_12_code (3 : Nat) (Option.none : Option Jvm.ClassFile.FieldType)) ∈ jv_T := jv_in 317 (by decide +kernel) (by decide +kernel)
theorem mw_318 : (Jvm.Cond.methodLink "TemperNurses$Course" (35 : Nat) ({ cls := "TemperNurses$Course", name := "setOwner", desc := "(II)V" } : Jvm.MethodName)) ∈ jv_T := jv_in 318 (by decide +kernel) (by decide +kernel)
theorem mw_319 : (Jvm.Cond.instanceMethod ({ cls := "TemperNurses$Course", name := "setOwner", desc := "(II)V" } : Jvm.MethodName)) ∈ jv_T := jv_in 319 (by decide +kernel) (by decide +kernel)
theorem mw_320 : (Jvm.Cond.selects "TemperNurses$Course" ({ cls := "TemperNurses$Course", name := "setOwner", desc := "(II)V" } : Jvm.MethodName) ({ cls := "TemperNurses$Course", name := "setOwner", desc := "(II)V" } : Jvm.MethodName)) ∈ jv_T := jv_in 320 (by decide +kernel) (by decide +kernel)
theorem mw_321 : (Jvm.Cond.code ({ cls := "TemperNurses$Course", name := "setOwner", desc := "(II)V" } : Jvm.MethodName) prog_3_method_13_code (3 : Nat) (Option.none : Option Jvm.ClassFile.FieldType)) ∈ jv_T := jv_in 321 (by decide +kernel) (by decide +kernel)
theorem mw_322 : (Jvm.Cond.fieldLink "TemperNurses" (10 : Nat) "TemperNurses" "told" "LTemperNurses$Hill;") ∈ jv_T := jv_in 322 (by decide +kernel) (by decide +kernel)
theorem mw_323 : (Jvm.Cond.fieldLink "TemperNurses" (19 : Nat) "TemperNurses" "reader" "LTemperNurses$TextReader;") ∈ jv_T := jv_in 323 (by decide +kernel) (by decide +kernel)
theorem mw_324 : (Jvm.Cond.fieldLink "TemperNurses" (26 : Nat) "TemperNurses" "course" "LTemperNurses$Course;") ∈ jv_T := jv_in 324 (by decide +kernel) (by decide +kernel)
theorem mw_325 : (Jvm.Cond.fieldLink "TemperNurses" (35 : Nat) "TemperNurses" "house" "LTemperNurses$House;") ∈ jv_T := jv_in 325 (by decide +kernel) (by decide +kernel)
theorem mw_326 : (Jvm.Cond.fieldLink "TemperNurses" (44 : Nat) "TemperNurses" "planner" "LTemperNurses$Planner;") ∈ jv_T := jv_in 326 (by decide +kernel) (by decide +kernel)
theorem mw_327 : (Jvm.Cond.fieldLink "TemperNurses" (51 : Nat) "TemperNurses" "bedMaker" "LTemperNurses$BedMaker;") ∈ jv_T := jv_in 327 (by decide +kernel) (by decide +kernel)
theorem mw_328 : (Jvm.Cond.fieldLink "TemperNurses" (58 : Nat) "TemperNurses" "listener" "LTemperNurses$Listener;") ∈ jv_T := jv_in 328 (by decide +kernel) (by decide +kernel)
theorem mw_329 : (Jvm.Cond.fieldLink "TemperNurses" (65 : Nat) "TemperNurses" "kinds" "LTemperNurses$Kinds;") ∈ jv_T := jv_in 329 (by decide +kernel) (by decide +kernel)
theorem mw_330 : (Jvm.Cond.fieldLink "TemperNurses" (69 : Nat) "TemperNurses" "image0" "LTemperNurses$Course;") ∈ jv_T := jv_in 330 (by decide +kernel) (by decide +kernel)
theorem mw_331 : (Jvm.Cond.fieldLink "TemperNurses" (72 : Nat) "TemperNurses" "image1" "LTemperNurses$Course;") ∈ jv_T := jv_in 331 (by decide +kernel) (by decide +kernel)
theorem mw_332 : (Jvm.Cond.fieldLink "TemperNurses" (75 : Nat) "TemperNurses" "looseWays" "[I") ∈ jv_T := jv_in 332 (by decide +kernel) (by decide +kernel)
theorem mw_333 : (Jvm.Cond.fieldLink "TemperNurses" (109 : Nat) "TemperNurses" "keptImages" "I") ∈ jv_T := jv_in 333 (by decide +kernel) (by decide +kernel)
theorem mw_334 : (Jvm.Cond.laysFinal "TemperNurses" "TemperNurses" "told" "LTemperNurses$Hill;") ∈ jv_T := jv_in 334 (by decide +kernel) (by decide +kernel)
theorem mw_336 : (Jvm.Cond.laysFinal "TemperNurses" "TemperNurses" "reader" "LTemperNurses$TextReader;") ∈ jv_T := jv_in 336 (by decide +kernel) (by decide +kernel)
theorem mw_338 : (Jvm.Cond.laysFinal "TemperNurses" "TemperNurses" "course" "LTemperNurses$Course;") ∈ jv_T := jv_in 338 (by decide +kernel) (by decide +kernel)
theorem mw_340 : (Jvm.Cond.laysFinal "TemperNurses" "TemperNurses" "house" "LTemperNurses$House;") ∈ jv_T := jv_in 340 (by decide +kernel) (by decide +kernel)
theorem mw_342 : (Jvm.Cond.laysFinal "TemperNurses" "TemperNurses" "planner" "LTemperNurses$Planner;") ∈ jv_T := jv_in 342 (by decide +kernel) (by decide +kernel)
theorem mw_344 : (Jvm.Cond.laysFinal "TemperNurses" "TemperNurses" "bedMaker" "LTemperNurses$BedMaker;") ∈ jv_T := jv_in 344 (by decide +kernel) (by decide +kernel)
theorem mw_346 : (Jvm.Cond.laysFinal "TemperNurses" "TemperNurses" "listener" "LTemperNurses$Listener;") ∈ jv_T := jv_in 346 (by decide +kernel) (by decide +kernel)
theorem mw_348 : (Jvm.Cond.laysFinal "TemperNurses" "TemperNurses" "kinds" "LTemperNurses$Kinds;") ∈ jv_T := jv_in 348 (by decide +kernel) (by decide +kernel)
theorem mw_350 : (Jvm.Cond.laysFinal "TemperNurses" "TemperNurses" "image0" "LTemperNurses$Course;") ∈ jv_T := jv_in 350 (by decide +kernel) (by decide +kernel)
theorem mw_352 : (Jvm.Cond.laysFinal "TemperNurses" "TemperNurses" "image1" "LTemperNurses$Course;") ∈ jv_T := jv_in 352 (by decide +kernel) (by decide +kernel)
theorem mw_354 : (Jvm.Cond.laysFinal "TemperNurses" "TemperNurses" "looseWays" "[I") ∈ jv_T := jv_in 354 (by decide +kernel) (by decide +kernel)
theorem mw_356 : (Jvm.Cond.lays "TemperNurses" "TemperNurses" "keptImages" "I") ∈ jv_T := jv_in 356 (by decide +kernel) (by decide +kernel)
theorem mw_360 : (Jvm.Cond.instanceMethod ({ cls := "TemperNurses", name := "type", desc := "(I)I" } : Jvm.MethodName)) ∈ jv_T := jv_in 360 (by decide +kernel) (by decide +kernel)
theorem mw_361 : (Jvm.Cond.selects "TemperNurses" ({ cls := "TemperNurses", name := "type", desc := "(I)I" } : Jvm.MethodName) ({ cls := "TemperNurses", name := "type", desc := "(I)I" } : Jvm.MethodName)) ∈ jv_T := jv_in 361 (by decide +kernel) (by decide +kernel)
theorem mw_362 : (Jvm.Cond.code ({ cls := "TemperNurses", name := "type", desc := "(I)I" } : Jvm.MethodName) prog_1_method_2_code (2 : Nat) (Option.some Jvm.ClassFile.FieldType.int)) ∈ jv_T := jv_in 362 (by decide +kernel) (by decide +kernel)
theorem mw_363 : (Jvm.Cond.methodLink "TemperNurses" (83 : Nat) ({ cls := "TemperNurses", name := "isWithin", desc := "(III)Z" } : Jvm.MethodName)) ∈ jv_T := jv_in 363 (by decide +kernel) (by decide +kernel)
theorem mw_364 : (Jvm.Cond.static ({ cls := "TemperNurses", name := "isWithin", desc := "(III)Z" } : Jvm.MethodName)) ∈ jv_T := jv_in 364 (by decide +kernel) (by decide +kernel)
theorem mw_365 : (Jvm.Cond.code ({ cls := "TemperNurses", name := "isWithin", desc := "(III)Z" } : Jvm.MethodName) prog_1_method_29_code (3 : Nat) (Option.some Jvm.ClassFile.FieldType.boolean)) ∈ jv_T := jv_in 365 (by decide +kernel) (by decide +kernel)
theorem mw_366 : (Jvm.Cond.methodLink "TemperNurses" (87 : Nat) ({ cls := "TemperNurses$TextReader", name := "append", desc := "(I)Z" } : Jvm.MethodName)) ∈ jv_T := jv_in 366 (by decide +kernel) (by decide +kernel)
theorem mw_367 : (Jvm.Cond.instanceMethod ({ cls := "TemperNurses$TextReader", name := "append", desc := "(I)Z" } : Jvm.MethodName)) ∈ jv_T := jv_in 367 (by decide +kernel) (by decide +kernel)
theorem mw_368 : (Jvm.Cond.selects "TemperNurses$TextReader" ({ cls := "TemperNurses$TextReader", name := "append", desc := "(I)Z" } : Jvm.MethodName) ({ cls := "TemperNurses$TextReader", name := "append", desc := "(I)Z" } : Jvm.MethodName)) ∈ jv_T := jv_in 368 (by decide +kernel) (by decide +kernel)
theorem mw_369 : (Jvm.Cond.code ({ cls := "TemperNurses$TextReader", name := "append", desc := "(I)Z" } : Jvm.MethodName) prog_9_method_2_code (2 : Nat) (Option.some Jvm.ClassFile.FieldType.boolean)) ∈ jv_T := jv_in 369 (by decide +kernel) (by decide +kernel)
theorem mw_371 : (Jvm.Cond.instanceMethod ({ cls := "TemperNurses", name := "clear", desc := "()I" } : Jvm.MethodName)) ∈ jv_T := jv_in 371 (by decide +kernel) (by decide +kernel)
theorem mw_372 : (Jvm.Cond.selects "TemperNurses" ({ cls := "TemperNurses", name := "clear", desc := "()I" } : Jvm.MethodName) ({ cls := "TemperNurses", name := "clear", desc := "()I" } : Jvm.MethodName)) ∈ jv_T := jv_in 372 (by decide +kernel) (by decide +kernel)
theorem mw_373 : (Jvm.Cond.code ({ cls := "TemperNurses", name := "clear", desc := "()I" } : Jvm.MethodName) prog_1_method_3_code (1 : Nat) (Option.some Jvm.ClassFile.FieldType.int)) ∈ jv_T := jv_in 373 (by decide +kernel) (by decide +kernel)
theorem mw_374 : (Jvm.Cond.methodLink "TemperNurses" (95 : Nat) ({ cls := "TemperNurses$TextReader", name := "empty", desc := "()I" } : Jvm.MethodName)) ∈ jv_T := jv_in 374 (by decide +kernel) (by decide +kernel)
theorem mw_375 : (Jvm.Cond.instanceMethod ({ cls := "TemperNurses$TextReader", name := "empty", desc := "()I" } : Jvm.MethodName)) ∈ jv_T := jv_in 375 (by decide +kernel) (by decide +kernel)
theorem mw_376 : (Jvm.Cond.selects "TemperNurses$TextReader" ({ cls := "TemperNurses$TextReader", name := "empty", desc := "()I" } : Jvm.MethodName) ({ cls := "TemperNurses$TextReader", name := "empty", desc := "()I" } : Jvm.MethodName)) ∈ jv_T := jv_in 376 (by decide +kernel) (by decide +kernel)
theorem mw_377 : (Jvm.Cond.code ({ cls := "TemperNurses$TextReader", name := "empty", desc := "()I" } : Jvm.MethodName) prog_9_method_3_code (2 : Nat) (Option.some Jvm.ClassFile.FieldType.int)) ∈ jv_T := jv_in 377 (by decide +kernel) (by decide +kernel)
theorem mw_379 : (Jvm.Cond.instanceMethod ({ cls := "TemperNurses", name := "hill", desc := "()I" } : Jvm.MethodName)) ∈ jv_T := jv_in 379 (by decide +kernel) (by decide +kernel)
theorem mw_380 : (Jvm.Cond.selects "TemperNurses" ({ cls := "TemperNurses", name := "hill", desc := "()I" } : Jvm.MethodName) ({ cls := "TemperNurses", name := "hill", desc := "()I" } : Jvm.MethodName)) ∈ jv_T := jv_in 380 (by decide +kernel) (by decide +kernel)
theorem mw_381 : (Jvm.Cond.code ({ cls := "TemperNurses", name := "hill", desc := "()I" } : Jvm.MethodName) prog_1_method_4_code (2 : Nat) (Option.some Jvm.ClassFile.FieldType.int)) ∈ jv_T := jv_in 381 (by decide +kernel) (by decide +kernel)
theorem mw_382 : (Jvm.Cond.methodLink "TemperNurses" (99 : Nat) ({ cls := "TemperNurses$TextReader", name := "readAll", desc := "()I" } : Jvm.MethodName)) ∈ jv_T := jv_in 382 (by decide +kernel) (by decide +kernel)
theorem mw_383 : (Jvm.Cond.instanceMethod ({ cls := "TemperNurses$TextReader", name := "readAll", desc := "()I" } : Jvm.MethodName)) ∈ jv_T := jv_in 383 (by decide +kernel) (by decide +kernel)
theorem mw_384 : (Jvm.Cond.selects "TemperNurses$TextReader" ({ cls := "TemperNurses$TextReader", name := "readAll", desc := "()I" } : Jvm.MethodName) ({ cls := "TemperNurses$TextReader", name := "readAll", desc := "()I" } : Jvm.MethodName)) ∈ jv_T := jv_in 384 (by decide +kernel) (by decide +kernel)
theorem mw_385 : (Jvm.Cond.code ({ cls := "TemperNurses$TextReader", name := "readAll", desc := "()I" } : Jvm.MethodName) prog_9_method_4_code (3 : Nat) (Option.some Jvm.ClassFile.FieldType.int)) ∈ jv_T := jv_in 385 (by decide +kernel) (by decide +kernel)
theorem mw_386 : (Jvm.Cond.methodLink "TemperNurses$TextReader" (29 : Nat) ({ cls := "TemperNurses$Hill", name := "wipe", desc := "()V" } : Jvm.MethodName)) ∈ jv_T := jv_in 386 (by decide +kernel) (by decide +kernel)
theorem mw_387 : (Jvm.Cond.instanceMethod ({ cls := "TemperNurses$Hill", name := "wipe", desc := "()V" } : Jvm.MethodName)) ∈ jv_T := jv_in 387 (by decide +kernel) (by decide +kernel)
theorem mw_388 : (Jvm.Cond.selects "TemperNurses$Hill" ({ cls := "TemperNurses$Hill", name := "wipe", desc := "()V" } : Jvm.MethodName) ({ cls := "TemperNurses$Hill", name := "wipe", desc := "()V" } : Jvm.MethodName)) ∈ jv_T := jv_in 388 (by decide +kernel) (by decide +kernel)
theorem mw_389 : (Jvm.Cond.code ({ cls := "TemperNurses$Hill", name := "wipe", desc := "()V" } : Jvm.MethodName) prog_4_method_4_code (1 : Nat) (Option.none : Option Jvm.ClassFile.FieldType)) ∈ jv_T := jv_in 389 (by decide +kernel) (by decide +kernel)
theorem mw_390 : (Jvm.Cond.methodLink "TemperNurses$Hill" (40 : Nat) ({ cls := "java/util/Arrays", name := "fill", desc := "([II)V" } : Jvm.MethodName)) ∈ jv_T := jv_in 390 (by decide +kernel) (by decide +kernel)
theorem mw_391 : (Jvm.Cond.static ({ cls := "java/util/Arrays", name := "fill", desc := "([II)V" } : Jvm.MethodName)) ∈ jv_T := jv_in 391 (by decide +kernel) (by decide +kernel)
theorem mw_392 : (Jvm.Cond.code ({ cls := "java/util/Arrays", name := "fill", desc := "([II)V" } : Jvm.MethodName) prog_15_method_103_code (4 : Nat) (Option.none : Option Jvm.ClassFile.FieldType)) ∈ jv_T := jv_in 392 (by decide +kernel) (by decide +kernel)
theorem mw_393 : (Jvm.Cond.methodLink "TemperNurses$TextReader" (38 : Nat) ({ cls := "TemperNurses$TextReader", name := "readToken", desc := "()V" } : Jvm.MethodName)) ∈ jv_T := jv_in 393 (by decide +kernel) (by decide +kernel)
theorem mw_395 : (Jvm.Cond.instanceMethod ({ cls := "TemperNurses$TextReader", name := "readToken", desc := "()V" } : Jvm.MethodName)) ∈ jv_T := jv_in 395 (by decide +kernel) (by decide +kernel)
theorem mw_396 : (Jvm.Cond.code ({ cls := "TemperNurses$TextReader", name := "readToken", desc := "()V" } : Jvm.MethodName) prog_9_method_11_code (1 : Nat) (Option.none : Option Jvm.ClassFile.FieldType)) ∈ jv_T := jv_in 396 (by decide +kernel) (by decide +kernel)
theorem mw_397 : (Jvm.Cond.methodLink "TemperNurses$TextReader" (110 : Nat) ({ cls := "TemperNurses$TextReader", name := "byteAt", desc := "(I)I" } : Jvm.MethodName)) ∈ jv_T := jv_in 397 (by decide +kernel) (by decide +kernel)
theorem mw_399 : (Jvm.Cond.instanceMethod ({ cls := "TemperNurses$TextReader", name := "byteAt", desc := "(I)I" } : Jvm.MethodName)) ∈ jv_T := jv_in 399 (by decide +kernel) (by decide +kernel)
theorem mw_400 : (Jvm.Cond.code ({ cls := "TemperNurses$TextReader", name := "byteAt", desc := "(I)I" } : Jvm.MethodName) prog_9_method_16_code (2 : Nat) (Option.some Jvm.ClassFile.FieldType.int)) ∈ jv_T := jv_in 400 (by decide +kernel) (by decide +kernel)
theorem mw_402 : (Jvm.Cond.methodLink "TemperNurses$TextReader" (114 : Nat) ({ cls := "TemperNurses$TextReader", name := "isLetter", desc := "(I)Z" } : Jvm.MethodName)) ∈ jv_T := jv_in 402 (by decide +kernel) (by decide +kernel)
theorem mw_404 : (Jvm.Cond.instanceMethod ({ cls := "TemperNurses$TextReader", name := "isLetter", desc := "(I)Z" } : Jvm.MethodName)) ∈ jv_T := jv_in 404 (by decide +kernel) (by decide +kernel)
theorem mw_405 : (Jvm.Cond.code ({ cls := "TemperNurses$TextReader", name := "isLetter", desc := "(I)Z" } : Jvm.MethodName) prog_9_method_14_code (2 : Nat) (Option.some Jvm.ClassFile.FieldType.boolean)) ∈ jv_T := jv_in 405 (by decide +kernel) (by decide +kernel)
theorem mw_406 : (Jvm.Cond.methodLink "TemperNurses$TextReader" (117 : Nat) ({ cls := "TemperNurses$TextReader", name := "readLetters", desc := "()V" } : Jvm.MethodName)) ∈ jv_T := jv_in 406 (by decide +kernel) (by decide +kernel)
theorem mw_408 : (Jvm.Cond.instanceMethod ({ cls := "TemperNurses$TextReader", name := "readLetters", desc := "()V" } : Jvm.MethodName)) ∈ jv_T := jv_in 408 (by decide +kernel) (by decide +kernel)
theorem mw_409 : (Jvm.Cond.code ({ cls := "TemperNurses$TextReader", name := "readLetters", desc := "()V" } : Jvm.MethodName) prog_9_method_12_code (1 : Nat) (Option.none : Option Jvm.ClassFile.FieldType)) ∈ jv_T := jv_in 409 (by decide +kernel) (by decide +kernel)
theorem mw_410 : (Jvm.Cond.methodLink "TemperNurses$TextReader" (120 : Nat) ({ cls := "TemperNurses$TextReader", name := "isDigit", desc := "(I)Z" } : Jvm.MethodName)) ∈ jv_T := jv_in 410 (by decide +kernel) (by decide +kernel)
theorem mw_412 : (Jvm.Cond.instanceMethod ({ cls := "TemperNurses$TextReader", name := "isDigit", desc := "(I)Z" } : Jvm.MethodName)) ∈ jv_T := jv_in 412 (by decide +kernel) (by decide +kernel)
theorem mw_413 : (Jvm.Cond.code ({ cls := "TemperNurses$TextReader", name := "isDigit", desc := "(I)Z" } : Jvm.MethodName) prog_9_method_15_code (2 : Nat) (Option.some Jvm.ClassFile.FieldType.boolean)) ∈ jv_T := jv_in 413 (by decide +kernel) (by decide +kernel)
theorem mw_414 : (Jvm.Cond.methodLink "TemperNurses$TextReader" (123 : Nat) ({ cls := "TemperNurses$TextReader", name := "readDigits", desc := "()V" } : Jvm.MethodName)) ∈ jv_T := jv_in 414 (by decide +kernel) (by decide +kernel)
theorem mw_416 : (Jvm.Cond.instanceMethod ({ cls := "TemperNurses$TextReader", name := "readDigits", desc := "()V" } : Jvm.MethodName)) ∈ jv_T := jv_in 416 (by decide +kernel) (by decide +kernel)
theorem mw_417 : (Jvm.Cond.code ({ cls := "TemperNurses$TextReader", name := "readDigits", desc := "()V" } : Jvm.MethodName) prog_9_method_13_code (2 : Nat) (Option.none : Option Jvm.ClassFile.FieldType)) ∈ jv_T := jv_in 417 (by decide +kernel) (by decide +kernel)
theorem mw_418 : (Jvm.Cond.methodLink "TemperNurses$TextReader" (44 : Nat) ({ cls := "TemperNurses$TextReader", name := "canStand", desc := "()Z" } : Jvm.MethodName)) ∈ jv_T := jv_in 418 (by decide +kernel) (by decide +kernel)
theorem mw_420 : (Jvm.Cond.instanceMethod ({ cls := "TemperNurses$TextReader", name := "canStand", desc := "()Z" } : Jvm.MethodName)) ∈ jv_T := jv_in 420 (by decide +kernel) (by decide +kernel)
theorem mw_421 : (Jvm.Cond.code ({ cls := "TemperNurses$TextReader", name := "canStand", desc := "()Z" } : Jvm.MethodName) prog_9_method_5_code (1 : Nat) (Option.some Jvm.ClassFile.FieldType.boolean)) ∈ jv_T := jv_in 421 (by decide +kernel) (by decide +kernel)
theorem mw_422 : (Jvm.Cond.methodLink "TemperNurses$TextReader" (54 : Nat) ({ cls := "TemperNurses$TextReader", name := "canBeginItem", desc := "()Z" } : Jvm.MethodName)) ∈ jv_T := jv_in 422 (by decide +kernel) (by decide +kernel)
theorem mw_424 : (Jvm.Cond.instanceMethod ({ cls := "TemperNurses$TextReader", name := "canBeginItem", desc := "()Z" } : Jvm.MethodName)) ∈ jv_T := jv_in 424 (by decide +kernel) (by decide +kernel)
theorem mw_425 : (Jvm.Cond.code ({ cls := "TemperNurses$TextReader", name := "canBeginItem", desc := "()Z" } : Jvm.MethodName) prog_9_method_6_code (1 : Nat) (Option.some Jvm.ClassFile.FieldType.boolean)) ∈ jv_T := jv_in 425 (by decide +kernel) (by decide +kernel)
theorem mw_426 : (Jvm.Cond.methodLink "TemperNurses$TextReader" (60 : Nat) ({ cls := "TemperNurses$TextReader", name := "numbersOfItem", desc := "()I" } : Jvm.MethodName)) ∈ jv_T := jv_in 426 (by decide +kernel) (by decide +kernel)
theorem mw_428 : (Jvm.Cond.instanceMethod ({ cls := "TemperNurses$TextReader", name := "numbersOfItem", desc := "()I" } : Jvm.MethodName)) ∈ jv_T := jv_in 428 (by decide +kernel) (by decide +kernel)
theorem mw_429 : (Jvm.Cond.code ({ cls := "TemperNurses$TextReader", name := "numbersOfItem", desc := "()I" } : Jvm.MethodName) prog_9_method_8_code (1 : Nat) (Option.some Jvm.ClassFile.FieldType.int)) ∈ jv_T := jv_in 429 (by decide +kernel) (by decide +kernel)
theorem mw_430 : (Jvm.Cond.methodLink "TemperNurses$TextReader" (64 : Nat) ({ cls := "TemperNurses$TextReader", name := "canBeTold", desc := "()Z" } : Jvm.MethodName)) ∈ jv_T := jv_in 430 (by decide +kernel) (by decide +kernel)
theorem mw_432 : (Jvm.Cond.instanceMethod ({ cls := "TemperNurses$TextReader", name := "canBeTold", desc := "()Z" } : Jvm.MethodName)) ∈ jv_T := jv_in 432 (by decide +kernel) (by decide +kernel)
theorem mw_433 : (Jvm.Cond.code ({ cls := "TemperNurses$TextReader", name := "canBeTold", desc := "()Z" } : Jvm.MethodName) prog_9_method_7_code (2 : Nat) (Option.some Jvm.ClassFile.FieldType.boolean)) ∈ jv_T := jv_in 433 (by decide +kernel) (by decide +kernel)
theorem mw_434 : (Jvm.Cond.fieldLink "TemperNurses$TextReader" (80 : Nat) "TemperNurses$TextReader" "TEMPER_LEAST" "[I") ∈ jv_T := jv_in 434 (by decide +kernel) (by decide +kernel)
theorem mw_436 : (Jvm.Cond.fieldLink "TemperNurses$TextReader" (83 : Nat) "TemperNurses$TextReader" "TEMPER_MOST" "[I") ∈ jv_T := jv_in 436 (by decide +kernel) (by decide +kernel)
theorem mw_438 : (Jvm.Cond.fieldLink "TemperNurses$TextReader" (86 : Nat) "TemperNurses$TextReader" "NURSE_LEAST" "[I") ∈ jv_T := jv_in 438 (by decide +kernel) (by decide +kernel)
theorem mw_440 : (Jvm.Cond.fieldLink "TemperNurses$TextReader" (89 : Nat) "TemperNurses$TextReader" "NURSE_MOST" "[I") ∈ jv_T := jv_in 440 (by decide +kernel) (by decide +kernel)
theorem mw_442 : (Jvm.Cond.methodLink "TemperNurses$TextReader" (92 : Nat) ({ cls := "TemperNurses$Hill", name := "hasTemper", desc := "(I)Z" } : Jvm.MethodName)) ∈ jv_T := jv_in 442 (by decide +kernel) (by decide +kernel)
theorem mw_443 : (Jvm.Cond.instanceMethod ({ cls := "TemperNurses$Hill", name := "hasTemper", desc := "(I)Z" } : Jvm.MethodName)) ∈ jv_T := jv_in 443 (by decide +kernel) (by decide +kernel)
theorem mw_444 : (Jvm.Cond.selects "TemperNurses$Hill" ({ cls := "TemperNurses$Hill", name := "hasTemper", desc := "(I)Z" } : Jvm.MethodName) ({ cls := "TemperNurses$Hill", name := "hasTemper", desc := "(I)Z" } : Jvm.MethodName)) ∈ jv_T := jv_in 444 (by decide +kernel) (by decide +kernel)
theorem mw_445 : (Jvm.Cond.code ({ cls := "TemperNurses$Hill", name := "hasTemper", desc := "(I)Z" } : Jvm.MethodName) prog_4_method_2_code (2 : Nat) (Option.some Jvm.ClassFile.FieldType.boolean)) ∈ jv_T := jv_in 445 (by decide +kernel) (by decide +kernel)
theorem mw_446 : (Jvm.Cond.methodLink "TemperNurses$TextReader" (51 : Nat) ({ cls := "TemperNurses$TextReader", name := "takeToken", desc := "()V" } : Jvm.MethodName)) ∈ jv_T := jv_in 446 (by decide +kernel) (by decide +kernel)
theorem mw_448 : (Jvm.Cond.instanceMethod ({ cls := "TemperNurses$TextReader", name := "takeToken", desc := "()V" } : Jvm.MethodName)) ∈ jv_T := jv_in 448 (by decide +kernel) (by decide +kernel)
theorem mw_449 : (Jvm.Cond.code ({ cls := "TemperNurses$TextReader", name := "takeToken", desc := "()V" } : Jvm.MethodName) prog_9_method_9_code (1 : Nat) (Option.none : Option Jvm.ClassFile.FieldType)) ∈ jv_T := jv_in 449 (by decide +kernel) (by decide +kernel)
theorem mw_450 : (Jvm.Cond.methodLink "TemperNurses$TextReader" (96 : Nat) ({ cls := "TemperNurses$TextReader", name := "takeItem", desc := "()V" } : Jvm.MethodName)) ∈ jv_T := jv_in 450 (by decide +kernel) (by decide +kernel)
theorem mw_452 : (Jvm.Cond.instanceMethod ({ cls := "TemperNurses$TextReader", name := "takeItem", desc := "()V" } : Jvm.MethodName)) ∈ jv_T := jv_in 452 (by decide +kernel) (by decide +kernel)
theorem mw_453 : (Jvm.Cond.code ({ cls := "TemperNurses$TextReader", name := "takeItem", desc := "()V" } : Jvm.MethodName) prog_9_method_10_code (1 : Nat) (Option.none : Option Jvm.ClassFile.FieldType)) ∈ jv_T := jv_in 453 (by decide +kernel) (by decide +kernel)
theorem mw_454 : (Jvm.Cond.methodLink "TemperNurses$TextReader" (99 : Nat) ({ cls := "TemperNurses$Hill", name := "addTemper", desc := "(III)V" } : Jvm.MethodName)) ∈ jv_T := jv_in 454 (by decide +kernel) (by decide +kernel)
theorem mw_455 : (Jvm.Cond.instanceMethod ({ cls := "TemperNurses$Hill", name := "addTemper", desc := "(III)V" } : Jvm.MethodName)) ∈ jv_T := jv_in 455 (by decide +kernel) (by decide +kernel)
theorem mw_456 : (Jvm.Cond.selects "TemperNurses$Hill" ({ cls := "TemperNurses$Hill", name := "addTemper", desc := "(III)V" } : Jvm.MethodName) ({ cls := "TemperNurses$Hill", name := "addTemper", desc := "(III)V" } : Jvm.MethodName)) ∈ jv_T := jv_in 456 (by decide +kernel) (by decide +kernel)
theorem mw_457 : (Jvm.Cond.code ({ cls := "TemperNurses$Hill", name := "addTemper", desc := "(III)V" } : Jvm.MethodName) prog_4_method_5_code (4 : Nat) (Option.none : Option Jvm.ClassFile.FieldType)) ∈ jv_T := jv_in 457 (by decide +kernel) (by decide +kernel)
theorem mw_458 : (Jvm.Cond.methodLink "TemperNurses$TextReader" (103 : Nat) ({ cls := "TemperNurses$Hill", name := "addNurse", desc := "(III)V" } : Jvm.MethodName)) ∈ jv_T := jv_in 458 (by decide +kernel) (by decide +kernel)
theorem mw_459 : (Jvm.Cond.instanceMethod ({ cls := "TemperNurses$Hill", name := "addNurse", desc := "(III)V" } : Jvm.MethodName)) ∈ jv_T := jv_in 459 (by decide +kernel) (by decide +kernel)
theorem mw_460 : (Jvm.Cond.selects "TemperNurses$Hill" ({ cls := "TemperNurses$Hill", name := "addNurse", desc := "(III)V" } : Jvm.MethodName) ({ cls := "TemperNurses$Hill", name := "addNurse", desc := "(III)V" } : Jvm.MethodName)) ∈ jv_T := jv_in 460 (by decide +kernel) (by decide +kernel)
theorem mw_461 : (Jvm.Cond.code ({ cls := "TemperNurses$Hill", name := "addNurse", desc := "(III)V" } : Jvm.MethodName) prog_4_method_6_code (4 : Nat) (Option.none : Option Jvm.ClassFile.FieldType)) ∈ jv_T := jv_in 461 (by decide +kernel) (by decide +kernel)
theorem mw_462 : (Jvm.Cond.methodLink "TemperNurses$TextReader" (106 : Nat) ({ cls := "TemperNurses$Hill", name := "addClash", desc := "(II)V" } : Jvm.MethodName)) ∈ jv_T := jv_in 462 (by decide +kernel) (by decide +kernel)
theorem mw_463 : (Jvm.Cond.instanceMethod ({ cls := "TemperNurses$Hill", name := "addClash", desc := "(II)V" } : Jvm.MethodName)) ∈ jv_T := jv_in 463 (by decide +kernel) (by decide +kernel)
theorem mw_464 : (Jvm.Cond.selects "TemperNurses$Hill" ({ cls := "TemperNurses$Hill", name := "addClash", desc := "(II)V" } : Jvm.MethodName) ({ cls := "TemperNurses$Hill", name := "addClash", desc := "(II)V" } : Jvm.MethodName)) ∈ jv_T := jv_in 464 (by decide +kernel) (by decide +kernel)
theorem mw_465 : (Jvm.Cond.code ({ cls := "TemperNurses$Hill", name := "addClash", desc := "(II)V" } : Jvm.MethodName) prog_4_method_7_code (3 : Nat) (Option.none : Option Jvm.ClassFile.FieldType)) ∈ jv_T := jv_in 465 (by decide +kernel) (by decide +kernel)
theorem mw_466 : (Jvm.Cond.methodLink "TemperNurses$Hill" (46 : Nat) ({ cls := "TemperNurses$Hill", name := "hasTemper", desc := "(I)Z" } : Jvm.MethodName)) ∈ jv_T := jv_in 466 (by decide +kernel) (by decide +kernel)
theorem mw_468 : (Jvm.Cond.static ({ cls := "TemperNurses", name := "bit", desc := "(I)I" } : Jvm.MethodName)) ∈ jv_T := jv_in 468 (by decide +kernel) (by decide +kernel)
theorem mw_469 : (Jvm.Cond.code ({ cls := "TemperNurses", name := "bit", desc := "(I)I" } : Jvm.MethodName) prog_1_method_30_code (1 : Nat) (Option.some Jvm.ClassFile.FieldType.int)) ∈ jv_T := jv_in 469 (by decide +kernel) (by decide +kernel)
theorem mw_470 : (Jvm.Cond.methodLink "TemperNurses" (105 : Nat) ({ cls := "TemperNurses$Hill", name := "take", desc := "(LTemperNurses$Hill;)V" } : Jvm.MethodName)) ∈ jv_T := jv_in 470 (by decide +kernel) (by decide +kernel)
theorem mw_471 : (Jvm.Cond.instanceMethod ({ cls := "TemperNurses$Hill", name := "take", desc := "(LTemperNurses$Hill;)V" } : Jvm.MethodName)) ∈ jv_T := jv_in 471 (by decide +kernel) (by decide +kernel)
theorem mw_472 : (Jvm.Cond.selects "TemperNurses$Hill" ({ cls := "TemperNurses$Hill", name := "take", desc := "(LTemperNurses$Hill;)V" } : Jvm.MethodName) ({ cls := "TemperNurses$Hill", name := "take", desc := "(LTemperNurses$Hill;)V" } : Jvm.MethodName)) ∈ jv_T := jv_in 472 (by decide +kernel) (by decide +kernel)
theorem mw_473 : (Jvm.Cond.code ({ cls := "TemperNurses$Hill", name := "take", desc := "(LTemperNurses$Hill;)V" } : Jvm.MethodName) prog_4_method_8_code (2 : Nat) (Option.none : Option Jvm.ClassFile.FieldType)) ∈ jv_T := jv_in 473 (by decide +kernel) (by decide +kernel)
theorem mw_474 : (Jvm.Cond.methodLink "TemperNurses$Hill" (54 : Nat) ({ cls := "java/lang/System", name := "arraycopy", desc := "(Ljava/lang/Object;ILjava/lang/Object;II)V" } : Jvm.MethodName)) ∈ jv_T := jv_in 474 (by decide +kernel) (by decide +kernel)
theorem mw_475 : (Jvm.Cond.static ({ cls := "java/lang/System", name := "arraycopy", desc := "(Ljava/lang/Object;ILjava/lang/Object;II)V" } : Jvm.MethodName)) ∈ jv_T := jv_in 475 (by decide +kernel) (by decide +kernel)
theorem mw_476 : (Jvm.Cond.native ({ cls := "java/lang/System", name := "arraycopy", desc := "(Ljava/lang/Object;ILjava/lang/Object;II)V" } : Jvm.MethodName)) ∈ jv_T := jv_in 476 (by decide +kernel) (by decide +kernel)
theorem mw_477 : (Jvm.Cond.methodLink "TemperNurses" (108 : Nat) ({ cls := "TemperNurses$Listener", name := "empty", desc := "()I" } : Jvm.MethodName)) ∈ jv_T := jv_in 477 (by decide +kernel) (by decide +kernel)
theorem mw_478 : (Jvm.Cond.instanceMethod ({ cls := "TemperNurses$Listener", name := "empty", desc := "()I" } : Jvm.MethodName)) ∈ jv_T := jv_in 478 (by decide +kernel) (by decide +kernel)
theorem mw_479 : (Jvm.Cond.selects "TemperNurses$Listener" ({ cls := "TemperNurses$Listener", name := "empty", desc := "()I" } : Jvm.MethodName) ({ cls := "TemperNurses$Listener", name := "empty", desc := "()I" } : Jvm.MethodName)) ∈ jv_T := jv_in 479 (by decide +kernel) (by decide +kernel)
theorem mw_480 : (Jvm.Cond.code ({ cls := "TemperNurses$Listener", name := "empty", desc := "()I" } : Jvm.MethodName) prog_7_method_3_code (2 : Nat) (Option.some Jvm.ClassFile.FieldType.int)) ∈ jv_T := jv_in 480 (by decide +kernel) (by decide +kernel)
theorem mw_482 : (Jvm.Cond.instanceMethod ({ cls := "TemperNurses", name := "temper", desc := "(II)I" } : Jvm.MethodName)) ∈ jv_T := jv_in 482 (by decide +kernel) (by decide +kernel)
theorem mw_483 : (Jvm.Cond.selects "TemperNurses" ({ cls := "TemperNurses", name := "temper", desc := "(II)I" } : Jvm.MethodName) ({ cls := "TemperNurses", name := "temper", desc := "(II)I" } : Jvm.MethodName)) ∈ jv_T := jv_in 483 (by decide +kernel) (by decide +kernel)
theorem mw_484 : (Jvm.Cond.code ({ cls := "TemperNurses", name := "temper", desc := "(II)I" } : Jvm.MethodName) prog_1_method_5_code (3 : Nat) (Option.some Jvm.ClassFile.FieldType.int)) ∈ jv_T := jv_in 484 (by decide +kernel) (by decide +kernel)
theorem mw_485 : (Jvm.Cond.methodLink "TemperNurses" (112 : Nat) ({ cls := "TemperNurses$Hill", name := "hasTemper", desc := "(I)Z" } : Jvm.MethodName)) ∈ jv_T := jv_in 485 (by decide +kernel) (by decide +kernel)
theorem mw_486 : (Jvm.Cond.methodLink "TemperNurses" (115 : Nat) ({ cls := "TemperNurses$Course", name := "heat", desc := "(I)I" } : Jvm.MethodName)) ∈ jv_T := jv_in 486 (by decide +kernel) (by decide +kernel)
theorem mw_487 : (Jvm.Cond.instanceMethod ({ cls := "TemperNurses$Course", name := "heat", desc := "(I)I" } : Jvm.MethodName)) ∈ jv_T := jv_in 487 (by decide +kernel) (by decide +kernel)
theorem mw_488 : (Jvm.Cond.selects "TemperNurses$Course" ({ cls := "TemperNurses$Course", name := "heat", desc := "(I)I" } : Jvm.MethodName) ({ cls := "TemperNurses$Course", name := "heat", desc := "(I)I" } : Jvm.MethodName)) ∈ jv_T := jv_in 488 (by decide +kernel) (by decide +kernel)
theorem mw_489 : (Jvm.Cond.code ({ cls := "TemperNurses$Course", name := "heat", desc := "(I)I" } : Jvm.MethodName) prog_3_method_7_code (2 : Nat) (Option.some Jvm.ClassFile.FieldType.int)) ∈ jv_T := jv_in 489 (by decide +kernel) (by decide +kernel)
theorem mw_490 : (Jvm.Cond.methodLink "TemperNurses$Course" (44 : Nat) ({ cls := "TemperNurses$Course", name := "cell", desc := "(I)I" } : Jvm.MethodName)) ∈ jv_T := jv_in 490 (by decide +kernel) (by decide +kernel)
theorem mw_492 : (Jvm.Cond.instanceMethod ({ cls := "TemperNurses$Course", name := "cell", desc := "(I)I" } : Jvm.MethodName)) ∈ jv_T := jv_in 492 (by decide +kernel) (by decide +kernel)
theorem mw_493 : (Jvm.Cond.code ({ cls := "TemperNurses$Course", name := "cell", desc := "(I)I" } : Jvm.MethodName) prog_3_method_17_code (3 : Nat) (Option.some Jvm.ClassFile.FieldType.int)) ∈ jv_T := jv_in 493 (by decide +kernel) (by decide +kernel)
theorem mw_494 : (Jvm.Cond.methodLink "TemperNurses" (125 : Nat) ({ cls := "TemperNurses$Course", name := "place", desc := "(I)I" } : Jvm.MethodName)) ∈ jv_T := jv_in 494 (by decide +kernel) (by decide +kernel)
theorem mw_495 : (Jvm.Cond.instanceMethod ({ cls := "TemperNurses$Course", name := "place", desc := "(I)I" } : Jvm.MethodName)) ∈ jv_T := jv_in 495 (by decide +kernel) (by decide +kernel)
theorem mw_496 : (Jvm.Cond.selects "TemperNurses$Course" ({ cls := "TemperNurses$Course", name := "place", desc := "(I)I" } : Jvm.MethodName) ({ cls := "TemperNurses$Course", name := "place", desc := "(I)I" } : Jvm.MethodName)) ∈ jv_T := jv_in 496 (by decide +kernel) (by decide +kernel)
theorem mw_497 : (Jvm.Cond.code ({ cls := "TemperNurses$Course", name := "place", desc := "(I)I" } : Jvm.MethodName) prog_3_method_8_code (2 : Nat) (Option.some Jvm.ClassFile.FieldType.int)) ∈ jv_T := jv_in 497 (by decide +kernel) (by decide +kernel)
theorem mw_498 : (Jvm.Cond.methodLink "TemperNurses" (128 : Nat) ({ cls := "TemperNurses$Course", name := "owner", desc := "(I)I" } : Jvm.MethodName)) ∈ jv_T := jv_in 498 (by decide +kernel) (by decide +kernel)
theorem mw_499 : (Jvm.Cond.instanceMethod ({ cls := "TemperNurses$Course", name := "owner", desc := "(I)I" } : Jvm.MethodName)) ∈ jv_T := jv_in 499 (by decide +kernel) (by decide +kernel)
theorem mw_500 : (Jvm.Cond.selects "TemperNurses$Course" ({ cls := "TemperNurses$Course", name := "owner", desc := "(I)I" } : Jvm.MethodName) ({ cls := "TemperNurses$Course", name := "owner", desc := "(I)I" } : Jvm.MethodName)) ∈ jv_T := jv_in 500 (by decide +kernel) (by decide +kernel)
theorem mw_501 : (Jvm.Cond.code ({ cls := "TemperNurses$Course", name := "owner", desc := "(I)I" } : Jvm.MethodName) prog_3_method_9_code (2 : Nat) (Option.some Jvm.ClassFile.FieldType.int)) ∈ jv_T := jv_in 501 (by decide +kernel) (by decide +kernel)
theorem mw_502 : (Jvm.Cond.methodLink "TemperNurses" (134 : Nat) ({ cls := "TemperNurses$Course", name := "ring", desc := "(I)I" } : Jvm.MethodName)) ∈ jv_T := jv_in 502 (by decide +kernel) (by decide +kernel)
theorem mw_503 : (Jvm.Cond.instanceMethod ({ cls := "TemperNurses$Course", name := "ring", desc := "(I)I" } : Jvm.MethodName)) ∈ jv_T := jv_in 503 (by decide +kernel) (by decide +kernel)
theorem mw_504 : (Jvm.Cond.selects "TemperNurses$Course" ({ cls := "TemperNurses$Course", name := "ring", desc := "(I)I" } : Jvm.MethodName) ({ cls := "TemperNurses$Course", name := "ring", desc := "(I)I" } : Jvm.MethodName)) ∈ jv_T := jv_in 504 (by decide +kernel) (by decide +kernel)
theorem mw_505 : (Jvm.Cond.code ({ cls := "TemperNurses$Course", name := "ring", desc := "(I)I" } : Jvm.MethodName) prog_3_method_14_code (4 : Nat) (Option.some Jvm.ClassFile.FieldType.int)) ∈ jv_T := jv_in 505 (by decide +kernel) (by decide +kernel)
theorem mw_506 : (Jvm.Cond.methodLink "TemperNurses$Course" (51 : Nat) ({ cls := "TemperNurses$Course", name := "owner", desc := "(I)I" } : Jvm.MethodName)) ∈ jv_T := jv_in 506 (by decide +kernel) (by decide +kernel)
theorem mw_508 : (Jvm.Cond.instanceMethod ({ cls := "TemperNurses", name := "nurse", desc := "(II)I" } : Jvm.MethodName)) ∈ jv_T := jv_in 508 (by decide +kernel) (by decide +kernel)
theorem mw_509 : (Jvm.Cond.selects "TemperNurses" ({ cls := "TemperNurses", name := "nurse", desc := "(II)I" } : Jvm.MethodName) ({ cls := "TemperNurses", name := "nurse", desc := "(II)I" } : Jvm.MethodName)) ∈ jv_T := jv_in 509 (by decide +kernel) (by decide +kernel)
theorem mw_510 : (Jvm.Cond.code ({ cls := "TemperNurses", name := "nurse", desc := "(II)I" } : Jvm.MethodName) prog_1_method_6_code (3 : Nat) (Option.some Jvm.ClassFile.FieldType.int)) ∈ jv_T := jv_in 510 (by decide +kernel) (by decide +kernel)
theorem mw_511 : (Jvm.Cond.methodLink "TemperNurses" (137 : Nat) ({ cls := "TemperNurses$Hill", name := "hasNurse", desc := "(I)Z" } : Jvm.MethodName)) ∈ jv_T := jv_in 511 (by decide +kernel) (by decide +kernel)
theorem mw_512 : (Jvm.Cond.instanceMethod ({ cls := "TemperNurses$Hill", name := "hasNurse", desc := "(I)Z" } : Jvm.MethodName)) ∈ jv_T := jv_in 512 (by decide +kernel) (by decide +kernel)
theorem mw_513 : (Jvm.Cond.selects "TemperNurses$Hill" ({ cls := "TemperNurses$Hill", name := "hasNurse", desc := "(I)Z" } : Jvm.MethodName) ({ cls := "TemperNurses$Hill", name := "hasNurse", desc := "(I)Z" } : Jvm.MethodName)) ∈ jv_T := jv_in 513 (by decide +kernel) (by decide +kernel)
theorem mw_514 : (Jvm.Cond.code ({ cls := "TemperNurses$Hill", name := "hasNurse", desc := "(I)Z" } : Jvm.MethodName) prog_4_method_3_code (2 : Nat) (Option.some Jvm.ClassFile.FieldType.boolean)) ∈ jv_T := jv_in 514 (by decide +kernel) (by decide +kernel)
theorem mw_515 : (Jvm.Cond.methodLink "TemperNurses" (149 : Nat) ({ cls := "TemperNurses$House", name := "thoseWith", desc := "(I)I" } : Jvm.MethodName)) ∈ jv_T := jv_in 515 (by decide +kernel) (by decide +kernel)
theorem mw_516 : (Jvm.Cond.instanceMethod ({ cls := "TemperNurses$House", name := "thoseWith", desc := "(I)I" } : Jvm.MethodName)) ∈ jv_T := jv_in 516 (by decide +kernel) (by decide +kernel)
theorem mw_517 : (Jvm.Cond.selects "TemperNurses$House" ({ cls := "TemperNurses$House", name := "thoseWith", desc := "(I)I" } : Jvm.MethodName) ({ cls := "TemperNurses$House", name := "thoseWith", desc := "(I)I" } : Jvm.MethodName)) ∈ jv_T := jv_in 517 (by decide +kernel) (by decide +kernel)
theorem mw_518 : (Jvm.Cond.code ({ cls := "TemperNurses$House", name := "thoseWith", desc := "(I)I" } : Jvm.MethodName) prog_5_method_4_code (4 : Nat) (Option.some Jvm.ClassFile.FieldType.int)) ∈ jv_T := jv_in 518 (by decide +kernel) (by decide +kernel)
theorem mw_519 : (Jvm.Cond.methodLink "TemperNurses$House" (34 : Nat) ({ cls := "TemperNurses$Course", name := "place", desc := "(I)I" } : Jvm.MethodName)) ∈ jv_T := jv_in 519 (by decide +kernel) (by decide +kernel)
theorem mw_521 : (Jvm.Cond.methodLink "TemperNurses" (152 : Nat) ({ cls := "TemperNurses$House", name := "thoseThatMayBeSentTo", desc := "(I)I" } : Jvm.MethodName)) ∈ jv_T := jv_in 521 (by decide +kernel) (by decide +kernel)
theorem mw_522 : (Jvm.Cond.instanceMethod ({ cls := "TemperNurses$House", name := "thoseThatMayBeSentTo", desc := "(I)I" } : Jvm.MethodName)) ∈ jv_T := jv_in 522 (by decide +kernel) (by decide +kernel)
theorem mw_523 : (Jvm.Cond.selects "TemperNurses$House" ({ cls := "TemperNurses$House", name := "thoseThatMayBeSentTo", desc := "(I)I" } : Jvm.MethodName) ({ cls := "TemperNurses$House", name := "thoseThatMayBeSentTo", desc := "(I)I" } : Jvm.MethodName)) ∈ jv_T := jv_in 523 (by decide +kernel) (by decide +kernel)
theorem mw_524 : (Jvm.Cond.code ({ cls := "TemperNurses$House", name := "thoseThatMayBeSentTo", desc := "(I)I" } : Jvm.MethodName) prog_5_method_5_code (4 : Nat) (Option.some Jvm.ClassFile.FieldType.int)) ∈ jv_T := jv_in 524 (by decide +kernel) (by decide +kernel)
theorem mw_525 : (Jvm.Cond.methodLink "TemperNurses$House" (37 : Nat) ({ cls := "TemperNurses$House", name := "mayBeSent", desc := "(II)Z" } : Jvm.MethodName)) ∈ jv_T := jv_in 525 (by decide +kernel) (by decide +kernel)
theorem mw_526 : (Jvm.Cond.instanceMethod ({ cls := "TemperNurses$House", name := "mayBeSent", desc := "(II)Z" } : Jvm.MethodName)) ∈ jv_T := jv_in 526 (by decide +kernel) (by decide +kernel)
theorem mw_527 : (Jvm.Cond.selects "TemperNurses$House" ({ cls := "TemperNurses$House", name := "mayBeSent", desc := "(II)Z" } : Jvm.MethodName) ({ cls := "TemperNurses$House", name := "mayBeSent", desc := "(II)Z" } : Jvm.MethodName)) ∈ jv_T := jv_in 527 (by decide +kernel) (by decide +kernel)
theorem mw_528 : (Jvm.Cond.code ({ cls := "TemperNurses$House", name := "mayBeSent", desc := "(II)Z" } : Jvm.MethodName) prog_5_method_6_code (3 : Nat) (Option.some Jvm.ClassFile.FieldType.boolean)) ∈ jv_T := jv_in 528 (by decide +kernel) (by decide +kernel)
theorem mw_529 : (Jvm.Cond.methodLink "TemperNurses$House" (41 : Nat) ({ cls := "TemperNurses$House", name := "thoseWith", desc := "(I)I" } : Jvm.MethodName)) ∈ jv_T := jv_in 529 (by decide +kernel) (by decide +kernel)
theorem mw_530 : (Jvm.Cond.methodLink "TemperNurses$House" (44 : Nat) ({ cls := "TemperNurses$House", name := "mayJoin", desc := "(III)Z" } : Jvm.MethodName)) ∈ jv_T := jv_in 530 (by decide +kernel) (by decide +kernel)
theorem mw_531 : (Jvm.Cond.instanceMethod ({ cls := "TemperNurses$House", name := "mayJoin", desc := "(III)Z" } : Jvm.MethodName)) ∈ jv_T := jv_in 531 (by decide +kernel) (by decide +kernel)
theorem mw_532 : (Jvm.Cond.selects "TemperNurses$House" ({ cls := "TemperNurses$House", name := "mayJoin", desc := "(III)Z" } : Jvm.MethodName) ({ cls := "TemperNurses$House", name := "mayJoin", desc := "(III)Z" } : Jvm.MethodName)) ∈ jv_T := jv_in 532 (by decide +kernel) (by decide +kernel)
theorem mw_533 : (Jvm.Cond.code ({ cls := "TemperNurses$House", name := "mayJoin", desc := "(III)Z" } : Jvm.MethodName) prog_5_method_7_code (4 : Nat) (Option.some Jvm.ClassFile.FieldType.boolean)) ∈ jv_T := jv_in 533 (by decide +kernel) (by decide +kernel)
theorem mw_534 : (Jvm.Cond.methodLink "TemperNurses$House" (48 : Nat) ({ cls := "TemperNurses$Hill", name := "hasTemper", desc := "(I)Z" } : Jvm.MethodName)) ∈ jv_T := jv_in 534 (by decide +kernel) (by decide +kernel)
theorem mw_535 : (Jvm.Cond.methodLink "TemperNurses$House" (52 : Nat) ({ cls := "TemperNurses$Hill", name := "hasNurse", desc := "(I)Z" } : Jvm.MethodName)) ∈ jv_T := jv_in 535 (by decide +kernel) (by decide +kernel)
theorem mw_536 : (Jvm.Cond.methodLink "TemperNurses$House" (25 : Nat) ({ cls := "TemperNurses$Course", name := "heat", desc := "(I)I" } : Jvm.MethodName)) ∈ jv_T := jv_in 536 (by decide +kernel) (by decide +kernel)
theorem mw_537 : (Jvm.Cond.methodLink "TemperNurses$House" (59 : Nat) ({ cls := "java/lang/Integer", name := "bitCount", desc := "(I)I" } : Jvm.MethodName)) ∈ jv_T := jv_in 537 (by decide +kernel) (by decide +kernel)
theorem mw_538 : (Jvm.Cond.static ({ cls := "java/lang/Integer", name := "bitCount", desc := "(I)I" } : Jvm.MethodName)) ∈ jv_T := jv_in 538 (by decide +kernel) (by decide +kernel)
theorem mw_539 : (Jvm.Cond.code ({ cls := "java/lang/Integer", name := "bitCount", desc := "(I)I" } : Jvm.MethodName) prog_12_method_49_code (1 : Nat) (Option.some Jvm.ClassFile.FieldType.int)) ∈ jv_T := jv_in 539 (by decide +kernel) (by decide +kernel)
theorem mw_540 : (Jvm.Cond.constant "java/lang/Integer" (265 : Nat) (1431655765 : Int32)) ∈ jv_T := jv_in 540 (by decide +kernel) (by decide +kernel)
theorem mw_541 : (Jvm.Cond.constant "java/lang/Integer" (266 : Nat) (858993459 : Int32)) ∈ jv_T := jv_in 541 (by decide +kernel) (by decide +kernel)
theorem mw_542 : (Jvm.Cond.constant "java/lang/Integer" (267 : Nat) (252645135 : Int32)) ∈ jv_T := jv_in 542 (by decide +kernel) (by decide +kernel)
theorem mw_544 : (Jvm.Cond.instanceMethod ({ cls := "TemperNurses", name := "sends", desc := "(II)I" } : Jvm.MethodName)) ∈ jv_T := jv_in 544 (by decide +kernel) (by decide +kernel)
theorem mw_545 : (Jvm.Cond.selects "TemperNurses" ({ cls := "TemperNurses", name := "sends", desc := "(II)I" } : Jvm.MethodName) ({ cls := "TemperNurses", name := "sends", desc := "(II)I" } : Jvm.MethodName)) ∈ jv_T := jv_in 545 (by decide +kernel) (by decide +kernel)
theorem mw_546 : (Jvm.Cond.code ({ cls := "TemperNurses", name := "sends", desc := "(II)I" } : Jvm.MethodName) prog_1_method_7_code (3 : Nat) (Option.some Jvm.ClassFile.FieldType.int)) ∈ jv_T := jv_in 546 (by decide +kernel) (by decide +kernel)
theorem mw_547 : (Jvm.Cond.methodLink "TemperNurses" (155 : Nat) ({ cls := "TemperNurses$House", name := "mayBeSent", desc := "(II)Z" } : Jvm.MethodName)) ∈ jv_T := jv_in 547 (by decide +kernel) (by decide +kernel)
theorem mw_548 : (Jvm.Cond.methodLink "TemperNurses" (159 : Nat) ({ cls := "TemperNurses$Course", name := "remember", desc := "()V" } : Jvm.MethodName)) ∈ jv_T := jv_in 548 (by decide +kernel) (by decide +kernel)
theorem mw_549 : (Jvm.Cond.instanceMethod ({ cls := "TemperNurses$Course", name := "remember", desc := "()V" } : Jvm.MethodName)) ∈ jv_T := jv_in 549 (by decide +kernel) (by decide +kernel)
theorem mw_550 : (Jvm.Cond.selects "TemperNurses$Course" ({ cls := "TemperNurses$Course", name := "remember", desc := "()V" } : Jvm.MethodName) ({ cls := "TemperNurses$Course", name := "remember", desc := "()V" } : Jvm.MethodName)) ∈ jv_T := jv_in 550 (by decide +kernel) (by decide +kernel)
theorem mw_551 : (Jvm.Cond.code ({ cls := "TemperNurses$Course", name := "remember", desc := "()V" } : Jvm.MethodName) prog_3_method_4_code (1 : Nat) (Option.none : Option Jvm.ClassFile.FieldType)) ∈ jv_T := jv_in 551 (by decide +kernel) (by decide +kernel)
theorem mw_552 : (Jvm.Cond.methodLink "TemperNurses$Course" (38 : Nat) ({ cls := "java/lang/System", name := "arraycopy", desc := "(Ljava/lang/Object;ILjava/lang/Object;II)V" } : Jvm.MethodName)) ∈ jv_T := jv_in 552 (by decide +kernel) (by decide +kernel)
theorem mw_553 : (Jvm.Cond.methodLink "TemperNurses" (162 : Nat) ({ cls := "TemperNurses$Course", name := "setPlace", desc := "(II)V" } : Jvm.MethodName)) ∈ jv_T := jv_in 553 (by decide +kernel) (by decide +kernel)
theorem mw_554 : (Jvm.Cond.methodLink "TemperNurses" (166 : Nat) ({ cls := "java/lang/Integer", name := "bitCount", desc := "(I)I" } : Jvm.MethodName)) ∈ jv_T := jv_in 554 (by decide +kernel) (by decide +kernel)
theorem mw_556 : (Jvm.Cond.instanceMethod ({ cls := "TemperNurses", name := "fetches", desc := "(I)I" } : Jvm.MethodName)) ∈ jv_T := jv_in 556 (by decide +kernel) (by decide +kernel)
theorem mw_557 : (Jvm.Cond.selects "TemperNurses" ({ cls := "TemperNurses", name := "fetches", desc := "(I)I" } : Jvm.MethodName) ({ cls := "TemperNurses", name := "fetches", desc := "(I)I" } : Jvm.MethodName)) ∈ jv_T := jv_in 557 (by decide +kernel) (by decide +kernel)
theorem mw_558 : (Jvm.Cond.code ({ cls := "TemperNurses", name := "fetches", desc := "(I)I" } : Jvm.MethodName) prog_1_method_8_code (3 : Nat) (Option.some Jvm.ClassFile.FieldType.int)) ∈ jv_T := jv_in 558 (by decide +kernel) (by decide +kernel)
theorem mw_560 : (Jvm.Cond.instanceMethod ({ cls := "TemperNurses", name := "visits", desc := "(I)I" } : Jvm.MethodName)) ∈ jv_T := jv_in 560 (by decide +kernel) (by decide +kernel)
theorem mw_561 : (Jvm.Cond.selects "TemperNurses" ({ cls := "TemperNurses", name := "visits", desc := "(I)I" } : Jvm.MethodName) ({ cls := "TemperNurses", name := "visits", desc := "(I)I" } : Jvm.MethodName)) ∈ jv_T := jv_in 561 (by decide +kernel) (by decide +kernel)
theorem mw_562 : (Jvm.Cond.code ({ cls := "TemperNurses", name := "visits", desc := "(I)I" } : Jvm.MethodName) prog_1_method_9_code (3 : Nat) (Option.some Jvm.ClassFile.FieldType.int)) ∈ jv_T := jv_in 562 (by decide +kernel) (by decide +kernel)
theorem mw_563 : (Jvm.Cond.methodLink "TemperNurses" (171 : Nat) ({ cls := "TemperNurses$Course", name := "setHeat", desc := "(II)V" } : Jvm.MethodName)) ∈ jv_T := jv_in 563 (by decide +kernel) (by decide +kernel)
theorem mw_565 : (Jvm.Cond.instanceMethod ({ cls := "TemperNurses", name := "mixes", desc := "(II)I" } : Jvm.MethodName)) ∈ jv_T := jv_in 565 (by decide +kernel) (by decide +kernel)
theorem mw_566 : (Jvm.Cond.selects "TemperNurses" ({ cls := "TemperNurses", name := "mixes", desc := "(II)I" } : Jvm.MethodName) ({ cls := "TemperNurses", name := "mixes", desc := "(II)I" } : Jvm.MethodName)) ∈ jv_T := jv_in 566 (by decide +kernel) (by decide +kernel)
theorem mw_567 : (Jvm.Cond.code ({ cls := "TemperNurses", name := "mixes", desc := "(II)I" } : Jvm.MethodName) prog_1_method_10_code (4 : Nat) (Option.some Jvm.ClassFile.FieldType.int)) ∈ jv_T := jv_in 567 (by decide +kernel) (by decide +kernel)
theorem mw_568 : (Jvm.Cond.methodLink "TemperNurses" (174 : Nat) ({ cls := "TemperNurses$Course", name := "setOwner", desc := "(II)V" } : Jvm.MethodName)) ∈ jv_T := jv_in 568 (by decide +kernel) (by decide +kernel)
theorem mw_569 : (Jvm.Cond.methodLink "TemperNurses" (180 : Nat) ({ cls := "TemperNurses$Course", name := "mixesToRight", desc := "(I)I" } : Jvm.MethodName)) ∈ jv_T := jv_in 569 (by decide +kernel) (by decide +kernel)
theorem mw_570 : (Jvm.Cond.instanceMethod ({ cls := "TemperNurses$Course", name := "mixesToRight", desc := "(I)I" } : Jvm.MethodName)) ∈ jv_T := jv_in 570 (by decide +kernel) (by decide +kernel)
theorem mw_571 : (Jvm.Cond.selects "TemperNurses$Course" ({ cls := "TemperNurses$Course", name := "mixesToRight", desc := "(I)I" } : Jvm.MethodName) ({ cls := "TemperNurses$Course", name := "mixesToRight", desc := "(I)I" } : Jvm.MethodName)) ∈ jv_T := jv_in 571 (by decide +kernel) (by decide +kernel)
theorem mw_572 : (Jvm.Cond.code ({ cls := "TemperNurses$Course", name := "mixesToRight", desc := "(I)I" } : Jvm.MethodName) prog_3_method_15_code (4 : Nat) (Option.some Jvm.ClassFile.FieldType.int)) ∈ jv_T := jv_in 572 (by decide +kernel) (by decide +kernel)
theorem mw_573 : (Jvm.Cond.methodLink "TemperNurses$Course" (54 : Nat) ({ cls := "TemperNurses$Course", name := "isLowestOfRing", desc := "(I)Z" } : Jvm.MethodName)) ∈ jv_T := jv_in 573 (by decide +kernel) (by decide +kernel)
theorem mw_575 : (Jvm.Cond.instanceMethod ({ cls := "TemperNurses$Course", name := "isLowestOfRing", desc := "(I)Z" } : Jvm.MethodName)) ∈ jv_T := jv_in 575 (by decide +kernel) (by decide +kernel)
theorem mw_576 : (Jvm.Cond.code ({ cls := "TemperNurses$Course", name := "isLowestOfRing", desc := "(I)Z" } : Jvm.MethodName) prog_3_method_16_code (4 : Nat) (Option.some Jvm.ClassFile.FieldType.boolean)) ∈ jv_T := jv_in 576 (by decide +kernel) (by decide +kernel)
theorem mw_578 : (Jvm.Cond.instanceMethod ({ cls := "TemperNurses", name := "years", desc := "(I)I" } : Jvm.MethodName)) ∈ jv_T := jv_in 578 (by decide +kernel) (by decide +kernel)
theorem mw_579 : (Jvm.Cond.selects "TemperNurses" ({ cls := "TemperNurses", name := "years", desc := "(I)I" } : Jvm.MethodName) ({ cls := "TemperNurses", name := "years", desc := "(I)I" } : Jvm.MethodName)) ∈ jv_T := jv_in 579 (by decide +kernel) (by decide +kernel)
theorem mw_580 : (Jvm.Cond.code ({ cls := "TemperNurses", name := "years", desc := "(I)I" } : Jvm.MethodName) prog_1_method_11_code (3 : Nat) (Option.some Jvm.ClassFile.FieldType.int)) ∈ jv_T := jv_in 580 (by decide +kernel) (by decide +kernel)
theorem mw_581 : (Jvm.Cond.methodLink "TemperNurses" (183 : Nat) ({ cls := "TemperNurses$Course", name := "year", desc := "()I" } : Jvm.MethodName)) ∈ jv_T := jv_in 581 (by decide +kernel) (by decide +kernel)
theorem mw_582 : (Jvm.Cond.instanceMethod ({ cls := "TemperNurses$Course", name := "year", desc := "()I" } : Jvm.MethodName)) ∈ jv_T := jv_in 582 (by decide +kernel) (by decide +kernel)
theorem mw_583 : (Jvm.Cond.selects "TemperNurses$Course" ({ cls := "TemperNurses$Course", name := "year", desc := "()I" } : Jvm.MethodName) ({ cls := "TemperNurses$Course", name := "year", desc := "()I" } : Jvm.MethodName)) ∈ jv_T := jv_in 583 (by decide +kernel) (by decide +kernel)
theorem mw_584 : (Jvm.Cond.code ({ cls := "TemperNurses$Course", name := "year", desc := "()I" } : Jvm.MethodName) prog_3_method_6_code (1 : Nat) (Option.some Jvm.ClassFile.FieldType.int)) ∈ jv_T := jv_in 584 (by decide +kernel) (by decide +kernel)
theorem mw_585 : (Jvm.Cond.methodLink "TemperNurses" (186 : Nat) ({ cls := "TemperNurses$House", name := "heatIn", desc := "(II)I" } : Jvm.MethodName)) ∈ jv_T := jv_in 585 (by decide +kernel) (by decide +kernel)
theorem mw_586 : (Jvm.Cond.instanceMethod ({ cls := "TemperNurses$House", name := "heatIn", desc := "(II)I" } : Jvm.MethodName)) ∈ jv_T := jv_in 586 (by decide +kernel) (by decide +kernel)
theorem mw_587 : (Jvm.Cond.selects "TemperNurses$House" ({ cls := "TemperNurses$House", name := "heatIn", desc := "(II)I" } : Jvm.MethodName) ({ cls := "TemperNurses$House", name := "heatIn", desc := "(II)I" } : Jvm.MethodName)) ∈ jv_T := jv_in 587 (by decide +kernel) (by decide +kernel)
theorem mw_588 : (Jvm.Cond.code ({ cls := "TemperNurses$House", name := "heatIn", desc := "(II)I" } : Jvm.MethodName) prog_5_method_8_code (7 : Nat) (Option.some Jvm.ClassFile.FieldType.int)) ∈ jv_T := jv_in 588 (by decide +kernel) (by decide +kernel)
theorem mw_589 : (Jvm.Cond.methodLink "TemperNurses$House" (76 : Nat) ({ cls := "TemperNurses$House", name := "heatNextYear", desc := "(III)I" } : Jvm.MethodName)) ∈ jv_T := jv_in 589 (by decide +kernel) (by decide +kernel)
theorem mw_590 : (Jvm.Cond.static ({ cls := "TemperNurses$House", name := "heatNextYear", desc := "(III)I" } : Jvm.MethodName)) ∈ jv_T := jv_in 590 (by decide +kernel) (by decide +kernel)
theorem mw_591 : (Jvm.Cond.code ({ cls := "TemperNurses$House", name := "heatNextYear", desc := "(III)I" } : Jvm.MethodName) prog_5_method_11_code (3 : Nat) (Option.some Jvm.ClassFile.FieldType.int)) ∈ jv_T := jv_in 591 (by decide +kernel) (by decide +kernel)
theorem mw_592 : (Jvm.Cond.methodLink "TemperNurses$House" (96 : Nat) ({ cls := "java/lang/Math", name := "min", desc := "(II)I" } : Jvm.MethodName)) ∈ jv_T := jv_in 592 (by decide +kernel) (by decide +kernel)
theorem mw_593 : (Jvm.Cond.static ({ cls := "java/lang/Math", name := "min", desc := "(II)I" } : Jvm.MethodName)) ∈ jv_T := jv_in 593 (by decide +kernel) (by decide +kernel)
theorem mw_594 : (Jvm.Cond.code ({ cls := "java/lang/Math", name := "min", desc := "(II)I" } : Jvm.MethodName) prog_13_method_69_code (2 : Nat) (Option.some Jvm.ClassFile.FieldType.int)) ∈ jv_T := jv_in 594 (by decide +kernel) (by decide +kernel)
theorem mw_595 : (Jvm.Cond.methodLink "TemperNurses$House" (84 : Nat) ({ cls := "java/lang/Math", name := "max", desc := "(II)I" } : Jvm.MethodName)) ∈ jv_T := jv_in 595 (by decide +kernel) (by decide +kernel)
theorem mw_596 : (Jvm.Cond.static ({ cls := "java/lang/Math", name := "max", desc := "(II)I" } : Jvm.MethodName)) ∈ jv_T := jv_in 596 (by decide +kernel) (by decide +kernel)
theorem mw_597 : (Jvm.Cond.code ({ cls := "java/lang/Math", name := "max", desc := "(II)I" } : Jvm.MethodName) prog_13_method_65_code (2 : Nat) (Option.some Jvm.ClassFile.FieldType.int)) ∈ jv_T := jv_in 597 (by decide +kernel) (by decide +kernel)
theorem mw_598 : (Jvm.Cond.methodLink "TemperNurses" (190 : Nat) ({ cls := "TemperNurses$Course", name := "setYear", desc := "(I)V" } : Jvm.MethodName)) ∈ jv_T := jv_in 598 (by decide +kernel) (by decide +kernel)
theorem mw_599 : (Jvm.Cond.methodLink "TemperNurses" (194 : Nat) ({ cls := "TemperNurses$House", name := "broken", desc := "()I" } : Jvm.MethodName)) ∈ jv_T := jv_in 599 (by decide +kernel) (by decide +kernel)
theorem mw_600 : (Jvm.Cond.instanceMethod ({ cls := "TemperNurses$House", name := "broken", desc := "()I" } : Jvm.MethodName)) ∈ jv_T := jv_in 600 (by decide +kernel) (by decide +kernel)
theorem mw_601 : (Jvm.Cond.selects "TemperNurses$House" ({ cls := "TemperNurses$House", name := "broken", desc := "()I" } : Jvm.MethodName) ({ cls := "TemperNurses$House", name := "broken", desc := "()I" } : Jvm.MethodName)) ∈ jv_T := jv_in 601 (by decide +kernel) (by decide +kernel)
theorem mw_602 : (Jvm.Cond.code ({ cls := "TemperNurses$House", name := "broken", desc := "()I" } : Jvm.MethodName) prog_5_method_2_code (3 : Nat) (Option.some Jvm.ClassFile.FieldType.int)) ∈ jv_T := jv_in 602 (by decide +kernel) (by decide +kernel)
theorem mw_604 : (Jvm.Cond.instanceMethod ({ cls := "TemperNurses", name := "undo", desc := "()I" } : Jvm.MethodName)) ∈ jv_T := jv_in 604 (by decide +kernel) (by decide +kernel)
theorem mw_605 : (Jvm.Cond.selects "TemperNurses" ({ cls := "TemperNurses", name := "undo", desc := "()I" } : Jvm.MethodName) ({ cls := "TemperNurses", name := "undo", desc := "()I" } : Jvm.MethodName)) ∈ jv_T := jv_in 605 (by decide +kernel) (by decide +kernel)
theorem mw_606 : (Jvm.Cond.code ({ cls := "TemperNurses", name := "undo", desc := "()I" } : Jvm.MethodName) prog_1_method_12_code (1 : Nat) (Option.some Jvm.ClassFile.FieldType.int)) ∈ jv_T := jv_in 606 (by decide +kernel) (by decide +kernel)
theorem mw_607 : (Jvm.Cond.methodLink "TemperNurses" (197 : Nat) ({ cls := "TemperNurses$Course", name := "stepBack", desc := "()Z" } : Jvm.MethodName)) ∈ jv_T := jv_in 607 (by decide +kernel) (by decide +kernel)
theorem mw_608 : (Jvm.Cond.instanceMethod ({ cls := "TemperNurses$Course", name := "stepBack", desc := "()Z" } : Jvm.MethodName)) ∈ jv_T := jv_in 608 (by decide +kernel) (by decide +kernel)
theorem mw_609 : (Jvm.Cond.selects "TemperNurses$Course" ({ cls := "TemperNurses$Course", name := "stepBack", desc := "()Z" } : Jvm.MethodName) ({ cls := "TemperNurses$Course", name := "stepBack", desc := "()Z" } : Jvm.MethodName)) ∈ jv_T := jv_in 609 (by decide +kernel) (by decide +kernel)
theorem mw_610 : (Jvm.Cond.code ({ cls := "TemperNurses$Course", name := "stepBack", desc := "()Z" } : Jvm.MethodName) prog_3_method_5_code (1 : Nat) (Option.some Jvm.ClassFile.FieldType.boolean)) ∈ jv_T := jv_in 610 (by decide +kernel) (by decide +kernel)
theorem mw_612 : (Jvm.Cond.instanceMethod ({ cls := "TemperNurses", name := "now", desc := "(I)I" } : Jvm.MethodName)) ∈ jv_T := jv_in 612 (by decide +kernel) (by decide +kernel)
theorem mw_613 : (Jvm.Cond.selects "TemperNurses" ({ cls := "TemperNurses", name := "now", desc := "(I)I" } : Jvm.MethodName) ({ cls := "TemperNurses", name := "now", desc := "(I)I" } : Jvm.MethodName)) ∈ jv_T := jv_in 613 (by decide +kernel) (by decide +kernel)
theorem mw_614 : (Jvm.Cond.code ({ cls := "TemperNurses", name := "now", desc := "(I)I" } : Jvm.MethodName) prog_1_method_13_code (2 : Nat) (Option.some Jvm.ClassFile.FieldType.int)) ∈ jv_T := jv_in 614 (by decide +kernel) (by decide +kernel)
theorem mw_615 : (Jvm.Cond.methodLink "TemperNurses" (204 : Nat) ({ cls := "TemperNurses$Planner", name := "soonest", desc := "()I" } : Jvm.MethodName)) ∈ jv_T := jv_in 615 (by decide +kernel) (by decide +kernel)
theorem mw_616 : (Jvm.Cond.instanceMethod ({ cls := "TemperNurses$Planner", name := "soonest", desc := "()I" } : Jvm.MethodName)) ∈ jv_T := jv_in 616 (by decide +kernel) (by decide +kernel)
theorem mw_617 : (Jvm.Cond.selects "TemperNurses$Planner" ({ cls := "TemperNurses$Planner", name := "soonest", desc := "()I" } : Jvm.MethodName) ({ cls := "TemperNurses$Planner", name := "soonest", desc := "()I" } : Jvm.MethodName)) ∈ jv_T := jv_in 617 (by decide +kernel) (by decide +kernel)
theorem mw_618 : (Jvm.Cond.code ({ cls := "TemperNurses$Planner", name := "soonest", desc := "()I" } : Jvm.MethodName) prog_8_method_3_code (3 : Nat) (Option.some Jvm.ClassFile.FieldType.int)) ∈ jv_T := jv_in 618 (by decide +kernel) (by decide +kernel)
theorem mw_619 : (Jvm.Cond.methodLink "TemperNurses$Planner" (56 : Nat) ({ cls := "TemperNurses$House", name := "yearsTillBroken", desc := "(II)I" } : Jvm.MethodName)) ∈ jv_T := jv_in 619 (by decide +kernel) (by decide +kernel)
theorem mw_620 : (Jvm.Cond.instanceMethod ({ cls := "TemperNurses$House", name := "yearsTillBroken", desc := "(II)I" } : Jvm.MethodName)) ∈ jv_T := jv_in 620 (by decide +kernel) (by decide +kernel)
theorem mw_621 : (Jvm.Cond.selects "TemperNurses$House" ({ cls := "TemperNurses$House", name := "yearsTillBroken", desc := "(II)I" } : Jvm.MethodName) ({ cls := "TemperNurses$House", name := "yearsTillBroken", desc := "(II)I" } : Jvm.MethodName)) ∈ jv_T := jv_in 621 (by decide +kernel) (by decide +kernel)
theorem mw_622 : (Jvm.Cond.code ({ cls := "TemperNurses$House", name := "yearsTillBroken", desc := "(II)I" } : Jvm.MethodName) prog_5_method_9_code (5 : Nat) (Option.some Jvm.ClassFile.FieldType.int)) ∈ jv_T := jv_in 622 (by decide +kernel) (by decide +kernel)
theorem mw_623 : (Jvm.Cond.methodLink "TemperNurses$Planner" (32 : Nat) ({ cls := "java/util/Arrays", name := "fill", desc := "([II)V" } : Jvm.MethodName)) ∈ jv_T := jv_in 623 (by decide +kernel) (by decide +kernel)
theorem mw_624 : (Jvm.Cond.methodLink "TemperNurses$Planner" (63 : Nat) ({ cls := "TemperNurses$Planner", name := "tryYears", desc := "(II)V" } : Jvm.MethodName)) ∈ jv_T := jv_in 624 (by decide +kernel) (by decide +kernel)
theorem mw_626 : (Jvm.Cond.instanceMethod ({ cls := "TemperNurses$Planner", name := "tryYears", desc := "(II)V" } : Jvm.MethodName)) ∈ jv_T := jv_in 626 (by decide +kernel) (by decide +kernel)
theorem mw_627 : (Jvm.Cond.code ({ cls := "TemperNurses$Planner", name := "tryYears", desc := "(II)V" } : Jvm.MethodName) prog_8_method_5_code (6 : Nat) (Option.none : Option Jvm.ClassFile.FieldType)) ∈ jv_T := jv_in 627 (by decide +kernel) (by decide +kernel)
theorem mw_628 : (Jvm.Cond.methodLink "TemperNurses$Planner" (84 : Nat) ({ cls := "TemperNurses$Course", name := "heat", desc := "(I)I" } : Jvm.MethodName)) ∈ jv_T := jv_in 628 (by decide +kernel) (by decide +kernel)
theorem mw_629 : (Jvm.Cond.methodLink "TemperNurses$Planner" (72 : Nat) ({ cls := "TemperNurses$House", name := "mayJoin", desc := "(III)Z" } : Jvm.MethodName)) ∈ jv_T := jv_in 629 (by decide +kernel) (by decide +kernel)
theorem mw_631 : (Jvm.Cond.methodLink "TemperNurses$Planner" (89 : Nat) ({ cls := "java/lang/Math", name := "max", desc := "(II)I" } : Jvm.MethodName)) ∈ jv_T := jv_in 631 (by decide +kernel) (by decide +kernel)
theorem mw_632 : (Jvm.Cond.methodLink "TemperNurses" (207 : Nat) ({ cls := "TemperNurses$House", name := "heatOfAll", desc := "()I" } : Jvm.MethodName)) ∈ jv_T := jv_in 632 (by decide +kernel) (by decide +kernel)
theorem mw_633 : (Jvm.Cond.instanceMethod ({ cls := "TemperNurses$House", name := "heatOfAll", desc := "()I" } : Jvm.MethodName)) ∈ jv_T := jv_in 633 (by decide +kernel) (by decide +kernel)
theorem mw_634 : (Jvm.Cond.selects "TemperNurses$House" ({ cls := "TemperNurses$House", name := "heatOfAll", desc := "()I" } : Jvm.MethodName) ({ cls := "TemperNurses$House", name := "heatOfAll", desc := "()I" } : Jvm.MethodName)) ∈ jv_T := jv_in 634 (by decide +kernel) (by decide +kernel)
theorem mw_635 : (Jvm.Cond.code ({ cls := "TemperNurses$House", name := "heatOfAll", desc := "()I" } : Jvm.MethodName) prog_5_method_3_code (3 : Nat) (Option.some Jvm.ClassFile.FieldType.int)) ∈ jv_T := jv_in 635 (by decide +kernel) (by decide +kernel)
theorem mw_637 : (Jvm.Cond.instanceMethod ({ cls := "TemperNurses", name := "when", desc := "(II)I" } : Jvm.MethodName)) ∈ jv_T := jv_in 637 (by decide +kernel) (by decide +kernel)
theorem mw_638 : (Jvm.Cond.selects "TemperNurses" ({ cls := "TemperNurses", name := "when", desc := "(II)I" } : Jvm.MethodName) ({ cls := "TemperNurses", name := "when", desc := "(II)I" } : Jvm.MethodName)) ∈ jv_T := jv_in 638 (by decide +kernel) (by decide +kernel)
theorem mw_639 : (Jvm.Cond.code ({ cls := "TemperNurses", name := "when", desc := "(II)I" } : Jvm.MethodName) prog_1_method_14_code (3 : Nat) (Option.some Jvm.ClassFile.FieldType.int)) ∈ jv_T := jv_in 639 (by decide +kernel) (by decide +kernel)
theorem mw_640 : (Jvm.Cond.methodLink "TemperNurses" (210 : Nat) ({ cls := "TemperNurses$House", name := "yearsTillBroken", desc := "(II)I" } : Jvm.MethodName)) ∈ jv_T := jv_in 640 (by decide +kernel) (by decide +kernel)
theorem mw_642 : (Jvm.Cond.instanceMethod ({ cls := "TemperNurses", name := "hot", desc := "(II)I" } : Jvm.MethodName)) ∈ jv_T := jv_in 642 (by decide +kernel) (by decide +kernel)
theorem mw_643 : (Jvm.Cond.selects "TemperNurses" ({ cls := "TemperNurses", name := "hot", desc := "(II)I" } : Jvm.MethodName) ({ cls := "TemperNurses", name := "hot", desc := "(II)I" } : Jvm.MethodName)) ∈ jv_T := jv_in 643 (by decide +kernel) (by decide +kernel)
theorem mw_644 : (Jvm.Cond.code ({ cls := "TemperNurses", name := "hot", desc := "(II)I" } : Jvm.MethodName) prog_1_method_15_code (3 : Nat) (Option.some Jvm.ClassFile.FieldType.int)) ∈ jv_T := jv_in 644 (by decide +kernel) (by decide +kernel)
theorem mw_646 : (Jvm.Cond.instanceMethod ({ cls := "TemperNurses", name := "plan", desc := "(I)I" } : Jvm.MethodName)) ∈ jv_T := jv_in 646 (by decide +kernel) (by decide +kernel)
theorem mw_647 : (Jvm.Cond.selects "TemperNurses" ({ cls := "TemperNurses", name := "plan", desc := "(I)I" } : Jvm.MethodName) ({ cls := "TemperNurses", name := "plan", desc := "(I)I" } : Jvm.MethodName)) ∈ jv_T := jv_in 647 (by decide +kernel) (by decide +kernel)
theorem mw_648 : (Jvm.Cond.code ({ cls := "TemperNurses", name := "plan", desc := "(I)I" } : Jvm.MethodName) prog_1_method_16_code (2 : Nat) (Option.some Jvm.ClassFile.FieldType.int)) ∈ jv_T := jv_in 648 (by decide +kernel) (by decide +kernel)
theorem mw_649 : (Jvm.Cond.methodLink "TemperNurses" (213 : Nat) ({ cls := "TemperNurses$Planner", name := "findPlan", desc := "()V" } : Jvm.MethodName)) ∈ jv_T := jv_in 649 (by decide +kernel) (by decide +kernel)
theorem mw_650 : (Jvm.Cond.instanceMethod ({ cls := "TemperNurses$Planner", name := "findPlan", desc := "()V" } : Jvm.MethodName)) ∈ jv_T := jv_in 650 (by decide +kernel) (by decide +kernel)
theorem mw_651 : (Jvm.Cond.selects "TemperNurses$Planner" ({ cls := "TemperNurses$Planner", name := "findPlan", desc := "()V" } : Jvm.MethodName) ({ cls := "TemperNurses$Planner", name := "findPlan", desc := "()V" } : Jvm.MethodName)) ∈ jv_T := jv_in 651 (by decide +kernel) (by decide +kernel)
theorem mw_652 : (Jvm.Cond.code ({ cls := "TemperNurses$Planner", name := "findPlan", desc := "()V" } : Jvm.MethodName) prog_8_method_2_code (1 : Nat) (Option.none : Option Jvm.ClassFile.FieldType)) ∈ jv_T := jv_in 652 (by decide +kernel) (by decide +kernel)
theorem mw_653 : (Jvm.Cond.methodLink "TemperNurses$Planner" (38 : Nat) ({ cls := "TemperNurses$Planner", name := "tryPlaces", desc := "(II)V" } : Jvm.MethodName)) ∈ jv_T := jv_in 653 (by decide +kernel) (by decide +kernel)
theorem mw_655 : (Jvm.Cond.instanceMethod ({ cls := "TemperNurses$Planner", name := "tryPlaces", desc := "(II)V" } : Jvm.MethodName)) ∈ jv_T := jv_in 655 (by decide +kernel) (by decide +kernel)
theorem mw_656 : (Jvm.Cond.code ({ cls := "TemperNurses$Planner", name := "tryPlaces", desc := "(II)V" } : Jvm.MethodName) prog_8_method_4_code (5 : Nat) (Option.none : Option Jvm.ClassFile.FieldType)) ∈ jv_T := jv_in 656 (by decide +kernel) (by decide +kernel)
theorem mw_657 : (Jvm.Cond.methodLink "TemperNurses$Planner" (66 : Nat) ({ cls := "java/lang/System", name := "arraycopy", desc := "(Ljava/lang/Object;ILjava/lang/Object;II)V" } : Jvm.MethodName)) ∈ jv_T := jv_in 657 (by decide +kernel) (by decide +kernel)
theorem mw_659 : (Jvm.Cond.instanceMethod ({ cls := "TemperNurses", name := "best", desc := "(II)I" } : Jvm.MethodName)) ∈ jv_T := jv_in 659 (by decide +kernel) (by decide +kernel)
theorem mw_660 : (Jvm.Cond.selects "TemperNurses" ({ cls := "TemperNurses", name := "best", desc := "(II)I" } : Jvm.MethodName) ({ cls := "TemperNurses", name := "best", desc := "(II)I" } : Jvm.MethodName)) ∈ jv_T := jv_in 660 (by decide +kernel) (by decide +kernel)
theorem mw_661 : (Jvm.Cond.code ({ cls := "TemperNurses", name := "best", desc := "(II)I" } : Jvm.MethodName) prog_1_method_17_code (7 : Nat) (Option.some Jvm.ClassFile.FieldType.int)) ∈ jv_T := jv_in 661 (by decide +kernel) (by decide +kernel)
theorem mw_662 : (Jvm.Cond.constant "TemperNurses" (222 : Nat) (-1000000 : Int32)) ∈ jv_T := jv_in 662 (by decide +kernel) (by decide +kernel)
theorem mw_663 : (Jvm.Cond.methodLink "TemperNurses" (223 : Nat) ({ cls := "TemperNurses$House", name := "worthOfFetching", desc := "(II)I" } : Jvm.MethodName)) ∈ jv_T := jv_in 663 (by decide +kernel) (by decide +kernel)
theorem mw_664 : (Jvm.Cond.instanceMethod ({ cls := "TemperNurses$House", name := "worthOfFetching", desc := "(II)I" } : Jvm.MethodName)) ∈ jv_T := jv_in 664 (by decide +kernel) (by decide +kernel)
theorem mw_665 : (Jvm.Cond.selects "TemperNurses$House" ({ cls := "TemperNurses$House", name := "worthOfFetching", desc := "(II)I" } : Jvm.MethodName) ({ cls := "TemperNurses$House", name := "worthOfFetching", desc := "(II)I" } : Jvm.MethodName)) ∈ jv_T := jv_in 665 (by decide +kernel) (by decide +kernel)
theorem mw_666 : (Jvm.Cond.code ({ cls := "TemperNurses$House", name := "worthOfFetching", desc := "(II)I" } : Jvm.MethodName) prog_5_method_10_code (4 : Nat) (Option.some Jvm.ClassFile.FieldType.int)) ∈ jv_T := jv_in 666 (by decide +kernel) (by decide +kernel)
theorem mw_667 : (Jvm.Cond.methodLink "TemperNurses$House" (80 : Nat) ({ cls := "TemperNurses$House", name := "heatIn", desc := "(II)I" } : Jvm.MethodName)) ∈ jv_T := jv_in 667 (by decide +kernel) (by decide +kernel)
theorem mw_668 : (Jvm.Cond.methodLink "TemperNurses$House" (89 : Nat) ({ cls := "TemperNurses$Course", name := "year", desc := "()I" } : Jvm.MethodName)) ∈ jv_T := jv_in 668 (by decide +kernel) (by decide +kernel)
theorem mw_670 : (Jvm.Cond.instanceMethod ({ cls := "TemperNurses", name := "beds", desc := "(II)I" } : Jvm.MethodName)) ∈ jv_T := jv_in 670 (by decide +kernel) (by decide +kernel)
theorem mw_671 : (Jvm.Cond.selects "TemperNurses" ({ cls := "TemperNurses", name := "beds", desc := "(II)I" } : Jvm.MethodName) ({ cls := "TemperNurses", name := "beds", desc := "(II)I" } : Jvm.MethodName)) ∈ jv_T := jv_in 671 (by decide +kernel) (by decide +kernel)
theorem mw_672 : (Jvm.Cond.code ({ cls := "TemperNurses", name := "beds", desc := "(II)I" } : Jvm.MethodName) prog_1_method_18_code (3 : Nat) (Option.some Jvm.ClassFile.FieldType.int)) ∈ jv_T := jv_in 672 (by decide +kernel) (by decide +kernel)
theorem mw_673 : (Jvm.Cond.methodLink "TemperNurses" (226 : Nat) ({ cls := "TemperNurses$BedMaker", name := "makeBeds", desc := "(I)V" } : Jvm.MethodName)) ∈ jv_T := jv_in 673 (by decide +kernel) (by decide +kernel)
theorem mw_674 : (Jvm.Cond.instanceMethod ({ cls := "TemperNurses$BedMaker", name := "makeBeds", desc := "(I)V" } : Jvm.MethodName)) ∈ jv_T := jv_in 674 (by decide +kernel) (by decide +kernel)
theorem mw_675 : (Jvm.Cond.selects "TemperNurses$BedMaker" ({ cls := "TemperNurses$BedMaker", name := "makeBeds", desc := "(I)V" } : Jvm.MethodName) ({ cls := "TemperNurses$BedMaker", name := "makeBeds", desc := "(I)V" } : Jvm.MethodName)) ∈ jv_T := jv_in 675 (by decide +kernel) (by decide +kernel)
theorem mw_676 : (Jvm.Cond.code ({ cls := "TemperNurses$BedMaker", name := "makeBeds", desc := "(I)V" } : Jvm.MethodName) prog_2_method_2_code (2 : Nat) (Option.none : Option Jvm.ClassFile.FieldType)) ∈ jv_T := jv_in 676 (by decide +kernel) (by decide +kernel)
theorem mw_677 : (Jvm.Cond.methodLink "TemperNurses$BedMaker" (29 : Nat) ({ cls := "java/util/Arrays", name := "fill", desc := "([II)V" } : Jvm.MethodName)) ∈ jv_T := jv_in 677 (by decide +kernel) (by decide +kernel)
theorem mw_678 : (Jvm.Cond.methodLink "TemperNurses$BedMaker" (35 : Nat) ({ cls := "TemperNurses$BedMaker", name := "tryOthers", desc := "(II)V" } : Jvm.MethodName)) ∈ jv_T := jv_in 678 (by decide +kernel) (by decide +kernel)
theorem mw_680 : (Jvm.Cond.instanceMethod ({ cls := "TemperNurses$BedMaker", name := "tryOthers", desc := "(II)V" } : Jvm.MethodName)) ∈ jv_T := jv_in 680 (by decide +kernel) (by decide +kernel)
theorem mw_681 : (Jvm.Cond.code ({ cls := "TemperNurses$BedMaker", name := "tryOthers", desc := "(II)V" } : Jvm.MethodName) prog_2_method_3_code (4 : Nat) (Option.none : Option Jvm.ClassFile.FieldType)) ∈ jv_T := jv_in 681 (by decide +kernel) (by decide +kernel)
theorem mw_682 : (Jvm.Cond.methodLink "TemperNurses$BedMaker" (50 : Nat) ({ cls := "java/lang/System", name := "arraycopy", desc := "(Ljava/lang/Object;ILjava/lang/Object;II)V" } : Jvm.MethodName)) ∈ jv_T := jv_in 682 (by decide +kernel) (by decide +kernel)
theorem mw_683 : (Jvm.Cond.methodLink "TemperNurses$BedMaker" (56 : Nat) ({ cls := "TemperNurses$BedMaker", name := "mayShare", desc := "(II)Z" } : Jvm.MethodName)) ∈ jv_T := jv_in 683 (by decide +kernel) (by decide +kernel)
theorem mw_685 : (Jvm.Cond.instanceMethod ({ cls := "TemperNurses$BedMaker", name := "mayShare", desc := "(II)Z" } : Jvm.MethodName)) ∈ jv_T := jv_in 685 (by decide +kernel) (by decide +kernel)
theorem mw_686 : (Jvm.Cond.code ({ cls := "TemperNurses$BedMaker", name := "mayShare", desc := "(II)Z" } : Jvm.MethodName) prog_2_method_4_code (3 : Nat) (Option.some Jvm.ClassFile.FieldType.boolean)) ∈ jv_T := jv_in 686 (by decide +kernel) (by decide +kernel)
theorem mw_688 : (Jvm.Cond.methodLink "TemperNurses$BedMaker" (71 : Nat) ({ cls := "TemperNurses$Course", name := "heat", desc := "(I)I" } : Jvm.MethodName)) ∈ jv_T := jv_in 688 (by decide +kernel) (by decide +kernel)
theorem mw_690 : (Jvm.Cond.instanceMethod ({ cls := "TemperNurses", name := "odds", desc := "(III)I" } : Jvm.MethodName)) ∈ jv_T := jv_in 690 (by decide +kernel) (by decide +kernel)
theorem mw_691 : (Jvm.Cond.selects "TemperNurses" ({ cls := "TemperNurses", name := "odds", desc := "(III)I" } : Jvm.MethodName) ({ cls := "TemperNurses", name := "odds", desc := "(III)I" } : Jvm.MethodName)) ∈ jv_T := jv_in 691 (by decide +kernel) (by decide +kernel)
theorem mw_692 : (Jvm.Cond.code ({ cls := "TemperNurses", name := "odds", desc := "(III)I" } : Jvm.MethodName) prog_1_method_19_code (7 : Nat) (Option.some Jvm.ClassFile.FieldType.int)) ∈ jv_T := jv_in 692 (by decide +kernel) (by decide +kernel)
theorem mw_693 : (Jvm.Cond.methodLink "TemperNurses" (231 : Nat) ({ cls := "TemperNurses", name := "countLooseWays", desc := "(II)I" } : Jvm.MethodName)) ∈ jv_T := jv_in 693 (by decide +kernel) (by decide +kernel)
theorem mw_695 : (Jvm.Cond.instanceMethod ({ cls := "TemperNurses", name := "countLooseWays", desc := "(II)I" } : Jvm.MethodName)) ∈ jv_T := jv_in 695 (by decide +kernel) (by decide +kernel)
theorem mw_696 : (Jvm.Cond.code ({ cls := "TemperNurses", name := "countLooseWays", desc := "(II)I" } : Jvm.MethodName) prog_1_method_32_code (5 : Nat) (Option.some Jvm.ClassFile.FieldType.int)) ∈ jv_T := jv_in 696 (by decide +kernel) (by decide +kernel)
theorem mw_697 : (Jvm.Cond.methodLink "TemperNurses" (283 : Nat) ({ cls := "java/util/Arrays", name := "fill", desc := "([II)V" } : Jvm.MethodName)) ∈ jv_T := jv_in 697 (by decide +kernel) (by decide +kernel)
theorem mw_698 : (Jvm.Cond.methodLink "TemperNurses" (234 : Nat) ({ cls := "TemperNurses", name := "commonDivisor", desc := "(II)I" } : Jvm.MethodName)) ∈ jv_T := jv_in 698 (by decide +kernel) (by decide +kernel)
theorem mw_699 : (Jvm.Cond.static ({ cls := "TemperNurses", name := "commonDivisor", desc := "(II)I" } : Jvm.MethodName)) ∈ jv_T := jv_in 699 (by decide +kernel) (by decide +kernel)
theorem mw_700 : (Jvm.Cond.code ({ cls := "TemperNurses", name := "commonDivisor", desc := "(II)I" } : Jvm.MethodName) prog_1_method_33_code (6 : Nat) (Option.some Jvm.ClassFile.FieldType.int)) ∈ jv_T := jv_in 700 (by decide +kernel) (by decide +kernel)
theorem mw_702 : (Jvm.Cond.instanceMethod ({ cls := "TemperNurses", name := "hears", desc := "(II)I" } : Jvm.MethodName)) ∈ jv_T := jv_in 702 (by decide +kernel) (by decide +kernel)
theorem mw_703 : (Jvm.Cond.selects "TemperNurses" ({ cls := "TemperNurses", name := "hears", desc := "(II)I" } : Jvm.MethodName) ({ cls := "TemperNurses", name := "hears", desc := "(II)I" } : Jvm.MethodName)) ∈ jv_T := jv_in 703 (by decide +kernel) (by decide +kernel)
theorem mw_704 : (Jvm.Cond.code ({ cls := "TemperNurses", name := "hears", desc := "(II)I" } : Jvm.MethodName) prog_1_method_20_code (3 : Nat) (Option.some Jvm.ClassFile.FieldType.int)) ∈ jv_T := jv_in 704 (by decide +kernel) (by decide +kernel)
theorem mw_705 : (Jvm.Cond.methodLink "TemperNurses" (237 : Nat) ({ cls := "TemperNurses$Listener", name := "append", desc := "(II)Z" } : Jvm.MethodName)) ∈ jv_T := jv_in 705 (by decide +kernel) (by decide +kernel)
theorem mw_706 : (Jvm.Cond.instanceMethod ({ cls := "TemperNurses$Listener", name := "append", desc := "(II)Z" } : Jvm.MethodName)) ∈ jv_T := jv_in 706 (by decide +kernel) (by decide +kernel)
theorem mw_707 : (Jvm.Cond.selects "TemperNurses$Listener" ({ cls := "TemperNurses$Listener", name := "append", desc := "(II)Z" } : Jvm.MethodName) ({ cls := "TemperNurses$Listener", name := "append", desc := "(II)Z" } : Jvm.MethodName)) ∈ jv_T := jv_in 707 (by decide +kernel) (by decide +kernel)
theorem mw_708 : (Jvm.Cond.code ({ cls := "TemperNurses$Listener", name := "append", desc := "(II)Z" } : Jvm.MethodName) prog_7_method_2_code (3 : Nat) (Option.some Jvm.ClassFile.FieldType.boolean)) ∈ jv_T := jv_in 708 (by decide +kernel) (by decide +kernel)
theorem mw_710 : (Jvm.Cond.instanceMethod ({ cls := "TemperNurses", name := "forget", desc := "()I" } : Jvm.MethodName)) ∈ jv_T := jv_in 710 (by decide +kernel) (by decide +kernel)
theorem mw_711 : (Jvm.Cond.selects "TemperNurses" ({ cls := "TemperNurses", name := "forget", desc := "()I" } : Jvm.MethodName) ({ cls := "TemperNurses", name := "forget", desc := "()I" } : Jvm.MethodName)) ∈ jv_T := jv_in 711 (by decide +kernel) (by decide +kernel)
theorem mw_712 : (Jvm.Cond.code ({ cls := "TemperNurses", name := "forget", desc := "()I" } : Jvm.MethodName) prog_1_method_21_code (1 : Nat) (Option.some Jvm.ClassFile.FieldType.int)) ∈ jv_T := jv_in 712 (by decide +kernel) (by decide +kernel)
theorem mw_714 : (Jvm.Cond.instanceMethod ({ cls := "TemperNurses", name := "whose", desc := "()I" } : Jvm.MethodName)) ∈ jv_T := jv_in 714 (by decide +kernel) (by decide +kernel)
theorem mw_715 : (Jvm.Cond.selects "TemperNurses" ({ cls := "TemperNurses", name := "whose", desc := "()I" } : Jvm.MethodName) ({ cls := "TemperNurses", name := "whose", desc := "()I" } : Jvm.MethodName)) ∈ jv_T := jv_in 715 (by decide +kernel) (by decide +kernel)
theorem mw_716 : (Jvm.Cond.code ({ cls := "TemperNurses", name := "whose", desc := "()I" } : Jvm.MethodName) prog_1_method_22_code (1 : Nat) (Option.some Jvm.ClassFile.FieldType.int)) ∈ jv_T := jv_in 716 (by decide +kernel) (by decide +kernel)
theorem mw_717 : (Jvm.Cond.methodLink "TemperNurses" (242 : Nat) ({ cls := "TemperNurses$Listener", name := "suspects", desc := "()I" } : Jvm.MethodName)) ∈ jv_T := jv_in 717 (by decide +kernel) (by decide +kernel)
theorem mw_718 : (Jvm.Cond.instanceMethod ({ cls := "TemperNurses$Listener", name := "suspects", desc := "()I" } : Jvm.MethodName)) ∈ jv_T := jv_in 718 (by decide +kernel) (by decide +kernel)
theorem mw_719 : (Jvm.Cond.selects "TemperNurses$Listener" ({ cls := "TemperNurses$Listener", name := "suspects", desc := "()I" } : Jvm.MethodName) ({ cls := "TemperNurses$Listener", name := "suspects", desc := "()I" } : Jvm.MethodName)) ∈ jv_T := jv_in 719 (by decide +kernel) (by decide +kernel)
theorem mw_720 : (Jvm.Cond.code ({ cls := "TemperNurses$Listener", name := "suspects", desc := "()I" } : Jvm.MethodName) prog_7_method_4_code (3 : Nat) (Option.some Jvm.ClassFile.FieldType.int)) ∈ jv_T := jv_in 720 (by decide +kernel) (by decide +kernel)
theorem mw_721 : (Jvm.Cond.methodLink "TemperNurses$Listener" (41 : Nat) ({ cls := "TemperNurses$Course", name := "heat", desc := "(I)I" } : Jvm.MethodName)) ∈ jv_T := jv_in 721 (by decide +kernel) (by decide +kernel)
theorem mw_722 : (Jvm.Cond.methodLink "TemperNurses$Listener" (47 : Nat) ({ cls := "TemperNurses$Listener", name := "isAsHeard", desc := "(I)Z" } : Jvm.MethodName)) ∈ jv_T := jv_in 722 (by decide +kernel) (by decide +kernel)
theorem mw_724 : (Jvm.Cond.instanceMethod ({ cls := "TemperNurses$Listener", name := "isAsHeard", desc := "(I)Z" } : Jvm.MethodName)) ∈ jv_T := jv_in 724 (by decide +kernel) (by decide +kernel)
theorem mw_725 : (Jvm.Cond.code ({ cls := "TemperNurses$Listener", name := "isAsHeard", desc := "(I)Z" } : Jvm.MethodName) prog_7_method_7_code (4 : Nat) (Option.some Jvm.ClassFile.FieldType.boolean)) ∈ jv_T := jv_in 725 (by decide +kernel) (by decide +kernel)
theorem mw_728 : (Jvm.Cond.instanceMethod ({ cls := "TemperNurses", name := "ask", desc := "()I" } : Jvm.MethodName)) ∈ jv_T := jv_in 728 (by decide +kernel) (by decide +kernel)
theorem mw_729 : (Jvm.Cond.selects "TemperNurses" ({ cls := "TemperNurses", name := "ask", desc := "()I" } : Jvm.MethodName) ({ cls := "TemperNurses", name := "ask", desc := "()I" } : Jvm.MethodName)) ∈ jv_T := jv_in 729 (by decide +kernel) (by decide +kernel)
theorem mw_730 : (Jvm.Cond.code ({ cls := "TemperNurses", name := "ask", desc := "()I" } : Jvm.MethodName) prog_1_method_23_code (1 : Nat) (Option.some Jvm.ClassFile.FieldType.int)) ∈ jv_T := jv_in 730 (by decide +kernel) (by decide +kernel)
theorem mw_731 : (Jvm.Cond.methodLink "TemperNurses" (245 : Nat) ({ cls := "TemperNurses$Listener", name := "nextBang", desc := "()I" } : Jvm.MethodName)) ∈ jv_T := jv_in 731 (by decide +kernel) (by decide +kernel)
theorem mw_732 : (Jvm.Cond.instanceMethod ({ cls := "TemperNurses$Listener", name := "nextBang", desc := "()I" } : Jvm.MethodName)) ∈ jv_T := jv_in 732 (by decide +kernel) (by decide +kernel)
theorem mw_733 : (Jvm.Cond.selects "TemperNurses$Listener" ({ cls := "TemperNurses$Listener", name := "nextBang", desc := "()I" } : Jvm.MethodName) ({ cls := "TemperNurses$Listener", name := "nextBang", desc := "()I" } : Jvm.MethodName)) ∈ jv_T := jv_in 733 (by decide +kernel) (by decide +kernel)
theorem mw_734 : (Jvm.Cond.code ({ cls := "TemperNurses$Listener", name := "nextBang", desc := "()I" } : Jvm.MethodName) prog_7_method_5_code (8 : Nat) (Option.some Jvm.ClassFile.FieldType.int)) ∈ jv_T := jv_in 734 (by decide +kernel) (by decide +kernel)
theorem mw_735 : (Jvm.Cond.methodLink "TemperNurses$Listener" (54 : Nat) ({ cls := "TemperNurses$Listener", name := "suspects", desc := "()I" } : Jvm.MethodName)) ∈ jv_T := jv_in 735 (by decide +kernel) (by decide +kernel)
theorem mw_736 : (Jvm.Cond.methodLink "TemperNurses$Listener" (58 : Nat) ({ cls := "java/lang/Integer", name := "bitCount", desc := "(I)I" } : Jvm.MethodName)) ∈ jv_T := jv_in 736 (by decide +kernel) (by decide +kernel)
theorem mw_737 : (Jvm.Cond.methodLink "TemperNurses$Listener" (63 : Nat) ({ cls := "TemperNurses$Listener", name := "countBanging", desc := "(II)I" } : Jvm.MethodName)) ∈ jv_T := jv_in 737 (by decide +kernel) (by decide +kernel)
theorem mw_739 : (Jvm.Cond.instanceMethod ({ cls := "TemperNurses$Listener", name := "countBanging", desc := "(II)I" } : Jvm.MethodName)) ∈ jv_T := jv_in 739 (by decide +kernel) (by decide +kernel)
theorem mw_740 : (Jvm.Cond.code ({ cls := "TemperNurses$Listener", name := "countBanging", desc := "(II)I" } : Jvm.MethodName) prog_7_method_6_code (5 : Nat) (Option.some Jvm.ClassFile.FieldType.int)) ∈ jv_T := jv_in 740 (by decide +kernel) (by decide +kernel)
theorem mw_741 : (Jvm.Cond.methodLink "TemperNurses$Listener" (67 : Nat) ({ cls := "java/lang/Math", name := "max", desc := "(II)I" } : Jvm.MethodName)) ∈ jv_T := jv_in 741 (by decide +kernel) (by decide +kernel)
theorem mw_743 : (Jvm.Cond.instanceMethod ({ cls := "TemperNurses", name := "mark", desc := "(II)I" } : Jvm.MethodName)) ∈ jv_T := jv_in 743 (by decide +kernel) (by decide +kernel)
theorem mw_744 : (Jvm.Cond.selects "TemperNurses" ({ cls := "TemperNurses", name := "mark", desc := "(II)I" } : Jvm.MethodName) ({ cls := "TemperNurses", name := "mark", desc := "(II)I" } : Jvm.MethodName)) ∈ jv_T := jv_in 744 (by decide +kernel) (by decide +kernel)
theorem mw_745 : (Jvm.Cond.code ({ cls := "TemperNurses", name := "mark", desc := "(II)I" } : Jvm.MethodName) prog_1_method_24_code (3 : Nat) (Option.some Jvm.ClassFile.FieldType.int)) ∈ jv_T := jv_in 745 (by decide +kernel) (by decide +kernel)
theorem mw_746 : (Jvm.Cond.methodLink "TemperNurses" (248 : Nat) ({ cls := "TemperNurses$Kinds", name := "asTemper", desc := "(I)I" } : Jvm.MethodName)) ∈ jv_T := jv_in 746 (by decide +kernel) (by decide +kernel)
theorem mw_747 : (Jvm.Cond.instanceMethod ({ cls := "TemperNurses$Kinds", name := "asTemper", desc := "(I)I" } : Jvm.MethodName)) ∈ jv_T := jv_in 747 (by decide +kernel) (by decide +kernel)
theorem mw_748 : (Jvm.Cond.selects "TemperNurses$Kinds" ({ cls := "TemperNurses$Kinds", name := "asTemper", desc := "(I)I" } : Jvm.MethodName) ({ cls := "TemperNurses$Kinds", name := "asTemper", desc := "(I)I" } : Jvm.MethodName)) ∈ jv_T := jv_in 748 (by decide +kernel) (by decide +kernel)
theorem mw_749 : (Jvm.Cond.code ({ cls := "TemperNurses$Kinds", name := "asTemper", desc := "(I)I" } : Jvm.MethodName) prog_6_method_2_code (2 : Nat) (Option.some Jvm.ClassFile.FieldType.int)) ∈ jv_T := jv_in 749 (by decide +kernel) (by decide +kernel)
theorem mw_750 : (Jvm.Cond.methodLink "TemperNurses$Kinds" (23 : Nat) ({ cls := "TemperNurses$Course", name := "heat", desc := "(I)I" } : Jvm.MethodName)) ∈ jv_T := jv_in 750 (by decide +kernel) (by decide +kernel)
theorem mw_751 : (Jvm.Cond.methodLink "TemperNurses" (251 : Nat) ({ cls := "TemperNurses$Kinds", name := "asRage", desc := "(I)I" } : Jvm.MethodName)) ∈ jv_T := jv_in 751 (by decide +kernel) (by decide +kernel)
theorem mw_752 : (Jvm.Cond.instanceMethod ({ cls := "TemperNurses$Kinds", name := "asRage", desc := "(I)I" } : Jvm.MethodName)) ∈ jv_T := jv_in 752 (by decide +kernel) (by decide +kernel)
theorem mw_753 : (Jvm.Cond.selects "TemperNurses$Kinds" ({ cls := "TemperNurses$Kinds", name := "asRage", desc := "(I)I" } : Jvm.MethodName) ({ cls := "TemperNurses$Kinds", name := "asRage", desc := "(I)I" } : Jvm.MethodName)) ∈ jv_T := jv_in 753 (by decide +kernel) (by decide +kernel)
theorem mw_754 : (Jvm.Cond.code ({ cls := "TemperNurses$Kinds", name := "asRage", desc := "(I)I" } : Jvm.MethodName) prog_6_method_3_code (2 : Nat) (Option.some Jvm.ClassFile.FieldType.int)) ∈ jv_T := jv_in 754 (by decide +kernel) (by decide +kernel)
theorem mw_755 : (Jvm.Cond.constantLong "TemperNurses$Kinds" (29 : Nat) (10 : Int64)) ∈ jv_T := jv_in 755 (by decide +kernel) (by decide +kernel)
theorem mw_756 : (Jvm.Cond.methodLink "TemperNurses$Kinds" (31 : Nat) ({ cls := "TemperNurses$Kinds", name := "asTemper", desc := "(I)I" } : Jvm.MethodName)) ∈ jv_T := jv_in 756 (by decide +kernel) (by decide +kernel)
theorem mw_757 : (Jvm.Cond.methodLink "TemperNurses$Kinds" (38 : Nat) ({ cls := "TemperNurses$Hill", name := "hasTemper", desc := "(I)Z" } : Jvm.MethodName)) ∈ jv_T := jv_in 757 (by decide +kernel) (by decide +kernel)
theorem mw_758 : (Jvm.Cond.methodLink "TemperNurses" (254 : Nat) ({ cls := "TemperNurses$Kinds", name := "asSulk", desc := "(I)I" } : Jvm.MethodName)) ∈ jv_T := jv_in 758 (by decide +kernel) (by decide +kernel)
theorem mw_759 : (Jvm.Cond.instanceMethod ({ cls := "TemperNurses$Kinds", name := "asSulk", desc := "(I)I" } : Jvm.MethodName)) ∈ jv_T := jv_in 759 (by decide +kernel) (by decide +kernel)
theorem mw_760 : (Jvm.Cond.selects "TemperNurses$Kinds" ({ cls := "TemperNurses$Kinds", name := "asSulk", desc := "(I)I" } : Jvm.MethodName) ({ cls := "TemperNurses$Kinds", name := "asSulk", desc := "(I)I" } : Jvm.MethodName)) ∈ jv_T := jv_in 760 (by decide +kernel) (by decide +kernel)
theorem mw_761 : (Jvm.Cond.code ({ cls := "TemperNurses$Kinds", name := "asSulk", desc := "(I)I" } : Jvm.MethodName) prog_6_method_4_code (2 : Nat) (Option.some Jvm.ClassFile.FieldType.int)) ∈ jv_T := jv_in 761 (by decide +kernel) (by decide +kernel)
theorem mw_762 : (Jvm.Cond.constantLong "TemperNurses$Kinds" (48 : Nat) (100 : Int64)) ∈ jv_T := jv_in 762 (by decide +kernel) (by decide +kernel)
theorem mw_763 : (Jvm.Cond.methodLink "TemperNurses$Kinds" (50 : Nat) ({ cls := "TemperNurses$House", name := "broken", desc := "()I" } : Jvm.MethodName)) ∈ jv_T := jv_in 763 (by decide +kernel) (by decide +kernel)
theorem mw_764 : (Jvm.Cond.methodLink "TemperNurses$Kinds" (54 : Nat) ({ cls := "java/lang/Integer", name := "bitCount", desc := "(I)I" } : Jvm.MethodName)) ∈ jv_T := jv_in 764 (by decide +kernel) (by decide +kernel)
theorem mw_765 : (Jvm.Cond.methodLink "TemperNurses" (257 : Nat) ({ cls := "TemperNurses$Kinds", name := "asStorm", desc := "(I)I" } : Jvm.MethodName)) ∈ jv_T := jv_in 765 (by decide +kernel) (by decide +kernel)
theorem mw_766 : (Jvm.Cond.instanceMethod ({ cls := "TemperNurses$Kinds", name := "asStorm", desc := "(I)I" } : Jvm.MethodName)) ∈ jv_T := jv_in 766 (by decide +kernel) (by decide +kernel)
theorem mw_767 : (Jvm.Cond.selects "TemperNurses$Kinds" ({ cls := "TemperNurses$Kinds", name := "asStorm", desc := "(I)I" } : Jvm.MethodName) ({ cls := "TemperNurses$Kinds", name := "asStorm", desc := "(I)I" } : Jvm.MethodName)) ∈ jv_T := jv_in 767 (by decide +kernel) (by decide +kernel)
theorem mw_768 : (Jvm.Cond.code ({ cls := "TemperNurses$Kinds", name := "asStorm", desc := "(I)I" } : Jvm.MethodName) prog_6_method_5_code (2 : Nat) (Option.some Jvm.ClassFile.FieldType.int)) ∈ jv_T := jv_in 768 (by decide +kernel) (by decide +kernel)
theorem mw_769 : (Jvm.Cond.constantLong "TemperNurses$Kinds" (59 : Nat) (1000 : Int64)) ∈ jv_T := jv_in 769 (by decide +kernel) (by decide +kernel)
theorem mw_770 : (Jvm.Cond.methodLink "TemperNurses$Kinds" (61 : Nat) ({ cls := "TemperNurses$Kinds", name := "asRage", desc := "(I)I" } : Jvm.MethodName)) ∈ jv_T := jv_in 770 (by decide +kernel) (by decide +kernel)
theorem mw_771 : (Jvm.Cond.methodLink "TemperNurses" (260 : Nat) ({ cls := "TemperNurses$Kinds", name := "asGrudge", desc := "(I)I" } : Jvm.MethodName)) ∈ jv_T := jv_in 771 (by decide +kernel) (by decide +kernel)
theorem mw_772 : (Jvm.Cond.instanceMethod ({ cls := "TemperNurses$Kinds", name := "asGrudge", desc := "(I)I" } : Jvm.MethodName)) ∈ jv_T := jv_in 772 (by decide +kernel) (by decide +kernel)
theorem mw_773 : (Jvm.Cond.selects "TemperNurses$Kinds" ({ cls := "TemperNurses$Kinds", name := "asGrudge", desc := "(I)I" } : Jvm.MethodName) ({ cls := "TemperNurses$Kinds", name := "asGrudge", desc := "(I)I" } : Jvm.MethodName)) ∈ jv_T := jv_in 773 (by decide +kernel) (by decide +kernel)
theorem mw_774 : (Jvm.Cond.code ({ cls := "TemperNurses$Kinds", name := "asGrudge", desc := "(I)I" } : Jvm.MethodName) prog_6_method_6_code (2 : Nat) (Option.some Jvm.ClassFile.FieldType.int)) ∈ jv_T := jv_in 774 (by decide +kernel) (by decide +kernel)
theorem mw_775 : (Jvm.Cond.constantLong "TemperNurses$Kinds" (64 : Nat) (10000 : Int64)) ∈ jv_T := jv_in 775 (by decide +kernel) (by decide +kernel)
theorem mw_776 : (Jvm.Cond.methodLink "TemperNurses$Kinds" (66 : Nat) ({ cls := "TemperNurses$Kinds", name := "asSulk", desc := "(I)I" } : Jvm.MethodName)) ∈ jv_T := jv_in 776 (by decide +kernel) (by decide +kernel)
theorem mw_777 : (Jvm.Cond.methodLink "TemperNurses" (263 : Nat) ({ cls := "TemperNurses$Kinds", name := "asPet", desc := "(I)I" } : Jvm.MethodName)) ∈ jv_T := jv_in 777 (by decide +kernel) (by decide +kernel)
theorem mw_778 : (Jvm.Cond.instanceMethod ({ cls := "TemperNurses$Kinds", name := "asPet", desc := "(I)I" } : Jvm.MethodName)) ∈ jv_T := jv_in 778 (by decide +kernel) (by decide +kernel)
theorem mw_779 : (Jvm.Cond.selects "TemperNurses$Kinds" ({ cls := "TemperNurses$Kinds", name := "asPet", desc := "(I)I" } : Jvm.MethodName) ({ cls := "TemperNurses$Kinds", name := "asPet", desc := "(I)I" } : Jvm.MethodName)) ∈ jv_T := jv_in 779 (by decide +kernel) (by decide +kernel)
theorem mw_780 : (Jvm.Cond.code ({ cls := "TemperNurses$Kinds", name := "asPet", desc := "(I)I" } : Jvm.MethodName) prog_6_method_7_code (2 : Nat) (Option.some Jvm.ClassFile.FieldType.int)) ∈ jv_T := jv_in 780 (by decide +kernel) (by decide +kernel)
theorem mw_781 : (Jvm.Cond.constantLong "TemperNurses$Kinds" (69 : Nat) (100000 : Int64)) ∈ jv_T := jv_in 781 (by decide +kernel) (by decide +kernel)
theorem mw_782 : (Jvm.Cond.methodLink "TemperNurses$Kinds" (71 : Nat) ({ cls := "TemperNurses$Course", name := "year", desc := "()I" } : Jvm.MethodName)) ∈ jv_T := jv_in 782 (by decide +kernel) (by decide +kernel)
theorem mw_784 : (Jvm.Cond.instanceMethod ({ cls := "TemperNurses", name := "keep", desc := "(I)I" } : Jvm.MethodName)) ∈ jv_T := jv_in 784 (by decide +kernel) (by decide +kernel)
theorem mw_785 : (Jvm.Cond.selects "TemperNurses" ({ cls := "TemperNurses", name := "keep", desc := "(I)I" } : Jvm.MethodName) ({ cls := "TemperNurses", name := "keep", desc := "(I)I" } : Jvm.MethodName)) ∈ jv_T := jv_in 785 (by decide +kernel) (by decide +kernel)
theorem mw_786 : (Jvm.Cond.code ({ cls := "TemperNurses", name := "keep", desc := "(I)I" } : Jvm.MethodName) prog_1_method_25_code (2 : Nat) (Option.some Jvm.ClassFile.FieldType.int)) ∈ jv_T := jv_in 786 (by decide +kernel) (by decide +kernel)
theorem mw_787 : (Jvm.Cond.methodLink "TemperNurses" (266 : Nat) ({ cls := "TemperNurses", name := "imageOf", desc := "(I)LTemperNurses$Course;" } : Jvm.MethodName)) ∈ jv_T := jv_in 787 (by decide +kernel) (by decide +kernel)
theorem mw_789 : (Jvm.Cond.instanceMethod ({ cls := "TemperNurses", name := "imageOf", desc := "(I)LTemperNurses$Course;" } : Jvm.MethodName)) ∈ jv_T := jv_in 789 (by decide +kernel) (by decide +kernel)
theorem mw_790 : (Jvm.Cond.code ({ cls := "TemperNurses", name := "imageOf", desc := "(I)LTemperNurses$Course;" } : Jvm.MethodName) prog_1_method_31_code (2 : Nat) (Option.some (Jvm.ClassFile.FieldType.object "TemperNurses$Course"))) ∈ jv_T := jv_in 790 (by decide +kernel) (by decide +kernel)
theorem mw_791 : (Jvm.Cond.methodLink "TemperNurses" (270 : Nat) ({ cls := "TemperNurses$Course", name := "take", desc := "(LTemperNurses$Course;)V" } : Jvm.MethodName)) ∈ jv_T := jv_in 791 (by decide +kernel) (by decide +kernel)
theorem mw_792 : (Jvm.Cond.instanceMethod ({ cls := "TemperNurses$Course", name := "take", desc := "(LTemperNurses$Course;)V" } : Jvm.MethodName)) ∈ jv_T := jv_in 792 (by decide +kernel) (by decide +kernel)
theorem mw_793 : (Jvm.Cond.selects "TemperNurses$Course" ({ cls := "TemperNurses$Course", name := "take", desc := "(LTemperNurses$Course;)V" } : Jvm.MethodName) ({ cls := "TemperNurses$Course", name := "take", desc := "(LTemperNurses$Course;)V" } : Jvm.MethodName)) ∈ jv_T := jv_in 793 (by decide +kernel) (by decide +kernel)
theorem mw_794 : (Jvm.Cond.code ({ cls := "TemperNurses$Course", name := "take", desc := "(LTemperNurses$Course;)V" } : Jvm.MethodName) prog_3_method_3_code (2 : Nat) (Option.none : Option Jvm.ClassFile.FieldType)) ∈ jv_T := jv_in 794 (by decide +kernel) (by decide +kernel)
theorem mw_795 : (Jvm.Cond.methodLink "TemperNurses" (273 : Nat) ({ cls := "TemperNurses", name := "bit", desc := "(I)I" } : Jvm.MethodName)) ∈ jv_T := jv_in 795 (by decide +kernel) (by decide +kernel)
theorem mw_797 : (Jvm.Cond.instanceMethod ({ cls := "TemperNurses", name := "back", desc := "(I)I" } : Jvm.MethodName)) ∈ jv_T := jv_in 797 (by decide +kernel) (by decide +kernel)
theorem mw_798 : (Jvm.Cond.selects "TemperNurses" ({ cls := "TemperNurses", name := "back", desc := "(I)I" } : Jvm.MethodName) ({ cls := "TemperNurses", name := "back", desc := "(I)I" } : Jvm.MethodName)) ∈ jv_T := jv_in 798 (by decide +kernel) (by decide +kernel)
theorem mw_799 : (Jvm.Cond.code ({ cls := "TemperNurses", name := "back", desc := "(I)I" } : Jvm.MethodName) prog_1_method_26_code (2 : Nat) (Option.some Jvm.ClassFile.FieldType.int)) ∈ jv_T := jv_in 799 (by decide +kernel) (by decide +kernel)
theorem mw_801 : (Jvm.Cond.instanceMethod ({ cls := "TemperNurses", name := "count", desc := "(I)I" } : Jvm.MethodName)) ∈ jv_T := jv_in 801 (by decide +kernel) (by decide +kernel)
theorem mw_802 : (Jvm.Cond.selects "TemperNurses" ({ cls := "TemperNurses", name := "count", desc := "(I)I" } : Jvm.MethodName) ({ cls := "TemperNurses", name := "count", desc := "(I)I" } : Jvm.MethodName)) ∈ jv_T := jv_in 802 (by decide +kernel) (by decide +kernel)
theorem mw_803 : (Jvm.Cond.code ({ cls := "TemperNurses", name := "count", desc := "(I)I" } : Jvm.MethodName) prog_1_method_27_code (2 : Nat) (Option.some Jvm.ClassFile.FieldType.int)) ∈ jv_T := jv_in 803 (by decide +kernel) (by decide +kernel)
theorem mw_805 : (Jvm.Cond.instanceMethod ({ cls := "TemperNurses", name := "trace", desc := "()J" } : Jvm.MethodName)) ∈ jv_T := jv_in 805 (by decide +kernel) (by decide +kernel)
theorem mw_806 : (Jvm.Cond.selects "TemperNurses" ({ cls := "TemperNurses", name := "trace", desc := "()J" } : Jvm.MethodName) ({ cls := "TemperNurses", name := "trace", desc := "()J" } : Jvm.MethodName)) ∈ jv_T := jv_in 806 (by decide +kernel) (by decide +kernel)
theorem mw_807 : (Jvm.Cond.code ({ cls := "TemperNurses", name := "trace", desc := "()J" } : Jvm.MethodName) prog_1_method_28_code (1 : Nat) (Option.some Jvm.ClassFile.FieldType.long)) ∈ jv_T := jv_in 807 (by decide +kernel) (by decide +kernel)
theorem mw_809 : (Jvm.Cond.instantiable "TemperNursesModel" (31 : Nat)) ∈ jv_T := jv_in 809 (by decide +kernel) (by decide +kernel)
theorem mw_811 : (Jvm.Cond.instanceMethod ({ cls := "TemperNursesModel", name := "<init>", desc := "()V" } : Jvm.MethodName)) ∈ jv_T := jv_in 811 (by decide +kernel) (by decide +kernel)
theorem mw_812 : (Jvm.Cond.code ({ cls := "TemperNursesModel", name := "<init>", desc := "()V" } : Jvm.MethodName) prog_11_method_1_code (1 : Nat) (Option.none : Option Jvm.ClassFile.FieldType)) ∈ jv_T := jv_in 812 (by decide +kernel) (by decide +kernel)
theorem mw_813 : (Jvm.Cond.methodLink "TemperNursesModel" (1 : Nat) ({ cls := "java/lang/Object", name := "<init>", desc := "()V" } : Jvm.MethodName)) ∈ jv_T := jv_in 813 (by decide +kernel) (by decide +kernel)
theorem mw_814 : (Jvm.Cond.fieldLink "TemperNursesModel" (71 : Nat) "TemperNursesModel" "many" "I") ∈ jv_T := jv_in 814 (by decide +kernel) (by decide +kernel)
theorem mw_815 : (Jvm.Cond.fieldLink "TemperNursesModel" (79 : Nat) "TemperNursesModel" "nurses" "I") ∈ jv_T := jv_in 815 (by decide +kernel) (by decide +kernel)
theorem mw_816 : (Jvm.Cond.fieldLink "TemperNursesModel" (7 : Nat) "TemperNursesModel" "grows" "[I") ∈ jv_T := jv_in 816 (by decide +kernel) (by decide +kernel)
theorem mw_817 : (Jvm.Cond.fieldLink "TemperNursesModel" (13 : Nat) "TemperNursesModel" "due" "[I") ∈ jv_T := jv_in 817 (by decide +kernel) (by decide +kernel)
theorem mw_818 : (Jvm.Cond.fieldLink "TemperNursesModel" (16 : Nat) "TemperNursesModel" "clash" "[I") ∈ jv_T := jv_in 818 (by decide +kernel) (by decide +kernel)
theorem mw_819 : (Jvm.Cond.fieldLink "TemperNursesModel" (19 : Nat) "TemperNursesModel" "tames" "[I") ∈ jv_T := jv_in 819 (by decide +kernel) (by decide +kernel)
theorem mw_820 : (Jvm.Cond.fieldLink "TemperNursesModel" (22 : Nat) "TemperNursesModel" "room" "[I") ∈ jv_T := jv_in 820 (by decide +kernel) (by decide +kernel)
theorem mw_821 : (Jvm.Cond.fieldLink "TemperNursesModel" (25 : Nat) "TemperNursesModel" "holds" "[I") ∈ jv_T := jv_in 821 (by decide +kernel) (by decide +kernel)
theorem mw_822 : (Jvm.Cond.fieldLink "TemperNursesModel" (28 : Nat) "TemperNursesModel" "all" "[I") ∈ jv_T := jv_in 822 (by decide +kernel) (by decide +kernel)
theorem mw_823 : (Jvm.Cond.fieldLink "TemperNursesModel" (31 : Nat) "TemperNursesModel" "kept" "[I") ∈ jv_T := jv_in 823 (by decide +kernel) (by decide +kernel)
theorem mw_824 : (Jvm.Cond.fieldLink "TemperNursesModel" (34 : Nat) "TemperNursesModel" "isKept" "[Z") ∈ jv_T := jv_in 824 (by decide +kernel) (by decide +kernel)
theorem mw_825 : (Jvm.Cond.fieldLink "TemperNursesModel" (38 : Nat) "TemperNursesModel" "heardAt" "[I") ∈ jv_T := jv_in 825 (by decide +kernel) (by decide +kernel)
theorem mw_826 : (Jvm.Cond.fieldLink "TemperNursesModel" (41 : Nat) "TemperNursesModel" "heardBang" "[I") ∈ jv_T := jv_in 826 (by decide +kernel) (by decide +kernel)
theorem mw_827 : (Jvm.Cond.fieldLink "TemperNursesModel" (130 : Nat) "TemperNursesModel" "heard" "I") ∈ jv_T := jv_in 827 (by decide +kernel) (by decide +kernel)
theorem mw_828 : (Jvm.Cond.fieldLink "TemperNursesModel" (221 : Nat) "TemperNursesModel" "trace" "J") ∈ jv_T := jv_in 828 (by decide +kernel) (by decide +kernel)
theorem mw_829 : (Jvm.Cond.fieldLink "TemperNursesModel" (44 : Nat) "TemperNursesModel" "text" "[I") ∈ jv_T := jv_in 829 (by decide +kernel) (by decide +kernel)
theorem mw_830 : (Jvm.Cond.fieldLink "TemperNursesModel" (84 : Nat) "TemperNursesModel" "textLong" "I") ∈ jv_T := jv_in 830 (by decide +kernel) (by decide +kernel)
theorem mw_831 : (Jvm.Cond.fieldLink "TemperNursesModel" (97 : Nat) "TemperNursesModel" "token" "I") ∈ jv_T := jv_in 831 (by decide +kernel) (by decide +kernel)
theorem mw_832 : (Jvm.Cond.fieldLink "TemperNursesModel" (87 : Nat) "TemperNursesModel" "tokenAt" "I") ∈ jv_T := jv_in 832 (by decide +kernel) (by decide +kernel)
theorem mw_833 : (Jvm.Cond.fieldLink "TemperNursesModel" (100 : Nat) "TemperNursesModel" "tokenEnd" "I") ∈ jv_T := jv_in 833 (by decide +kernel) (by decide +kernel)
theorem mw_834 : (Jvm.Cond.fieldLink "TemperNursesModel" (90 : Nat) "TemperNursesModel" "value" "I") ∈ jv_T := jv_in 834 (by decide +kernel) (by decide +kernel)
theorem mw_835 : (Jvm.Cond.fieldLink "TemperNursesModel" (107 : Nat) "TemperNursesModel" "newMany" "I") ∈ jv_T := jv_in 835 (by decide +kernel) (by decide +kernel)
theorem mw_836 : (Jvm.Cond.fieldLink "TemperNursesModel" (113 : Nat) "TemperNursesModel" "newNurses" "I") ∈ jv_T := jv_in 836 (by decide +kernel) (by decide +kernel)
theorem mw_837 : (Jvm.Cond.fieldLink "TemperNursesModel" (47 : Nat) "TemperNursesModel" "newTold" "[I") ∈ jv_T := jv_in 837 (by decide +kernel) (by decide +kernel)
theorem mw_838 : (Jvm.Cond.fieldLink "TemperNursesModel" (50 : Nat) "TemperNursesModel" "values" "[I") ∈ jv_T := jv_in 838 (by decide +kernel) (by decide +kernel)
theorem mw_839 : (Jvm.Cond.fieldLink "TemperNursesModel" (53 : Nat) "TemperNursesModel" "goes" "[I") ∈ jv_T := jv_in 839 (by decide +kernel) (by decide +kernel)
theorem mw_840 : (Jvm.Cond.fieldLink "TemperNursesModel" (56 : Nat) "TemperNursesModel" "bestGoes" "[I") ∈ jv_T := jv_in 840 (by decide +kernel) (by decide +kernel)
theorem mw_841 : (Jvm.Cond.fieldLink "TemperNursesModel" (59 : Nat) "TemperNursesModel" "group" "[I") ∈ jv_T := jv_in 841 (by decide +kernel) (by decide +kernel)
theorem mw_842 : (Jvm.Cond.fieldLink "TemperNursesModel" (62 : Nat) "TemperNursesModel" "breaks" "[I") ∈ jv_T := jv_in 842 (by decide +kernel) (by decide +kernel)
theorem mw_843 : (Jvm.Cond.fieldLink "TemperNursesModel" (65 : Nat) "TemperNursesModel" "with" "[I") ∈ jv_T := jv_in 843 (by decide +kernel) (by decide +kernel)
theorem mw_844 : (Jvm.Cond.fieldLink "TemperNursesModel" (68 : Nat) "TemperNursesModel" "bestWith" "[I") ∈ jv_T := jv_in 844 (by decide +kernel) (by decide +kernel)
theorem mw_845 : (Jvm.Cond.lays "TemperNursesModel" "TemperNursesModel" "many" "I") ∈ jv_T := jv_in 845 (by decide +kernel) (by decide +kernel)
theorem mw_847 : (Jvm.Cond.lays "TemperNursesModel" "TemperNursesModel" "nurses" "I") ∈ jv_T := jv_in 847 (by decide +kernel) (by decide +kernel)
theorem mw_849 : (Jvm.Cond.laysFinal "TemperNursesModel" "TemperNursesModel" "grows" "[I") ∈ jv_T := jv_in 849 (by decide +kernel) (by decide +kernel)
theorem mw_851 : (Jvm.Cond.laysFinal "TemperNursesModel" "TemperNursesModel" "due" "[I") ∈ jv_T := jv_in 851 (by decide +kernel) (by decide +kernel)
theorem mw_853 : (Jvm.Cond.laysFinal "TemperNursesModel" "TemperNursesModel" "clash" "[I") ∈ jv_T := jv_in 853 (by decide +kernel) (by decide +kernel)
theorem mw_855 : (Jvm.Cond.laysFinal "TemperNursesModel" "TemperNursesModel" "tames" "[I") ∈ jv_T := jv_in 855 (by decide +kernel) (by decide +kernel)
theorem mw_857 : (Jvm.Cond.laysFinal "TemperNursesModel" "TemperNursesModel" "room" "[I") ∈ jv_T := jv_in 857 (by decide +kernel) (by decide +kernel)
theorem mw_859 : (Jvm.Cond.laysFinal "TemperNursesModel" "TemperNursesModel" "holds" "[I") ∈ jv_T := jv_in 859 (by decide +kernel) (by decide +kernel)
theorem mw_861 : (Jvm.Cond.laysFinal "TemperNursesModel" "TemperNursesModel" "all" "[I") ∈ jv_T := jv_in 861 (by decide +kernel) (by decide +kernel)
theorem mw_863 : (Jvm.Cond.laysFinal "TemperNursesModel" "TemperNursesModel" "kept" "[I") ∈ jv_T := jv_in 863 (by decide +kernel) (by decide +kernel)
theorem mw_865 : (Jvm.Cond.laysFinal "TemperNursesModel" "TemperNursesModel" "isKept" "[Z") ∈ jv_T := jv_in 865 (by decide +kernel) (by decide +kernel)
theorem mw_867 : (Jvm.Cond.laysFinal "TemperNursesModel" "TemperNursesModel" "heardAt" "[I") ∈ jv_T := jv_in 867 (by decide +kernel) (by decide +kernel)
theorem mw_869 : (Jvm.Cond.laysFinal "TemperNursesModel" "TemperNursesModel" "heardBang" "[I") ∈ jv_T := jv_in 869 (by decide +kernel) (by decide +kernel)
theorem mw_871 : (Jvm.Cond.lays "TemperNursesModel" "TemperNursesModel" "heard" "I") ∈ jv_T := jv_in 871 (by decide +kernel) (by decide +kernel)
theorem mw_873 : (Jvm.Cond.lays "TemperNursesModel" "TemperNursesModel" "trace" "J") ∈ jv_T := jv_in 873 (by decide +kernel) (by decide +kernel)
theorem mw_875 : (Jvm.Cond.laysFinal "TemperNursesModel" "TemperNursesModel" "text" "[I") ∈ jv_T := jv_in 875 (by decide +kernel) (by decide +kernel)
theorem mw_877 : (Jvm.Cond.lays "TemperNursesModel" "TemperNursesModel" "textLong" "I") ∈ jv_T := jv_in 877 (by decide +kernel) (by decide +kernel)
theorem mw_879 : (Jvm.Cond.lays "TemperNursesModel" "TemperNursesModel" "token" "I") ∈ jv_T := jv_in 879 (by decide +kernel) (by decide +kernel)
theorem mw_881 : (Jvm.Cond.lays "TemperNursesModel" "TemperNursesModel" "tokenAt" "I") ∈ jv_T := jv_in 881 (by decide +kernel) (by decide +kernel)
theorem mw_883 : (Jvm.Cond.lays "TemperNursesModel" "TemperNursesModel" "tokenEnd" "I") ∈ jv_T := jv_in 883 (by decide +kernel) (by decide +kernel)
theorem mw_885 : (Jvm.Cond.lays "TemperNursesModel" "TemperNursesModel" "value" "I") ∈ jv_T := jv_in 885 (by decide +kernel) (by decide +kernel)
theorem mw_887 : (Jvm.Cond.lays "TemperNursesModel" "TemperNursesModel" "newMany" "I") ∈ jv_T := jv_in 887 (by decide +kernel) (by decide +kernel)
theorem mw_889 : (Jvm.Cond.lays "TemperNursesModel" "TemperNursesModel" "newNurses" "I") ∈ jv_T := jv_in 889 (by decide +kernel) (by decide +kernel)
theorem mw_891 : (Jvm.Cond.laysFinal "TemperNursesModel" "TemperNursesModel" "newTold" "[I") ∈ jv_T := jv_in 891 (by decide +kernel) (by decide +kernel)
theorem mw_893 : (Jvm.Cond.laysFinal "TemperNursesModel" "TemperNursesModel" "values" "[I") ∈ jv_T := jv_in 893 (by decide +kernel) (by decide +kernel)
theorem mw_895 : (Jvm.Cond.laysFinal "TemperNursesModel" "TemperNursesModel" "goes" "[I") ∈ jv_T := jv_in 895 (by decide +kernel) (by decide +kernel)
theorem mw_897 : (Jvm.Cond.laysFinal "TemperNursesModel" "TemperNursesModel" "bestGoes" "[I") ∈ jv_T := jv_in 897 (by decide +kernel) (by decide +kernel)
theorem mw_899 : (Jvm.Cond.laysFinal "TemperNursesModel" "TemperNursesModel" "group" "[I") ∈ jv_T := jv_in 899 (by decide +kernel) (by decide +kernel)
theorem mw_901 : (Jvm.Cond.laysFinal "TemperNursesModel" "TemperNursesModel" "breaks" "[I") ∈ jv_T := jv_in 901 (by decide +kernel) (by decide +kernel)
theorem mw_903 : (Jvm.Cond.laysFinal "TemperNursesModel" "TemperNursesModel" "with" "[I") ∈ jv_T := jv_in 903 (by decide +kernel) (by decide +kernel)
theorem mw_905 : (Jvm.Cond.laysFinal "TemperNursesModel" "TemperNursesModel" "bestWith" "[I") ∈ jv_T := jv_in 905 (by decide +kernel) (by decide +kernel)
theorem mw_908 : (Jvm.Cond.arrayClass Jvm.ClassFile.FieldType.boolean) ∈ jv_T := jv_in 908 (by decide +kernel) (by decide +kernel)
theorem mw_910 : (Jvm.Cond.instanceMethod ({ cls := "TemperNursesModel", name := "type", desc := "(I)I" } : Jvm.MethodName)) ∈ jv_T := jv_in 910 (by decide +kernel) (by decide +kernel)
theorem mw_911 : (Jvm.Cond.selects "TemperNursesModel" ({ cls := "TemperNursesModel", name := "type", desc := "(I)I" } : Jvm.MethodName) ({ cls := "TemperNursesModel", name := "type", desc := "(I)I" } : Jvm.MethodName)) ∈ jv_T := jv_in 911 (by decide +kernel) (by decide +kernel)
theorem mw_912 : (Jvm.Cond.code ({ cls := "TemperNursesModel", name := "type", desc := "(I)I" } : Jvm.MethodName) prog_11_method_8_code (2 : Nat) (Option.some Jvm.ClassFile.FieldType.int)) ∈ jv_T := jv_in 912 (by decide +kernel) (by decide +kernel)
theorem mw_913 : (Jvm.Cond.constantLong "TemperNursesModel" (82 : Nat) (255 : Int64)) ∈ jv_T := jv_in 913 (by decide +kernel) (by decide +kernel)
theorem mw_914 : (Jvm.Cond.methodLink "TemperNursesModel" (75 : Nat) ({ cls := "TemperNursesModel", name := "in", desc := "(JJJ)Z" } : Jvm.MethodName)) ∈ jv_T := jv_in 914 (by decide +kernel) (by decide +kernel)
theorem mw_915 : (Jvm.Cond.static ({ cls := "TemperNursesModel", name := "in", desc := "(JJJ)Z" } : Jvm.MethodName)) ∈ jv_T := jv_in 915 (by decide +kernel) (by decide +kernel)
theorem mw_916 : (Jvm.Cond.code ({ cls := "TemperNursesModel", name := "in", desc := "(JJJ)Z" } : Jvm.MethodName) prog_11_method_3_code (6 : Nat) (Option.some Jvm.ClassFile.FieldType.boolean)) ∈ jv_T := jv_in 916 (by decide +kernel) (by decide +kernel)
theorem mw_918 : (Jvm.Cond.instanceMethod ({ cls := "TemperNursesModel", name := "clear", desc := "()I" } : Jvm.MethodName)) ∈ jv_T := jv_in 918 (by decide +kernel) (by decide +kernel)
theorem mw_919 : (Jvm.Cond.selects "TemperNursesModel" ({ cls := "TemperNursesModel", name := "clear", desc := "()I" } : Jvm.MethodName) ({ cls := "TemperNursesModel", name := "clear", desc := "()I" } : Jvm.MethodName)) ∈ jv_T := jv_in 919 (by decide +kernel) (by decide +kernel)
theorem mw_920 : (Jvm.Cond.code ({ cls := "TemperNursesModel", name := "clear", desc := "()I" } : Jvm.MethodName) prog_11_method_9_code (2 : Nat) (Option.some Jvm.ClassFile.FieldType.int)) ∈ jv_T := jv_in 920 (by decide +kernel) (by decide +kernel)
theorem mw_922 : (Jvm.Cond.instanceMethod ({ cls := "TemperNursesModel", name := "hill", desc := "()I" } : Jvm.MethodName)) ∈ jv_T := jv_in 922 (by decide +kernel) (by decide +kernel)
theorem mw_923 : (Jvm.Cond.selects "TemperNursesModel" ({ cls := "TemperNursesModel", name := "hill", desc := "()I" } : Jvm.MethodName) ({ cls := "TemperNursesModel", name := "hill", desc := "()I" } : Jvm.MethodName)) ∈ jv_T := jv_in 923 (by decide +kernel) (by decide +kernel)
theorem mw_924 : (Jvm.Cond.code ({ cls := "TemperNursesModel", name := "hill", desc := "()I" } : Jvm.MethodName) prog_11_method_19_code (2 : Nat) (Option.some Jvm.ClassFile.FieldType.int)) ∈ jv_T := jv_in 924 (by decide +kernel) (by decide +kernel)
theorem mw_925 : (Jvm.Cond.methodLink "TemperNursesModel" (103 : Nat) ({ cls := "TemperNursesModel", name := "lookAt", desc := "(I)V" } : Jvm.MethodName)) ∈ jv_T := jv_in 925 (by decide +kernel) (by decide +kernel)
theorem mw_927 : (Jvm.Cond.instanceMethod ({ cls := "TemperNursesModel", name := "lookAt", desc := "(I)V" } : Jvm.MethodName)) ∈ jv_T := jv_in 927 (by decide +kernel) (by decide +kernel)
theorem mw_928 : (Jvm.Cond.code ({ cls := "TemperNursesModel", name := "lookAt", desc := "(I)V" } : Jvm.MethodName) prog_11_method_11_code (4 : Nat) (Option.none : Option Jvm.ClassFile.FieldType)) ∈ jv_T := jv_in 928 (by decide +kernel) (by decide +kernel)
theorem mw_929 : (Jvm.Cond.methodLink "TemperNursesModel" (93 : Nat) ({ cls := "TemperNursesModel", name := "isBetween", desc := "(III)Z" } : Jvm.MethodName)) ∈ jv_T := jv_in 929 (by decide +kernel) (by decide +kernel)
theorem mw_931 : (Jvm.Cond.instanceMethod ({ cls := "TemperNursesModel", name := "isBetween", desc := "(III)Z" } : Jvm.MethodName)) ∈ jv_T := jv_in 931 (by decide +kernel) (by decide +kernel)
theorem mw_932 : (Jvm.Cond.code ({ cls := "TemperNursesModel", name := "isBetween", desc := "(III)Z" } : Jvm.MethodName) prog_11_method_10_code (4 : Nat) (Option.some Jvm.ClassFile.FieldType.boolean)) ∈ jv_T := jv_in 932 (by decide +kernel) (by decide +kernel)
theorem mw_933 : (Jvm.Cond.methodLink "TemperNursesModel" (133 : Nat) ({ cls := "TemperNursesModel", name := "takesItem", desc := "()Z" } : Jvm.MethodName)) ∈ jv_T := jv_in 933 (by decide +kernel) (by decide +kernel)
theorem mw_935 : (Jvm.Cond.instanceMethod ({ cls := "TemperNursesModel", name := "takesItem", desc := "()Z" } : Jvm.MethodName)) ∈ jv_T := jv_in 935 (by decide +kernel) (by decide +kernel)
theorem mw_936 : (Jvm.Cond.code ({ cls := "TemperNursesModel", name := "takesItem", desc := "()Z" } : Jvm.MethodName) prog_11_method_17_code (1 : Nat) (Option.some Jvm.ClassFile.FieldType.boolean)) ∈ jv_T := jv_in 936 (by decide +kernel) (by decide +kernel)
theorem mw_937 : (Jvm.Cond.methodLink "TemperNursesModel" (116 : Nat) ({ cls := "TemperNursesModel", name := "isLetter", desc := "(I)Z" } : Jvm.MethodName)) ∈ jv_T := jv_in 937 (by decide +kernel) (by decide +kernel)
theorem mw_939 : (Jvm.Cond.instanceMethod ({ cls := "TemperNursesModel", name := "isLetter", desc := "(I)Z" } : Jvm.MethodName)) ∈ jv_T := jv_in 939 (by decide +kernel) (by decide +kernel)
theorem mw_940 : (Jvm.Cond.code ({ cls := "TemperNursesModel", name := "isLetter", desc := "(I)Z" } : Jvm.MethodName) prog_11_method_12_code (2 : Nat) (Option.some Jvm.ClassFile.FieldType.boolean)) ∈ jv_T := jv_in 940 (by decide +kernel) (by decide +kernel)
theorem mw_941 : (Jvm.Cond.methodLink "TemperNursesModel" (120 : Nat) ({ cls := "TemperNursesModel", name := "takesTemper", desc := "()Z" } : Jvm.MethodName)) ∈ jv_T := jv_in 941 (by decide +kernel) (by decide +kernel)
theorem mw_943 : (Jvm.Cond.instanceMethod ({ cls := "TemperNursesModel", name := "takesTemper", desc := "()Z" } : Jvm.MethodName)) ∈ jv_T := jv_in 943 (by decide +kernel) (by decide +kernel)
theorem mw_944 : (Jvm.Cond.code ({ cls := "TemperNursesModel", name := "takesTemper", desc := "()Z" } : Jvm.MethodName) prog_11_method_14_code (2 : Nat) (Option.some Jvm.ClassFile.FieldType.boolean)) ∈ jv_T := jv_in 944 (by decide +kernel) (by decide +kernel)
theorem mw_945 : (Jvm.Cond.methodLink "TemperNursesModel" (110 : Nat) ({ cls := "TemperNursesModel", name := "takes", desc := "(III)Z" } : Jvm.MethodName)) ∈ jv_T := jv_in 945 (by decide +kernel) (by decide +kernel)
theorem mw_947 : (Jvm.Cond.instanceMethod ({ cls := "TemperNursesModel", name := "takes", desc := "(III)Z" } : Jvm.MethodName)) ∈ jv_T := jv_in 947 (by decide +kernel) (by decide +kernel)
theorem mw_948 : (Jvm.Cond.code ({ cls := "TemperNursesModel", name := "takes", desc := "(III)Z" } : Jvm.MethodName) prog_11_method_13_code (4 : Nat) (Option.some Jvm.ClassFile.FieldType.boolean)) ∈ jv_T := jv_in 948 (by decide +kernel) (by decide +kernel)
theorem mw_949 : (Jvm.Cond.methodLink "TemperNursesModel" (124 : Nat) ({ cls := "TemperNursesModel", name := "takesNurse", desc := "()Z" } : Jvm.MethodName)) ∈ jv_T := jv_in 949 (by decide +kernel) (by decide +kernel)
theorem mw_951 : (Jvm.Cond.instanceMethod ({ cls := "TemperNursesModel", name := "takesNurse", desc := "()Z" } : Jvm.MethodName)) ∈ jv_T := jv_in 951 (by decide +kernel) (by decide +kernel)
theorem mw_952 : (Jvm.Cond.code ({ cls := "TemperNursesModel", name := "takesNurse", desc := "()Z" } : Jvm.MethodName) prog_11_method_15_code (2 : Nat) (Option.some Jvm.ClassFile.FieldType.boolean)) ∈ jv_T := jv_in 952 (by decide +kernel) (by decide +kernel)
theorem mw_953 : (Jvm.Cond.methodLink "TemperNursesModel" (127 : Nat) ({ cls := "TemperNursesModel", name := "takesClash", desc := "()Z" } : Jvm.MethodName)) ∈ jv_T := jv_in 953 (by decide +kernel) (by decide +kernel)
theorem mw_955 : (Jvm.Cond.instanceMethod ({ cls := "TemperNursesModel", name := "takesClash", desc := "()Z" } : Jvm.MethodName)) ∈ jv_T := jv_in 955 (by decide +kernel) (by decide +kernel)
theorem mw_956 : (Jvm.Cond.code ({ cls := "TemperNursesModel", name := "takesClash", desc := "()Z" } : Jvm.MethodName) prog_11_method_16_code (1 : Nat) (Option.some Jvm.ClassFile.FieldType.boolean)) ∈ jv_T := jv_in 956 (by decide +kernel) (by decide +kernel)
theorem mw_957 : (Jvm.Cond.methodLink "TemperNursesModel" (136 : Nat) ({ cls := "TemperNursesModel", name := "takeAll", desc := "()V" } : Jvm.MethodName)) ∈ jv_T := jv_in 957 (by decide +kernel) (by decide +kernel)
theorem mw_959 : (Jvm.Cond.instanceMethod ({ cls := "TemperNursesModel", name := "takeAll", desc := "()V" } : Jvm.MethodName)) ∈ jv_T := jv_in 959 (by decide +kernel) (by decide +kernel)
theorem mw_960 : (Jvm.Cond.code ({ cls := "TemperNursesModel", name := "takeAll", desc := "()V" } : Jvm.MethodName) prog_11_method_18_code (2 : Nat) (Option.none : Option Jvm.ClassFile.FieldType)) ∈ jv_T := jv_in 960 (by decide +kernel) (by decide +kernel)
theorem mw_962 : (Jvm.Cond.instanceMethod ({ cls := "TemperNursesModel", name := "temper", desc := "(II)I" } : Jvm.MethodName)) ∈ jv_T := jv_in 962 (by decide +kernel) (by decide +kernel)
theorem mw_963 : (Jvm.Cond.selects "TemperNursesModel" ({ cls := "TemperNursesModel", name := "temper", desc := "(II)I" } : Jvm.MethodName) ({ cls := "TemperNursesModel", name := "temper", desc := "(II)I" } : Jvm.MethodName)) ∈ jv_T := jv_in 963 (by decide +kernel) (by decide +kernel)
theorem mw_964 : (Jvm.Cond.code ({ cls := "TemperNursesModel", name := "temper", desc := "(II)I" } : Jvm.MethodName) prog_11_method_24_code (3 : Nat) (Option.some Jvm.ClassFile.FieldType.int)) ∈ jv_T := jv_in 964 (by decide +kernel) (by decide +kernel)
theorem mw_965 : (Jvm.Cond.methodLink "TemperNursesModel" (149 : Nat) ({ cls := "TemperNursesModel", name := "isTemper", desc := "(I)Z" } : Jvm.MethodName)) ∈ jv_T := jv_in 965 (by decide +kernel) (by decide +kernel)
theorem mw_967 : (Jvm.Cond.instanceMethod ({ cls := "TemperNursesModel", name := "isTemper", desc := "(I)Z" } : Jvm.MethodName)) ∈ jv_T := jv_in 967 (by decide +kernel) (by decide +kernel)
theorem mw_968 : (Jvm.Cond.code ({ cls := "TemperNursesModel", name := "isTemper", desc := "(I)Z" } : Jvm.MethodName) prog_11_method_6_code (2 : Nat) (Option.some Jvm.ClassFile.FieldType.boolean)) ∈ jv_T := jv_in 968 (by decide +kernel) (by decide +kernel)
theorem mw_969 : (Jvm.Cond.constantLong "TemperNursesModel" (152 : Nat) (6 : Int64)) ∈ jv_T := jv_in 969 (by decide +kernel) (by decide +kernel)
theorem mw_970 : (Jvm.Cond.methodLink "TemperNursesModel" (143 : Nat) ({ cls := "TemperNursesModel", name := "heat", desc := "(I)I" } : Jvm.MethodName)) ∈ jv_T := jv_in 970 (by decide +kernel) (by decide +kernel)
theorem mw_972 : (Jvm.Cond.instanceMethod ({ cls := "TemperNursesModel", name := "heat", desc := "(I)I" } : Jvm.MethodName)) ∈ jv_T := jv_in 972 (by decide +kernel) (by decide +kernel)
theorem mw_973 : (Jvm.Cond.code ({ cls := "TemperNursesModel", name := "heat", desc := "(I)I" } : Jvm.MethodName) prog_11_method_20_code (2 : Nat) (Option.some Jvm.ClassFile.FieldType.int)) ∈ jv_T := jv_in 973 (by decide +kernel) (by decide +kernel)
theorem mw_974 : (Jvm.Cond.methodLink "TemperNursesModel" (154 : Nat) ({ cls := "TemperNursesModel", name := "ring", desc := "(I)I" } : Jvm.MethodName)) ∈ jv_T := jv_in 974 (by decide +kernel) (by decide +kernel)
theorem mw_976 : (Jvm.Cond.instanceMethod ({ cls := "TemperNursesModel", name := "ring", desc := "(I)I" } : Jvm.MethodName)) ∈ jv_T := jv_in 976 (by decide +kernel) (by decide +kernel)
theorem mw_977 : (Jvm.Cond.code ({ cls := "TemperNursesModel", name := "ring", desc := "(I)I" } : Jvm.MethodName) prog_11_method_23_code (4 : Nat) (Option.some Jvm.ClassFile.FieldType.int)) ∈ jv_T := jv_in 977 (by decide +kernel) (by decide +kernel)
theorem mw_979 : (Jvm.Cond.instanceMethod ({ cls := "TemperNursesModel", name := "nurse", desc := "(II)I" } : Jvm.MethodName)) ∈ jv_T := jv_in 979 (by decide +kernel) (by decide +kernel)
theorem mw_980 : (Jvm.Cond.selects "TemperNursesModel" ({ cls := "TemperNursesModel", name := "nurse", desc := "(II)I" } : Jvm.MethodName) ({ cls := "TemperNursesModel", name := "nurse", desc := "(II)I" } : Jvm.MethodName)) ∈ jv_T := jv_in 980 (by decide +kernel) (by decide +kernel)
theorem mw_981 : (Jvm.Cond.code ({ cls := "TemperNursesModel", name := "nurse", desc := "(II)I" } : Jvm.MethodName) prog_11_method_25_code (5 : Nat) (Option.some Jvm.ClassFile.FieldType.int)) ∈ jv_T := jv_in 981 (by decide +kernel) (by decide +kernel)
theorem mw_982 : (Jvm.Cond.methodLink "TemperNursesModel" (157 : Nat) ({ cls := "TemperNursesModel", name := "isNurse", desc := "(I)Z" } : Jvm.MethodName)) ∈ jv_T := jv_in 982 (by decide +kernel) (by decide +kernel)
theorem mw_984 : (Jvm.Cond.instanceMethod ({ cls := "TemperNursesModel", name := "isNurse", desc := "(I)Z" } : Jvm.MethodName)) ∈ jv_T := jv_in 984 (by decide +kernel) (by decide +kernel)
theorem mw_985 : (Jvm.Cond.code ({ cls := "TemperNursesModel", name := "isNurse", desc := "(I)Z" } : Jvm.MethodName) prog_11_method_7_code (2 : Nat) (Option.some Jvm.ClassFile.FieldType.boolean)) ∈ jv_T := jv_in 985 (by decide +kernel) (by decide +kernel)
theorem mw_986 : (Jvm.Cond.constantLong "TemperNursesModel" (160 : Nat) (4 : Int64)) ∈ jv_T := jv_in 986 (by decide +kernel) (by decide +kernel)
theorem mw_987 : (Jvm.Cond.methodLink "TemperNursesModel" (162 : Nat) ({ cls := "TemperNursesModel", name := "maySend", desc := "(II)Z" } : Jvm.MethodName)) ∈ jv_T := jv_in 987 (by decide +kernel) (by decide +kernel)
theorem mw_989 : (Jvm.Cond.instanceMethod ({ cls := "TemperNursesModel", name := "maySend", desc := "(II)Z" } : Jvm.MethodName)) ∈ jv_T := jv_in 989 (by decide +kernel) (by decide +kernel)
theorem mw_990 : (Jvm.Cond.code ({ cls := "TemperNursesModel", name := "maySend", desc := "(II)Z" } : Jvm.MethodName) prog_11_method_22_code (4 : Nat) (Option.some Jvm.ClassFile.FieldType.boolean)) ∈ jv_T := jv_in 990 (by decide +kernel) (by decide +kernel)
theorem mw_991 : (Jvm.Cond.methodLink "TemperNursesModel" (139 : Nat) ({ cls := "TemperNursesModel", name := "whom", desc := "(I)I" } : Jvm.MethodName)) ∈ jv_T := jv_in 991 (by decide +kernel) (by decide +kernel)
theorem mw_993 : (Jvm.Cond.instanceMethod ({ cls := "TemperNursesModel", name := "whom", desc := "(I)I" } : Jvm.MethodName)) ∈ jv_T := jv_in 993 (by decide +kernel) (by decide +kernel)
theorem mw_994 : (Jvm.Cond.code ({ cls := "TemperNursesModel", name := "whom", desc := "(I)I" } : Jvm.MethodName) prog_11_method_21_code (4 : Nat) (Option.some Jvm.ClassFile.FieldType.int)) ∈ jv_T := jv_in 994 (by decide +kernel) (by decide +kernel)
theorem mw_995 : (Jvm.Cond.methodLink "TemperNursesModel" (146 : Nat) ({ cls := "TemperNursesModel", name := "bits", desc := "(I)I" } : Jvm.MethodName)) ∈ jv_T := jv_in 995 (by decide +kernel) (by decide +kernel)
theorem mw_996 : (Jvm.Cond.static ({ cls := "TemperNursesModel", name := "bits", desc := "(I)I" } : Jvm.MethodName)) ∈ jv_T := jv_in 996 (by decide +kernel) (by decide +kernel)
theorem mw_997 : (Jvm.Cond.code ({ cls := "TemperNursesModel", name := "bits", desc := "(I)I" } : Jvm.MethodName) prog_11_method_5_code (3 : Nat) (Option.some Jvm.ClassFile.FieldType.int)) ∈ jv_T := jv_in 997 (by decide +kernel) (by decide +kernel)
theorem mw_999 : (Jvm.Cond.instanceMethod ({ cls := "TemperNursesModel", name := "sends", desc := "(II)I" } : Jvm.MethodName)) ∈ jv_T := jv_in 999 (by decide +kernel) (by decide +kernel)
theorem mw_1000 : (Jvm.Cond.selects "TemperNursesModel" ({ cls := "TemperNursesModel", name := "sends", desc := "(II)I" } : Jvm.MethodName) ({ cls := "TemperNursesModel", name := "sends", desc := "(II)I" } : Jvm.MethodName)) ∈ jv_T := jv_in 1000 (by decide +kernel) (by decide +kernel)
theorem mw_1001 : (Jvm.Cond.code ({ cls := "TemperNursesModel", name := "sends", desc := "(II)I" } : Jvm.MethodName) prog_11_method_27_code (3 : Nat) (Option.some Jvm.ClassFile.FieldType.int)) ∈ jv_T := jv_in 1001 (by decide +kernel) (by decide +kernel)
theorem mw_1002 : (Jvm.Cond.methodLink "TemperNursesModel" (166 : Nat) ({ cls := "TemperNursesModel", name := "save", desc := "()V" } : Jvm.MethodName)) ∈ jv_T := jv_in 1002 (by decide +kernel) (by decide +kernel)
theorem mw_1004 : (Jvm.Cond.instanceMethod ({ cls := "TemperNursesModel", name := "save", desc := "()V" } : Jvm.MethodName)) ∈ jv_T := jv_in 1004 (by decide +kernel) (by decide +kernel)
theorem mw_1005 : (Jvm.Cond.code ({ cls := "TemperNursesModel", name := "save", desc := "()V" } : Jvm.MethodName) prog_11_method_26_code (2 : Nat) (Option.none : Option Jvm.ClassFile.FieldType)) ∈ jv_T := jv_in 1005 (by decide +kernel) (by decide +kernel)
theorem mw_1007 : (Jvm.Cond.instanceMethod ({ cls := "TemperNursesModel", name := "fetches", desc := "(I)I" } : Jvm.MethodName)) ∈ jv_T := jv_in 1007 (by decide +kernel) (by decide +kernel)
theorem mw_1008 : (Jvm.Cond.selects "TemperNursesModel" ({ cls := "TemperNursesModel", name := "fetches", desc := "(I)I" } : Jvm.MethodName) ({ cls := "TemperNursesModel", name := "fetches", desc := "(I)I" } : Jvm.MethodName)) ∈ jv_T := jv_in 1008 (by decide +kernel) (by decide +kernel)
theorem mw_1009 : (Jvm.Cond.code ({ cls := "TemperNursesModel", name := "fetches", desc := "(I)I" } : Jvm.MethodName) prog_11_method_28_code (3 : Nat) (Option.some Jvm.ClassFile.FieldType.int)) ∈ jv_T := jv_in 1009 (by decide +kernel) (by decide +kernel)
theorem mw_1011 : (Jvm.Cond.instanceMethod ({ cls := "TemperNursesModel", name := "visits", desc := "(I)I" } : Jvm.MethodName)) ∈ jv_T := jv_in 1011 (by decide +kernel) (by decide +kernel)
theorem mw_1012 : (Jvm.Cond.selects "TemperNursesModel" ({ cls := "TemperNursesModel", name := "visits", desc := "(I)I" } : Jvm.MethodName) ({ cls := "TemperNursesModel", name := "visits", desc := "(I)I" } : Jvm.MethodName)) ∈ jv_T := jv_in 1012 (by decide +kernel) (by decide +kernel)
theorem mw_1013 : (Jvm.Cond.code ({ cls := "TemperNursesModel", name := "visits", desc := "(I)I" } : Jvm.MethodName) prog_11_method_29_code (2 : Nat) (Option.some Jvm.ClassFile.FieldType.int)) ∈ jv_T := jv_in 1013 (by decide +kernel) (by decide +kernel)
theorem mw_1015 : (Jvm.Cond.instanceMethod ({ cls := "TemperNursesModel", name := "mixes", desc := "(II)I" } : Jvm.MethodName)) ∈ jv_T := jv_in 1015 (by decide +kernel) (by decide +kernel)
theorem mw_1016 : (Jvm.Cond.selects "TemperNursesModel" ({ cls := "TemperNursesModel", name := "mixes", desc := "(II)I" } : Jvm.MethodName) ({ cls := "TemperNursesModel", name := "mixes", desc := "(II)I" } : Jvm.MethodName)) ∈ jv_T := jv_in 1016 (by decide +kernel) (by decide +kernel)
theorem mw_1017 : (Jvm.Cond.code ({ cls := "TemperNursesModel", name := "mixes", desc := "(II)I" } : Jvm.MethodName) prog_11_method_31_code (4 : Nat) (Option.some Jvm.ClassFile.FieldType.int)) ∈ jv_T := jv_in 1017 (by decide +kernel) (by decide +kernel)
theorem mw_1018 : (Jvm.Cond.methodLink "TemperNursesModel" (169 : Nat) ({ cls := "TemperNursesModel", name := "right", desc := "()I" } : Jvm.MethodName)) ∈ jv_T := jv_in 1018 (by decide +kernel) (by decide +kernel)
theorem mw_1020 : (Jvm.Cond.instanceMethod ({ cls := "TemperNursesModel", name := "right", desc := "()I" } : Jvm.MethodName)) ∈ jv_T := jv_in 1020 (by decide +kernel) (by decide +kernel)
theorem mw_1021 : (Jvm.Cond.code ({ cls := "TemperNursesModel", name := "right", desc := "()I" } : Jvm.MethodName) prog_11_method_30_code (4 : Nat) (Option.some Jvm.ClassFile.FieldType.int)) ∈ jv_T := jv_in 1021 (by decide +kernel) (by decide +kernel)
theorem mw_1023 : (Jvm.Cond.instanceMethod ({ cls := "TemperNursesModel", name := "years", desc := "(I)I" } : Jvm.MethodName)) ∈ jv_T := jv_in 1023 (by decide +kernel) (by decide +kernel)
theorem mw_1024 : (Jvm.Cond.selects "TemperNursesModel" ({ cls := "TemperNursesModel", name := "years", desc := "(I)I" } : Jvm.MethodName) ({ cls := "TemperNursesModel", name := "years", desc := "(I)I" } : Jvm.MethodName)) ∈ jv_T := jv_in 1024 (by decide +kernel) (by decide +kernel)
theorem mw_1025 : (Jvm.Cond.code ({ cls := "TemperNursesModel", name := "years", desc := "(I)I" } : Jvm.MethodName) prog_11_method_34_code (4 : Nat) (Option.some Jvm.ClassFile.FieldType.int)) ∈ jv_T := jv_in 1025 (by decide +kernel) (by decide +kernel)
theorem mw_1026 : (Jvm.Cond.constantLong "TemperNursesModel" (173 : Nat) (9 : Int64)) ∈ jv_T := jv_in 1026 (by decide +kernel) (by decide +kernel)
theorem mw_1027 : (Jvm.Cond.methodLink "TemperNursesModel" (175 : Nat) ({ cls := "TemperNursesModel", name := "aged", desc := "(III)I" } : Jvm.MethodName)) ∈ jv_T := jv_in 1027 (by decide +kernel) (by decide +kernel)
theorem mw_1029 : (Jvm.Cond.instanceMethod ({ cls := "TemperNursesModel", name := "aged", desc := "(III)I" } : Jvm.MethodName)) ∈ jv_T := jv_in 1029 (by decide +kernel) (by decide +kernel)
theorem mw_1030 : (Jvm.Cond.code ({ cls := "TemperNursesModel", name := "aged", desc := "(III)I" } : Jvm.MethodName) prog_11_method_32_code (6 : Nat) (Option.some Jvm.ClassFile.FieldType.int)) ∈ jv_T := jv_in 1030 (by decide +kernel) (by decide +kernel)
theorem mw_1031 : (Jvm.Cond.methodLink "TemperNursesModel" (179 : Nat) ({ cls := "TemperNursesModel", name := "broken", desc := "()I" } : Jvm.MethodName)) ∈ jv_T := jv_in 1031 (by decide +kernel) (by decide +kernel)
theorem mw_1033 : (Jvm.Cond.instanceMethod ({ cls := "TemperNursesModel", name := "broken", desc := "()I" } : Jvm.MethodName)) ∈ jv_T := jv_in 1033 (by decide +kernel) (by decide +kernel)
theorem mw_1034 : (Jvm.Cond.code ({ cls := "TemperNursesModel", name := "broken", desc := "()I" } : Jvm.MethodName) prog_11_method_33_code (3 : Nat) (Option.some Jvm.ClassFile.FieldType.int)) ∈ jv_T := jv_in 1034 (by decide +kernel) (by decide +kernel)
theorem mw_1036 : (Jvm.Cond.instanceMethod ({ cls := "TemperNursesModel", name := "undo", desc := "()I" } : Jvm.MethodName)) ∈ jv_T := jv_in 1036 (by decide +kernel) (by decide +kernel)
theorem mw_1037 : (Jvm.Cond.selects "TemperNursesModel" ({ cls := "TemperNursesModel", name := "undo", desc := "()I" } : Jvm.MethodName) ({ cls := "TemperNursesModel", name := "undo", desc := "()I" } : Jvm.MethodName)) ∈ jv_T := jv_in 1037 (by decide +kernel) (by decide +kernel)
theorem mw_1038 : (Jvm.Cond.code ({ cls := "TemperNursesModel", name := "undo", desc := "()I" } : Jvm.MethodName) prog_11_method_35_code (2 : Nat) (Option.some Jvm.ClassFile.FieldType.int)) ∈ jv_T := jv_in 1038 (by decide +kernel) (by decide +kernel)
theorem mw_1040 : (Jvm.Cond.instanceMethod ({ cls := "TemperNursesModel", name := "now", desc := "(I)I" } : Jvm.MethodName)) ∈ jv_T := jv_in 1040 (by decide +kernel) (by decide +kernel)
theorem mw_1041 : (Jvm.Cond.selects "TemperNursesModel" ({ cls := "TemperNursesModel", name := "now", desc := "(I)I" } : Jvm.MethodName) ({ cls := "TemperNursesModel", name := "now", desc := "(I)I" } : Jvm.MethodName)) ∈ jv_T := jv_in 1041 (by decide +kernel) (by decide +kernel)
theorem mw_1042 : (Jvm.Cond.code ({ cls := "TemperNursesModel", name := "now", desc := "(I)I" } : Jvm.MethodName) prog_11_method_36_code (4 : Nat) (Option.some Jvm.ClassFile.FieldType.int)) ∈ jv_T := jv_in 1042 (by decide +kernel) (by decide +kernel)
theorem mw_1043 : (Jvm.Cond.methodLink "TemperNursesModel" (182 : Nat) ({ cls := "TemperNursesModel", name := "soonest", desc := "()I" } : Jvm.MethodName)) ∈ jv_T := jv_in 1043 (by decide +kernel) (by decide +kernel)
theorem mw_1045 : (Jvm.Cond.instanceMethod ({ cls := "TemperNursesModel", name := "soonest", desc := "()I" } : Jvm.MethodName)) ∈ jv_T := jv_in 1045 (by decide +kernel) (by decide +kernel)
theorem mw_1046 : (Jvm.Cond.code ({ cls := "TemperNursesModel", name := "soonest", desc := "()I" } : Jvm.MethodName) prog_11_method_44_code (6 : Nat) (Option.some Jvm.ClassFile.FieldType.int)) ∈ jv_T := jv_in 1046 (by decide +kernel) (by decide +kernel)
theorem mw_1047 : (Jvm.Cond.constant "TemperNursesModel" (200 : Nat) (1000000 : Int32)) ∈ jv_T := jv_in 1047 (by decide +kernel) (by decide +kernel)
theorem mw_1048 : (Jvm.Cond.methodLink "TemperNursesModel" (185 : Nat) ({ cls := "TemperNursesModel", name := "whenBroken", desc := "(II)I" } : Jvm.MethodName)) ∈ jv_T := jv_in 1048 (by decide +kernel) (by decide +kernel)
theorem mw_1050 : (Jvm.Cond.instanceMethod ({ cls := "TemperNursesModel", name := "whenBroken", desc := "(II)I" } : Jvm.MethodName)) ∈ jv_T := jv_in 1050 (by decide +kernel) (by decide +kernel)
theorem mw_1051 : (Jvm.Cond.code ({ cls := "TemperNursesModel", name := "whenBroken", desc := "(II)I" } : Jvm.MethodName) prog_11_method_37_code (5 : Nat) (Option.some Jvm.ClassFile.FieldType.int)) ∈ jv_T := jv_in 1051 (by decide +kernel) (by decide +kernel)
theorem mw_1052 : (Jvm.Cond.methodLink "TemperNursesModel" (194 : Nat) ({ cls := "TemperNursesModel", name := "ways", desc := "()I" } : Jvm.MethodName)) ∈ jv_T := jv_in 1052 (by decide +kernel) (by decide +kernel)
theorem mw_1054 : (Jvm.Cond.instanceMethod ({ cls := "TemperNursesModel", name := "ways", desc := "()I" } : Jvm.MethodName)) ∈ jv_T := jv_in 1054 (by decide +kernel) (by decide +kernel)
theorem mw_1055 : (Jvm.Cond.code ({ cls := "TemperNursesModel", name := "ways", desc := "()I" } : Jvm.MethodName) prog_11_method_41_code (3 : Nat) (Option.some Jvm.ClassFile.FieldType.int)) ∈ jv_T := jv_in 1055 (by decide +kernel) (by decide +kernel)
theorem mw_1056 : (Jvm.Cond.methodLink "TemperNursesModel" (197 : Nat) ({ cls := "TemperNursesModel", name := "mayBe", desc := "(I)Z" } : Jvm.MethodName)) ∈ jv_T := jv_in 1056 (by decide +kernel) (by decide +kernel)
theorem mw_1058 : (Jvm.Cond.instanceMethod ({ cls := "TemperNursesModel", name := "mayBe", desc := "(I)Z" } : Jvm.MethodName)) ∈ jv_T := jv_in 1058 (by decide +kernel) (by decide +kernel)
theorem mw_1059 : (Jvm.Cond.code ({ cls := "TemperNursesModel", name := "mayBe", desc := "(I)Z" } : Jvm.MethodName) prog_11_method_42_code (6 : Nat) (Option.some Jvm.ClassFile.FieldType.boolean)) ∈ jv_T := jv_in 1059 (by decide +kernel) (by decide +kernel)
theorem mw_1061 : (Jvm.Cond.instanceMethod ({ cls := "TemperNursesModel", name := "when", desc := "(II)I" } : Jvm.MethodName)) ∈ jv_T := jv_in 1061 (by decide +kernel) (by decide +kernel)
theorem mw_1062 : (Jvm.Cond.selects "TemperNursesModel" ({ cls := "TemperNursesModel", name := "when", desc := "(II)I" } : Jvm.MethodName) ({ cls := "TemperNursesModel", name := "when", desc := "(II)I" } : Jvm.MethodName)) ∈ jv_T := jv_in 1062 (by decide +kernel) (by decide +kernel)
theorem mw_1063 : (Jvm.Cond.code ({ cls := "TemperNursesModel", name := "when", desc := "(II)I" } : Jvm.MethodName) prog_11_method_38_code (3 : Nat) (Option.some Jvm.ClassFile.FieldType.int)) ∈ jv_T := jv_in 1063 (by decide +kernel) (by decide +kernel)
theorem mw_1065 : (Jvm.Cond.instanceMethod ({ cls := "TemperNursesModel", name := "hot", desc := "(II)I" } : Jvm.MethodName)) ∈ jv_T := jv_in 1065 (by decide +kernel) (by decide +kernel)
theorem mw_1066 : (Jvm.Cond.selects "TemperNursesModel" ({ cls := "TemperNursesModel", name := "hot", desc := "(II)I" } : Jvm.MethodName) ({ cls := "TemperNursesModel", name := "hot", desc := "(II)I" } : Jvm.MethodName)) ∈ jv_T := jv_in 1066 (by decide +kernel) (by decide +kernel)
theorem mw_1067 : (Jvm.Cond.code ({ cls := "TemperNursesModel", name := "hot", desc := "(II)I" } : Jvm.MethodName) prog_11_method_40_code (3 : Nat) (Option.some Jvm.ClassFile.FieldType.int)) ∈ jv_T := jv_in 1067 (by decide +kernel) (by decide +kernel)
theorem mw_1068 : (Jvm.Cond.constantLong "TemperNursesModel" (189 : Nat) (99 : Int64)) ∈ jv_T := jv_in 1068 (by decide +kernel) (by decide +kernel)
theorem mw_1069 : (Jvm.Cond.methodLink "TemperNursesModel" (191 : Nat) ({ cls := "TemperNursesModel", name := "hotIn", desc := "(II)I" } : Jvm.MethodName)) ∈ jv_T := jv_in 1069 (by decide +kernel) (by decide +kernel)
theorem mw_1071 : (Jvm.Cond.instanceMethod ({ cls := "TemperNursesModel", name := "hotIn", desc := "(II)I" } : Jvm.MethodName)) ∈ jv_T := jv_in 1071 (by decide +kernel) (by decide +kernel)
theorem mw_1072 : (Jvm.Cond.code ({ cls := "TemperNursesModel", name := "hotIn", desc := "(II)I" } : Jvm.MethodName) prog_11_method_39_code (5 : Nat) (Option.some Jvm.ClassFile.FieldType.int)) ∈ jv_T := jv_in 1072 (by decide +kernel) (by decide +kernel)
theorem mw_1074 : (Jvm.Cond.instanceMethod ({ cls := "TemperNursesModel", name := "plan", desc := "(I)I" } : Jvm.MethodName)) ∈ jv_T := jv_in 1074 (by decide +kernel) (by decide +kernel)
theorem mw_1075 : (Jvm.Cond.selects "TemperNursesModel" ({ cls := "TemperNursesModel", name := "plan", desc := "(I)I" } : Jvm.MethodName) ({ cls := "TemperNursesModel", name := "plan", desc := "(I)I" } : Jvm.MethodName)) ∈ jv_T := jv_in 1075 (by decide +kernel) (by decide +kernel)
theorem mw_1076 : (Jvm.Cond.code ({ cls := "TemperNursesModel", name := "plan", desc := "(I)I" } : Jvm.MethodName) prog_11_method_43_code (6 : Nat) (Option.some Jvm.ClassFile.FieldType.int)) ∈ jv_T := jv_in 1076 (by decide +kernel) (by decide +kernel)
theorem mw_1078 : (Jvm.Cond.instanceMethod ({ cls := "TemperNursesModel", name := "best", desc := "(II)I" } : Jvm.MethodName)) ∈ jv_T := jv_in 1078 (by decide +kernel) (by decide +kernel)
theorem mw_1079 : (Jvm.Cond.selects "TemperNursesModel" ({ cls := "TemperNursesModel", name := "best", desc := "(II)I" } : Jvm.MethodName) ({ cls := "TemperNursesModel", name := "best", desc := "(II)I" } : Jvm.MethodName)) ∈ jv_T := jv_in 1079 (by decide +kernel) (by decide +kernel)
theorem mw_1080 : (Jvm.Cond.code ({ cls := "TemperNursesModel", name := "best", desc := "(II)I" } : Jvm.MethodName) prog_11_method_46_code (5 : Nat) (Option.some Jvm.ClassFile.FieldType.int)) ∈ jv_T := jv_in 1080 (by decide +kernel) (by decide +kernel)
theorem mw_1081 : (Jvm.Cond.constant "TemperNursesModel" (201 : Nat) (-1000000 : Int32)) ∈ jv_T := jv_in 1081 (by decide +kernel) (by decide +kernel)
theorem mw_1082 : (Jvm.Cond.methodLink "TemperNursesModel" (202 : Nat) ({ cls := "TemperNursesModel", name := "worthBehind", desc := "(II)I" } : Jvm.MethodName)) ∈ jv_T := jv_in 1082 (by decide +kernel) (by decide +kernel)
theorem mw_1084 : (Jvm.Cond.instanceMethod ({ cls := "TemperNursesModel", name := "worthBehind", desc := "(II)I" } : Jvm.MethodName)) ∈ jv_T := jv_in 1084 (by decide +kernel) (by decide +kernel)
theorem mw_1085 : (Jvm.Cond.code ({ cls := "TemperNursesModel", name := "worthBehind", desc := "(II)I" } : Jvm.MethodName) prog_11_method_45_code (5 : Nat) (Option.some Jvm.ClassFile.FieldType.int)) ∈ jv_T := jv_in 1085 (by decide +kernel) (by decide +kernel)
theorem mw_1087 : (Jvm.Cond.instanceMethod ({ cls := "TemperNursesModel", name := "beds", desc := "(II)I" } : Jvm.MethodName)) ∈ jv_T := jv_in 1087 (by decide +kernel) (by decide +kernel)
theorem mw_1088 : (Jvm.Cond.selects "TemperNursesModel" ({ cls := "TemperNursesModel", name := "beds", desc := "(II)I" } : Jvm.MethodName) ({ cls := "TemperNursesModel", name := "beds", desc := "(II)I" } : Jvm.MethodName)) ∈ jv_T := jv_in 1088 (by decide +kernel) (by decide +kernel)
theorem mw_1089 : (Jvm.Cond.code ({ cls := "TemperNursesModel", name := "beds", desc := "(II)I" } : Jvm.MethodName) prog_11_method_49_code (8 : Nat) (Option.some Jvm.ClassFile.FieldType.int)) ∈ jv_T := jv_in 1089 (by decide +kernel) (by decide +kernel)
theorem mw_1090 : (Jvm.Cond.constantLong "TemperNursesModel" (211 : Nat) (198 : Int64)) ∈ jv_T := jv_in 1090 (by decide +kernel) (by decide +kernel)
theorem mw_1091 : (Jvm.Cond.methodLink "TemperNursesModel" (213 : Nat) ({ cls := "TemperNursesModel", name := "bedsBy", desc := "(II)I" } : Jvm.MethodName)) ∈ jv_T := jv_in 1091 (by decide +kernel) (by decide +kernel)
theorem mw_1093 : (Jvm.Cond.instanceMethod ({ cls := "TemperNursesModel", name := "bedsBy", desc := "(II)I" } : Jvm.MethodName)) ∈ jv_T := jv_in 1093 (by decide +kernel) (by decide +kernel)
theorem mw_1094 : (Jvm.Cond.code ({ cls := "TemperNursesModel", name := "bedsBy", desc := "(II)I" } : Jvm.MethodName) prog_11_method_48_code (7 : Nat) (Option.some Jvm.ClassFile.FieldType.int)) ∈ jv_T := jv_in 1094 (by decide +kernel) (by decide +kernel)
theorem mw_1095 : (Jvm.Cond.methodLink "TemperNursesModel" (208 : Nat) ({ cls := "TemperNursesModel", name := "isBed", desc := "(III)Z" } : Jvm.MethodName)) ∈ jv_T := jv_in 1095 (by decide +kernel) (by decide +kernel)
theorem mw_1097 : (Jvm.Cond.instanceMethod ({ cls := "TemperNursesModel", name := "isBed", desc := "(III)Z" } : Jvm.MethodName)) ∈ jv_T := jv_in 1097 (by decide +kernel) (by decide +kernel)
theorem mw_1098 : (Jvm.Cond.code ({ cls := "TemperNursesModel", name := "isBed", desc := "(III)Z" } : Jvm.MethodName) prog_11_method_47_code (4 : Nat) (Option.some Jvm.ClassFile.FieldType.boolean)) ∈ jv_T := jv_in 1098 (by decide +kernel) (by decide +kernel)
theorem mw_1099 : (Jvm.Cond.methodLink "TemperNursesModel" (205 : Nat) ({ cls := "TemperNursesModel", name := "has", desc := "(II)Z" } : Jvm.MethodName)) ∈ jv_T := jv_in 1099 (by decide +kernel) (by decide +kernel)
theorem mw_1100 : (Jvm.Cond.static ({ cls := "TemperNursesModel", name := "has", desc := "(II)Z" } : Jvm.MethodName)) ∈ jv_T := jv_in 1100 (by decide +kernel) (by decide +kernel)
theorem mw_1101 : (Jvm.Cond.code ({ cls := "TemperNursesModel", name := "has", desc := "(II)Z" } : Jvm.MethodName) prog_11_method_4_code (2 : Nat) (Option.some Jvm.ClassFile.FieldType.boolean)) ∈ jv_T := jv_in 1101 (by decide +kernel) (by decide +kernel)
theorem mw_1103 : (Jvm.Cond.instanceMethod ({ cls := "TemperNursesModel", name := "odds", desc := "(III)I" } : Jvm.MethodName)) ∈ jv_T := jv_in 1103 (by decide +kernel) (by decide +kernel)
theorem mw_1104 : (Jvm.Cond.selects "TemperNursesModel" ({ cls := "TemperNursesModel", name := "odds", desc := "(III)I" } : Jvm.MethodName) ({ cls := "TemperNursesModel", name := "odds", desc := "(III)I" } : Jvm.MethodName)) ∈ jv_T := jv_in 1104 (by decide +kernel) (by decide +kernel)
theorem mw_1105 : (Jvm.Cond.code ({ cls := "TemperNursesModel", name := "odds", desc := "(III)I" } : Jvm.MethodName) prog_11_method_50_code (10 : Nat) (Option.some Jvm.ClassFile.FieldType.int)) ∈ jv_T := jv_in 1105 (by decide +kernel) (by decide +kernel)
theorem mw_1106 : (Jvm.Cond.constantLong "TemperNursesModel" (216 : Nat) (10 : Int64)) ∈ jv_T := jv_in 1106 (by decide +kernel) (by decide +kernel)
theorem mw_1108 : (Jvm.Cond.instanceMethod ({ cls := "TemperNursesModel", name := "hears", desc := "(II)I" } : Jvm.MethodName)) ∈ jv_T := jv_in 1108 (by decide +kernel) (by decide +kernel)
theorem mw_1109 : (Jvm.Cond.selects "TemperNursesModel" ({ cls := "TemperNursesModel", name := "hears", desc := "(II)I" } : Jvm.MethodName) ({ cls := "TemperNursesModel", name := "hears", desc := "(II)I" } : Jvm.MethodName)) ∈ jv_T := jv_in 1109 (by decide +kernel) (by decide +kernel)
theorem mw_1110 : (Jvm.Cond.code ({ cls := "TemperNursesModel", name := "hears", desc := "(II)I" } : Jvm.MethodName) prog_11_method_51_code (3 : Nat) (Option.some Jvm.ClassFile.FieldType.int)) ∈ jv_T := jv_in 1110 (by decide +kernel) (by decide +kernel)
theorem mw_1112 : (Jvm.Cond.instanceMethod ({ cls := "TemperNursesModel", name := "forget", desc := "()I" } : Jvm.MethodName)) ∈ jv_T := jv_in 1112 (by decide +kernel) (by decide +kernel)
theorem mw_1113 : (Jvm.Cond.selects "TemperNursesModel" ({ cls := "TemperNursesModel", name := "forget", desc := "()I" } : Jvm.MethodName) ({ cls := "TemperNursesModel", name := "forget", desc := "()I" } : Jvm.MethodName)) ∈ jv_T := jv_in 1113 (by decide +kernel) (by decide +kernel)
theorem mw_1114 : (Jvm.Cond.code ({ cls := "TemperNursesModel", name := "forget", desc := "()I" } : Jvm.MethodName) prog_11_method_52_code (2 : Nat) (Option.some Jvm.ClassFile.FieldType.int)) ∈ jv_T := jv_in 1114 (by decide +kernel) (by decide +kernel)
theorem mw_1116 : (Jvm.Cond.instanceMethod ({ cls := "TemperNursesModel", name := "whose", desc := "()I" } : Jvm.MethodName)) ∈ jv_T := jv_in 1116 (by decide +kernel) (by decide +kernel)
theorem mw_1117 : (Jvm.Cond.selects "TemperNursesModel" ({ cls := "TemperNursesModel", name := "whose", desc := "()I" } : Jvm.MethodName) ({ cls := "TemperNursesModel", name := "whose", desc := "()I" } : Jvm.MethodName)) ∈ jv_T := jv_in 1117 (by decide +kernel) (by decide +kernel)
theorem mw_1118 : (Jvm.Cond.code ({ cls := "TemperNursesModel", name := "whose", desc := "()I" } : Jvm.MethodName) prog_11_method_53_code (5 : Nat) (Option.some Jvm.ClassFile.FieldType.int)) ∈ jv_T := jv_in 1118 (by decide +kernel) (by decide +kernel)
theorem mw_1120 : (Jvm.Cond.instanceMethod ({ cls := "TemperNursesModel", name := "ask", desc := "()I" } : Jvm.MethodName)) ∈ jv_T := jv_in 1120 (by decide +kernel) (by decide +kernel)
theorem mw_1121 : (Jvm.Cond.selects "TemperNursesModel" ({ cls := "TemperNursesModel", name := "ask", desc := "()I" } : Jvm.MethodName) ({ cls := "TemperNursesModel", name := "ask", desc := "()I" } : Jvm.MethodName)) ∈ jv_T := jv_in 1121 (by decide +kernel) (by decide +kernel)
theorem mw_1122 : (Jvm.Cond.code ({ cls := "TemperNursesModel", name := "ask", desc := "()I" } : Jvm.MethodName) prog_11_method_54_code (8 : Nat) (Option.some Jvm.ClassFile.FieldType.int)) ∈ jv_T := jv_in 1122 (by decide +kernel) (by decide +kernel)
theorem mw_1123 : (Jvm.Cond.methodLink "TemperNursesModel" (218 : Nat) ({ cls := "TemperNursesModel", name := "whose", desc := "()I" } : Jvm.MethodName)) ∈ jv_T := jv_in 1123 (by decide +kernel) (by decide +kernel)
theorem mw_1125 : (Jvm.Cond.instanceMethod ({ cls := "TemperNursesModel", name := "mark", desc := "(II)I" } : Jvm.MethodName)) ∈ jv_T := jv_in 1125 (by decide +kernel) (by decide +kernel)
theorem mw_1126 : (Jvm.Cond.selects "TemperNursesModel" ({ cls := "TemperNursesModel", name := "mark", desc := "(II)I" } : Jvm.MethodName) ({ cls := "TemperNursesModel", name := "mark", desc := "(II)I" } : Jvm.MethodName)) ∈ jv_T := jv_in 1126 (by decide +kernel) (by decide +kernel)
theorem mw_1127 : (Jvm.Cond.code ({ cls := "TemperNursesModel", name := "mark", desc := "(II)I" } : Jvm.MethodName) prog_11_method_57_code (3 : Nat) (Option.some Jvm.ClassFile.FieldType.int)) ∈ jv_T := jv_in 1127 (by decide +kernel) (by decide +kernel)
theorem mw_1128 : (Jvm.Cond.constantLong "TemperNursesModel" (236 : Nat) (5 : Int64)) ∈ jv_T := jv_in 1128 (by decide +kernel) (by decide +kernel)
theorem mw_1129 : (Jvm.Cond.methodLink "TemperNursesModel" (238 : Nat) ({ cls := "TemperNursesModel", name := "markAs", desc := "(II)I" } : Jvm.MethodName)) ∈ jv_T := jv_in 1129 (by decide +kernel) (by decide +kernel)
theorem mw_1131 : (Jvm.Cond.instanceMethod ({ cls := "TemperNursesModel", name := "markAs", desc := "(II)I" } : Jvm.MethodName)) ∈ jv_T := jv_in 1131 (by decide +kernel) (by decide +kernel)
theorem mw_1132 : (Jvm.Cond.code ({ cls := "TemperNursesModel", name := "markAs", desc := "(II)I" } : Jvm.MethodName) prog_11_method_55_code (3 : Nat) (Option.some Jvm.ClassFile.FieldType.int)) ∈ jv_T := jv_in 1132 (by decide +kernel) (by decide +kernel)
theorem mw_1133 : (Jvm.Cond.methodLink "TemperNursesModel" (225 : Nat) ({ cls := "TemperNursesModel", name := "markAs0", desc := "(I)I" } : Jvm.MethodName)) ∈ jv_T := jv_in 1133 (by decide +kernel) (by decide +kernel)
theorem mw_1135 : (Jvm.Cond.instanceMethod ({ cls := "TemperNursesModel", name := "markAs0", desc := "(I)I" } : Jvm.MethodName)) ∈ jv_T := jv_in 1135 (by decide +kernel) (by decide +kernel)
theorem mw_1136 : (Jvm.Cond.code ({ cls := "TemperNursesModel", name := "markAs0", desc := "(I)I" } : Jvm.MethodName) prog_11_method_56_code (2 : Nat) (Option.some Jvm.ClassFile.FieldType.int)) ∈ jv_T := jv_in 1136 (by decide +kernel) (by decide +kernel)
theorem mw_1137 : (Jvm.Cond.constantLong "TemperNursesModel" (228 : Nat) (100 : Int64)) ∈ jv_T := jv_in 1137 (by decide +kernel) (by decide +kernel)
theorem mw_1138 : (Jvm.Cond.constantLong "TemperNursesModel" (230 : Nat) (1010 : Int64)) ∈ jv_T := jv_in 1138 (by decide +kernel) (by decide +kernel)
theorem mw_1139 : (Jvm.Cond.constantLong "TemperNursesModel" (232 : Nat) (10100 : Int64)) ∈ jv_T := jv_in 1139 (by decide +kernel) (by decide +kernel)
theorem mw_1140 : (Jvm.Cond.constantLong "TemperNursesModel" (234 : Nat) (100000 : Int64)) ∈ jv_T := jv_in 1140 (by decide +kernel) (by decide +kernel)
theorem mw_1142 : (Jvm.Cond.instanceMethod ({ cls := "TemperNursesModel", name := "keep", desc := "(I)I" } : Jvm.MethodName)) ∈ jv_T := jv_in 1142 (by decide +kernel) (by decide +kernel)
theorem mw_1143 : (Jvm.Cond.selects "TemperNursesModel" ({ cls := "TemperNursesModel", name := "keep", desc := "(I)I" } : Jvm.MethodName) ({ cls := "TemperNursesModel", name := "keep", desc := "(I)I" } : Jvm.MethodName)) ∈ jv_T := jv_in 1143 (by decide +kernel) (by decide +kernel)
theorem mw_1144 : (Jvm.Cond.code ({ cls := "TemperNursesModel", name := "keep", desc := "(I)I" } : Jvm.MethodName) prog_11_method_58_code (3 : Nat) (Option.some Jvm.ClassFile.FieldType.int)) ∈ jv_T := jv_in 1144 (by decide +kernel) (by decide +kernel)
theorem mw_1146 : (Jvm.Cond.instanceMethod ({ cls := "TemperNursesModel", name := "back", desc := "(I)I" } : Jvm.MethodName)) ∈ jv_T := jv_in 1146 (by decide +kernel) (by decide +kernel)
theorem mw_1147 : (Jvm.Cond.selects "TemperNursesModel" ({ cls := "TemperNursesModel", name := "back", desc := "(I)I" } : Jvm.MethodName) ({ cls := "TemperNursesModel", name := "back", desc := "(I)I" } : Jvm.MethodName)) ∈ jv_T := jv_in 1147 (by decide +kernel) (by decide +kernel)
theorem mw_1148 : (Jvm.Cond.code ({ cls := "TemperNursesModel", name := "back", desc := "(I)I" } : Jvm.MethodName) prog_11_method_59_code (3 : Nat) (Option.some Jvm.ClassFile.FieldType.int)) ∈ jv_T := jv_in 1148 (by decide +kernel) (by decide +kernel)
theorem mw_1150 : (Jvm.Cond.instanceMethod ({ cls := "TemperNursesModel", name := "count", desc := "(I)I" } : Jvm.MethodName)) ∈ jv_T := jv_in 1150 (by decide +kernel) (by decide +kernel)
theorem mw_1151 : (Jvm.Cond.selects "TemperNursesModel" ({ cls := "TemperNursesModel", name := "count", desc := "(I)I" } : Jvm.MethodName) ({ cls := "TemperNursesModel", name := "count", desc := "(I)I" } : Jvm.MethodName)) ∈ jv_T := jv_in 1151 (by decide +kernel) (by decide +kernel)
theorem mw_1152 : (Jvm.Cond.code ({ cls := "TemperNursesModel", name := "count", desc := "(I)I" } : Jvm.MethodName) prog_11_method_60_code (2 : Nat) (Option.some Jvm.ClassFile.FieldType.int)) ∈ jv_T := jv_in 1152 (by decide +kernel) (by decide +kernel)
theorem mw_1154 : (Jvm.Cond.instanceMethod ({ cls := "TemperNursesModel", name := "trace", desc := "()J" } : Jvm.MethodName)) ∈ jv_T := jv_in 1154 (by decide +kernel) (by decide +kernel)
theorem mw_1155 : (Jvm.Cond.selects "TemperNursesModel" ({ cls := "TemperNursesModel", name := "trace", desc := "()J" } : Jvm.MethodName) ({ cls := "TemperNursesModel", name := "trace", desc := "()J" } : Jvm.MethodName)) ∈ jv_T := jv_in 1155 (by decide +kernel) (by decide +kernel)
theorem mw_1156 : (Jvm.Cond.code ({ cls := "TemperNursesModel", name := "trace", desc := "()J" } : Jvm.MethodName) prog_11_method_61_code (1 : Nat) (Option.some Jvm.ClassFile.FieldType.long)) ∈ jv_T := jv_in 1156 (by decide +kernel) (by decide +kernel)
def jv_ns : List Cond := [(Jvm.Cond.methodLinkNest "TemperNurses" (9 : Nat) ({ cls := "TemperNurses$Hill", name := "<init>", desc := "()V" } : Jvm.MethodName) "TemperNurses"), (Jvm.Cond.methodLinkNest "TemperNurses" (18 : Nat) ({ cls := "TemperNurses$TextReader", name := "<init>", desc := "()V" } : Jvm.MethodName) "TemperNurses"), (Jvm.Cond.methodLinkNest "TemperNurses$TextReader" (11 : Nat) ({ cls := "TemperNurses$Hill", name := "<init>", desc := "()V" } : Jvm.MethodName) "TemperNurses"), (Jvm.Cond.methodLinkNest "TemperNurses" (25 : Nat) ({ cls := "TemperNurses$Course", name := "<init>", desc := "()V" } : Jvm.MethodName) "TemperNurses"), (Jvm.Cond.methodLinkNest "TemperNurses$TextReader" (76 : Nat) ({ cls := "TemperNurses", name := "isWithin", desc := "(III)Z" } : Jvm.MethodName) "TemperNurses"), (Jvm.Cond.methodLinkNest "TemperNurses$Hill" (50 : Nat) ({ cls := "TemperNurses", name := "bit", desc := "(I)I" } : Jvm.MethodName) "TemperNurses"), (Jvm.Cond.methodLinkNest "TemperNurses$House" (31 : Nat) ({ cls := "TemperNurses", name := "bit", desc := "(I)I" } : Jvm.MethodName) "TemperNurses"), (Jvm.Cond.methodLinkNest "TemperNurses$Planner" (76 : Nat) ({ cls := "TemperNurses", name := "bit", desc := "(I)I" } : Jvm.MethodName) "TemperNurses"), (Jvm.Cond.methodLinkNest "TemperNurses$BedMaker" (63 : Nat) ({ cls := "TemperNurses", name := "bit", desc := "(I)I" } : Jvm.MethodName) "TemperNurses"), (Jvm.Cond.methodLinkNest "TemperNurses$Listener" (51 : Nat) ({ cls := "TemperNurses", name := "bit", desc := "(I)I" } : Jvm.MethodName) "TemperNurses")]
theorem jv_ns_ok : ∀ w ∈ jv_ns, ∃ (a : String) (i : Nat) (x : MethodName) (h : String), w = .methodLinkNest a i x h := by
  intro w hw
  simp only [jv_ns, List.mem_cons, List.not_mem_nil, or_false] at hw
  rcases hw with rfl | rfl | rfl | rfl | rfl | rfl | rfl | rfl | rfl | rfl <;> exact ⟨_, _, _, _, rfl⟩
theorem iw_X0 : ∀ w ∈ u_ws RX0 TX0 5, w ∈ jv_T := (List.forall_mem_cons.mpr ⟨mw_253, List.forall_mem_cons.mpr ⟨mw_255, List.forall_mem_cons.mpr ⟨mw_257, List.forall_mem_cons.mpr ⟨mw_259, List.forall_mem_cons.mpr ⟨mw_261, fun _ h => absurd h List.not_mem_nil⟩⟩⟩⟩⟩ : ∀ w ∈ ([(Jvm.Cond.laysFinal "TemperNurses$BedMaker" "TemperNurses$BedMaker" "house" "LTemperNurses$House;"), (Jvm.Cond.laysFinal "TemperNurses$BedMaker" "TemperNurses$BedMaker" "tried" "[I"), (Jvm.Cond.lays "TemperNurses$BedMaker" "TemperNurses$BedMaker" "limit" "I"), (Jvm.Cond.laysFinal "TemperNurses$BedMaker" "TemperNurses$BedMaker" "chosen" "[I"), (Jvm.Cond.lays "TemperNurses$BedMaker" "TemperNurses$BedMaker" "most" "I")] : List Cond), w ∈ jv_T)
theorem iw_X1 : ∀ w ∈ u_ws RX1 TX1 2, w ∈ jv_T := (List.forall_mem_cons.mpr ⟨mw_184, List.forall_mem_cons.mpr ⟨mw_186, fun _ h => absurd h List.not_mem_nil⟩⟩ : ∀ w ∈ ([(Jvm.Cond.laysFinal "TemperNurses$Course" "TemperNurses$Course" "rows" "[I"), (Jvm.Cond.lays "TemperNurses$Course" "TemperNurses$Course" "past" "I")] : List Cond), w ∈ jv_T)
theorem iw_X2 : ∀ w ∈ u_ws RX2 TX2 9, w ∈ jv_T := (List.forall_mem_cons.mpr ⟨mw_114, List.forall_mem_cons.mpr ⟨mw_116, List.forall_mem_cons.mpr ⟨mw_118, List.forall_mem_cons.mpr ⟨mw_120, List.forall_mem_cons.mpr ⟨mw_122, List.forall_mem_cons.mpr ⟨mw_124, List.forall_mem_cons.mpr ⟨mw_126, List.forall_mem_cons.mpr ⟨mw_128, List.forall_mem_cons.mpr ⟨mw_130, fun _ h => absurd h List.not_mem_nil⟩⟩⟩⟩⟩⟩⟩⟩⟩ : ∀ w ∈ ([(Jvm.Cond.lays "TemperNurses$Hill" "TemperNurses$Hill" "tempers" "I"), (Jvm.Cond.lays "TemperNurses$Hill" "TemperNurses$Hill" "nurses" "I"), (Jvm.Cond.laysFinal "TemperNurses$Hill" "TemperNurses$Hill" "heats" "[I"), (Jvm.Cond.laysFinal "TemperNurses$Hill" "TemperNurses$Hill" "grows" "[I"), (Jvm.Cond.laysFinal "TemperNurses$Hill" "TemperNurses$Hill" "dues" "[I"), (Jvm.Cond.laysFinal "TemperNurses$Hill" "TemperNurses$Hill" "clashes" "[I"), (Jvm.Cond.laysFinal "TemperNurses$Hill" "TemperNurses$Hill" "tames" "[I"), (Jvm.Cond.laysFinal "TemperNurses$Hill" "TemperNurses$Hill" "rooms" "[I"), (Jvm.Cond.laysFinal "TemperNurses$Hill" "TemperNurses$Hill" "holds" "[I")] : List Cond), w ∈ jv_T)
theorem iw_X3 : ∀ w ∈ u_ws RX3 TX3 2, w ∈ jv_T := (List.forall_mem_cons.mpr ⟨mw_205, List.forall_mem_cons.mpr ⟨mw_207, fun _ h => absurd h List.not_mem_nil⟩⟩ : ∀ w ∈ ([(Jvm.Cond.laysFinal "TemperNurses$House" "TemperNurses$House" "told" "LTemperNurses$Hill;"), (Jvm.Cond.laysFinal "TemperNurses$House" "TemperNurses$House" "course" "LTemperNurses$Course;")] : List Cond), w ∈ jv_T)
theorem iw_X4 : ∀ w ∈ u_ws RX4 TX4 2, w ∈ jv_T := (List.forall_mem_cons.mpr ⟨mw_293, List.forall_mem_cons.mpr ⟨mw_295, fun _ h => absurd h List.not_mem_nil⟩⟩ : ∀ w ∈ ([(Jvm.Cond.laysFinal "TemperNurses$Kinds" "TemperNurses$Kinds" "house" "LTemperNurses$House;"), (Jvm.Cond.lays "TemperNurses$Kinds" "TemperNurses$Kinds" "traced" "J")] : List Cond), w ∈ jv_T)
theorem iw_X5 : ∀ w ∈ u_ws RX5 TX5 4, w ∈ jv_T := (List.forall_mem_cons.mpr ⟨mw_275, List.forall_mem_cons.mpr ⟨mw_277, List.forall_mem_cons.mpr ⟨mw_279, List.forall_mem_cons.mpr ⟨mw_281, fun _ h => absurd h List.not_mem_nil⟩⟩⟩⟩ : ∀ w ∈ ([(Jvm.Cond.laysFinal "TemperNurses$Listener" "TemperNurses$Listener" "house" "LTemperNurses$House;"), (Jvm.Cond.laysFinal "TemperNurses$Listener" "TemperNurses$Listener" "bangsAt" "[I"), (Jvm.Cond.laysFinal "TemperNurses$Listener" "TemperNurses$Listener" "bangs" "[I"), (Jvm.Cond.lays "TemperNurses$Listener" "TemperNurses$Listener" "heard" "I")] : List Cond), w ∈ jv_T)
theorem iw_X6 : ∀ w ∈ u_ws RX6 TX6 7, w ∈ jv_T := (List.forall_mem_cons.mpr ⟨mw_225, List.forall_mem_cons.mpr ⟨mw_227, List.forall_mem_cons.mpr ⟨mw_229, List.forall_mem_cons.mpr ⟨mw_231, List.forall_mem_cons.mpr ⟨mw_233, List.forall_mem_cons.mpr ⟨mw_235, List.forall_mem_cons.mpr ⟨mw_237, fun _ h => absurd h List.not_mem_nil⟩⟩⟩⟩⟩⟩⟩ : ∀ w ∈ ([(Jvm.Cond.laysFinal "TemperNurses$Planner" "TemperNurses$Planner" "house" "LTemperNurses$House;"), (Jvm.Cond.laysFinal "TemperNurses$Planner" "TemperNurses$Planner" "tried" "[I"), (Jvm.Cond.laysFinal "TemperNurses$Planner" "TemperNurses$Planner" "having" "[I"), (Jvm.Cond.laysFinal "TemperNurses$Planner" "TemperNurses$Planner" "yearsBy" "[I"), (Jvm.Cond.lays "TemperNurses$Planner" "TemperNurses$Planner" "fewestYears" "I"), (Jvm.Cond.laysFinal "TemperNurses$Planner" "TemperNurses$Planner" "chosen" "[I"), (Jvm.Cond.lays "TemperNurses$Planner" "TemperNurses$Planner" "most" "I")] : List Cond), w ∈ jv_T)
theorem iw_X7 : ∀ w ∈ u_ws RX7 TX7 10, w ∈ jv_T := (List.forall_mem_cons.mpr ⟨mw_154, List.forall_mem_cons.mpr ⟨mw_156, List.forall_mem_cons.mpr ⟨mw_158, List.forall_mem_cons.mpr ⟨mw_160, List.forall_mem_cons.mpr ⟨mw_162, List.forall_mem_cons.mpr ⟨mw_164, List.forall_mem_cons.mpr ⟨mw_166, List.forall_mem_cons.mpr ⟨mw_168, List.forall_mem_cons.mpr ⟨mw_170, List.forall_mem_cons.mpr ⟨mw_172, fun _ h => absurd h List.not_mem_nil⟩⟩⟩⟩⟩⟩⟩⟩⟩⟩ : ∀ w ∈ ([(Jvm.Cond.laysFinal "TemperNurses$TextReader" "TemperNurses$TextReader" "draft" "LTemperNurses$Hill;"), (Jvm.Cond.lays "TemperNurses$TextReader" "TemperNurses$TextReader" "length" "I"), (Jvm.Cond.laysFinal "TemperNurses$TextReader" "TemperNurses$TextReader" "bytes" "[I"), (Jvm.Cond.lays "TemperNurses$TextReader" "TemperNurses$TextReader" "kind" "I"), (Jvm.Cond.lays "TemperNurses$TextReader" "TemperNurses$TextReader" "start" "I"), (Jvm.Cond.lays "TemperNurses$TextReader" "TemperNurses$TextReader" "next" "I"), (Jvm.Cond.lays "TemperNurses$TextReader" "TemperNurses$TextReader" "value" "I"), (Jvm.Cond.lays "TemperNurses$TextReader" "TemperNurses$TextReader" "item" "I"), (Jvm.Cond.lays "TemperNurses$TextReader" "TemperNurses$TextReader" "toldSoFar" "I"), (Jvm.Cond.laysFinal "TemperNurses$TextReader" "TemperNurses$TextReader" "numbers" "[I")] : List Cond), w ∈ jv_T)
theorem iw_X8 : ∀ w ∈ u_ws RX8 TX8 12, w ∈ jv_T := (List.forall_mem_cons.mpr ⟨mw_334, List.forall_mem_cons.mpr ⟨mw_336, List.forall_mem_cons.mpr ⟨mw_338, List.forall_mem_cons.mpr ⟨mw_340, List.forall_mem_cons.mpr ⟨mw_342, List.forall_mem_cons.mpr ⟨mw_344, List.forall_mem_cons.mpr ⟨mw_346, List.forall_mem_cons.mpr ⟨mw_348, List.forall_mem_cons.mpr ⟨mw_350, List.forall_mem_cons.mpr ⟨mw_352, List.forall_mem_cons.mpr ⟨mw_354, List.forall_mem_cons.mpr ⟨mw_356, fun _ h => absurd h List.not_mem_nil⟩⟩⟩⟩⟩⟩⟩⟩⟩⟩⟩⟩ : ∀ w ∈ ([(Jvm.Cond.laysFinal "TemperNurses" "TemperNurses" "told" "LTemperNurses$Hill;"), (Jvm.Cond.laysFinal "TemperNurses" "TemperNurses" "reader" "LTemperNurses$TextReader;"), (Jvm.Cond.laysFinal "TemperNurses" "TemperNurses" "course" "LTemperNurses$Course;"), (Jvm.Cond.laysFinal "TemperNurses" "TemperNurses" "house" "LTemperNurses$House;"), (Jvm.Cond.laysFinal "TemperNurses" "TemperNurses" "planner" "LTemperNurses$Planner;"), (Jvm.Cond.laysFinal "TemperNurses" "TemperNurses" "bedMaker" "LTemperNurses$BedMaker;"), (Jvm.Cond.laysFinal "TemperNurses" "TemperNurses" "listener" "LTemperNurses$Listener;"), (Jvm.Cond.laysFinal "TemperNurses" "TemperNurses" "kinds" "LTemperNurses$Kinds;"), (Jvm.Cond.laysFinal "TemperNurses" "TemperNurses" "image0" "LTemperNurses$Course;"), (Jvm.Cond.laysFinal "TemperNurses" "TemperNurses" "image1" "LTemperNurses$Course;"), (Jvm.Cond.laysFinal "TemperNurses" "TemperNurses" "looseWays" "[I"), (Jvm.Cond.lays "TemperNurses" "TemperNurses" "keptImages" "I")] : List Cond), w ∈ jv_T)
theorem iw_X9 : ∀ w ∈ u_ws RX9 TX9 31, w ∈ jv_T := (List.forall_mem_cons.mpr ⟨mw_845, List.forall_mem_cons.mpr ⟨mw_847, List.forall_mem_cons.mpr ⟨mw_849, List.forall_mem_cons.mpr ⟨mw_851, List.forall_mem_cons.mpr ⟨mw_853, List.forall_mem_cons.mpr ⟨mw_855, List.forall_mem_cons.mpr ⟨mw_857, List.forall_mem_cons.mpr ⟨mw_859, List.forall_mem_cons.mpr ⟨mw_861, List.forall_mem_cons.mpr ⟨mw_863, List.forall_mem_cons.mpr ⟨mw_865, List.forall_mem_cons.mpr ⟨mw_867, List.forall_mem_cons.mpr ⟨mw_869, List.forall_mem_cons.mpr ⟨mw_871, List.forall_mem_cons.mpr ⟨mw_873, List.forall_mem_cons.mpr ⟨mw_875, List.forall_mem_cons.mpr ⟨mw_877, List.forall_mem_cons.mpr ⟨mw_879, List.forall_mem_cons.mpr ⟨mw_881, List.forall_mem_cons.mpr ⟨mw_883, List.forall_mem_cons.mpr ⟨mw_885, List.forall_mem_cons.mpr ⟨mw_887, List.forall_mem_cons.mpr ⟨mw_889, List.forall_mem_cons.mpr ⟨mw_891, List.forall_mem_cons.mpr ⟨mw_893, List.forall_mem_cons.mpr ⟨mw_895, List.forall_mem_cons.mpr ⟨mw_897, List.forall_mem_cons.mpr ⟨mw_899, List.forall_mem_cons.mpr ⟨mw_901, List.forall_mem_cons.mpr ⟨mw_903, List.forall_mem_cons.mpr ⟨mw_905, fun _ h => absurd h List.not_mem_nil⟩⟩⟩⟩⟩⟩⟩⟩⟩⟩⟩⟩⟩⟩⟩⟩⟩⟩⟩⟩⟩⟩⟩⟩⟩⟩⟩⟩⟩⟩⟩ : ∀ w ∈ ([(Jvm.Cond.lays "TemperNursesModel" "TemperNursesModel" "many" "I"), (Jvm.Cond.lays "TemperNursesModel" "TemperNursesModel" "nurses" "I"), (Jvm.Cond.laysFinal "TemperNursesModel" "TemperNursesModel" "grows" "[I"), (Jvm.Cond.laysFinal "TemperNursesModel" "TemperNursesModel" "due" "[I"), (Jvm.Cond.laysFinal "TemperNursesModel" "TemperNursesModel" "clash" "[I"), (Jvm.Cond.laysFinal "TemperNursesModel" "TemperNursesModel" "tames" "[I"), (Jvm.Cond.laysFinal "TemperNursesModel" "TemperNursesModel" "room" "[I"), (Jvm.Cond.laysFinal "TemperNursesModel" "TemperNursesModel" "holds" "[I"), (Jvm.Cond.laysFinal "TemperNursesModel" "TemperNursesModel" "all" "[I"), (Jvm.Cond.laysFinal "TemperNursesModel" "TemperNursesModel" "kept" "[I"), (Jvm.Cond.laysFinal "TemperNursesModel" "TemperNursesModel" "isKept" "[Z"), (Jvm.Cond.laysFinal "TemperNursesModel" "TemperNursesModel" "heardAt" "[I"), (Jvm.Cond.laysFinal "TemperNursesModel" "TemperNursesModel" "heardBang" "[I"), (Jvm.Cond.lays "TemperNursesModel" "TemperNursesModel" "heard" "I"), (Jvm.Cond.lays "TemperNursesModel" "TemperNursesModel" "trace" "J"), (Jvm.Cond.laysFinal "TemperNursesModel" "TemperNursesModel" "text" "[I"), (Jvm.Cond.lays "TemperNursesModel" "TemperNursesModel" "textLong" "I"), (Jvm.Cond.lays "TemperNursesModel" "TemperNursesModel" "token" "I"), (Jvm.Cond.lays "TemperNursesModel" "TemperNursesModel" "tokenAt" "I"), (Jvm.Cond.lays "TemperNursesModel" "TemperNursesModel" "tokenEnd" "I"), (Jvm.Cond.lays "TemperNursesModel" "TemperNursesModel" "value" "I"), (Jvm.Cond.lays "TemperNursesModel" "TemperNursesModel" "newMany" "I"), (Jvm.Cond.lays "TemperNursesModel" "TemperNursesModel" "newNurses" "I"), (Jvm.Cond.laysFinal "TemperNursesModel" "TemperNursesModel" "newTold" "[I"), (Jvm.Cond.laysFinal "TemperNursesModel" "TemperNursesModel" "values" "[I"), (Jvm.Cond.laysFinal "TemperNursesModel" "TemperNursesModel" "goes" "[I"), (Jvm.Cond.laysFinal "TemperNursesModel" "TemperNursesModel" "bestGoes" "[I"), (Jvm.Cond.laysFinal "TemperNursesModel" "TemperNursesModel" "group" "[I"), (Jvm.Cond.laysFinal "TemperNursesModel" "TemperNursesModel" "breaks" "[I"), (Jvm.Cond.laysFinal "TemperNursesModel" "TemperNursesModel" "with" "[I"), (Jvm.Cond.laysFinal "TemperNursesModel" "TemperNursesModel" "bestWith" "[I")] : List Cond), w ∈ jv_T)
def jv_fl (own : String) (ix ci j : Nat) (fin : Bool) (ty : FieldType) : Prop := ∃ (C : String) (T : u_T) (N : Nat) (ty0 : Nat → FieldType), vwCl[ci]? = some (C, T, N) ∧ j < N ∧ (∀ w ∈ u_ws C T N, w ∈ jv_T) ∧ Cond.fieldLink own ix (T j).1 (T j).2.1 (T j).2.2.1 ∈ jv_T ∧ (T j).2.2.2 = fin ∧ parseFieldDescriptor (T j).2.2.1 = some ty ∧ (∀ k, k < N → parseFieldDescriptor (T k).2.2.1 = some (ty0 k)) ∧ (∀ a, a < N → ∀ b, b < N → a ≠ b → (T a).2.1 ≠ (T b).2.1)
theorem fl_X2_33 : jv_fl RX2 33 2 0 false .int := ⟨RX2, TX2, 9, tyX2, rfl, by decide, iw_X2, mw_81, rfl, by decide +kernel, tyX2_ok, nmX2⟩
theorem fl_X3_19 : jv_fl RX3 19 2 0 false .int := ⟨RX2, TX2, 9, tyX2, rfl, by decide, iw_X2, mw_82, rfl, by decide +kernel, tyX2_ok, nmX2⟩
theorem fl_X0_45 : jv_fl RX0 45 2 0 false .int := ⟨RX2, TX2, 9, tyX2, rfl, by decide, iw_X2, mw_83, rfl, by decide +kernel, tyX2_ok, nmX2⟩
theorem fl_X6_48 : jv_fl RX6 48 2 0 false .int := ⟨RX2, TX2, 9, tyX2, rfl, by decide, iw_X2, mw_84, rfl, by decide +kernel, tyX2_ok, nmX2⟩
theorem fl_X5_32 : jv_fl RX5 32 2 0 false .int := ⟨RX2, TX2, 9, tyX2, rfl, by decide, iw_X2, mw_85, rfl, by decide +kernel, tyX2_ok, nmX2⟩
theorem fl_X7_70 : jv_fl RX7 70 2 0 false .int := ⟨RX2, TX2, 9, tyX2, rfl, by decide, iw_X2, mw_86, rfl, by decide +kernel, tyX2_ok, nmX2⟩
theorem fl_X8_177 : jv_fl RX8 177 2 0 false .int := ⟨RX2, TX2, 9, tyX2, rfl, by decide, iw_X2, mw_87, rfl, by decide +kernel, tyX2_ok, nmX2⟩
theorem fl_X2_37 : jv_fl RX2 37 2 1 false .int := ⟨RX2, TX2, 9, tyX2, rfl, by decide, iw_X2, mw_88, rfl, by decide +kernel, tyX2_ok, nmX2⟩
theorem fl_X6_53 : jv_fl RX6 53 2 1 false .int := ⟨RX2, TX2, 9, tyX2, rfl, by decide, iw_X2, mw_89, rfl, by decide +kernel, tyX2_ok, nmX2⟩
theorem fl_X7_73 : jv_fl RX7 73 2 1 false .int := ⟨RX2, TX2, 9, tyX2, rfl, by decide, iw_X2, mw_90, rfl, by decide +kernel, tyX2_ok, nmX2⟩
theorem fl_X8_276 : jv_fl RX8 276 2 1 false .int := ⟨RX2, TX2, 9, tyX2, rfl, by decide, iw_X2, mw_91, rfl, by decide +kernel, tyX2_ok, nmX2⟩
theorem fl_X2_9 : jv_fl RX2 9 2 2 true (.array .int) := ⟨RX2, TX2, 9, tyX2, rfl, by decide, iw_X2, mw_92, rfl, by decide +kernel, tyX2_ok, nmX2⟩
theorem fl_X1_23 : jv_fl RX1 23 2 2 true (.array .int) := ⟨RX2, TX2, 9, tyX2, rfl, by decide, iw_X2, mw_93, rfl, by decide +kernel, tyX2_ok, nmX2⟩
theorem fl_X2_15 : jv_fl RX2 15 2 3 true (.array .int) := ⟨RX2, TX2, 9, tyX2, rfl, by decide, iw_X2, mw_94, rfl, by decide +kernel, tyX2_ok, nmX2⟩
theorem fl_X4_44 : jv_fl RX4 44 2 3 true (.array .int) := ⟨RX2, TX2, 9, tyX2, rfl, by decide, iw_X2, mw_95, rfl, by decide +kernel, tyX2_ok, nmX2⟩
theorem fl_X8_119 : jv_fl RX8 119 2 3 true (.array .int) := ⟨RX2, TX2, 9, tyX2, rfl, by decide, iw_X2, mw_96, rfl, by decide +kernel, tyX2_ok, nmX2⟩
theorem fl_X3_73 : jv_fl RX3 73 2 3 true (.array .int) := ⟨RX2, TX2, 9, tyX2, rfl, by decide, iw_X2, mw_97, rfl, by decide +kernel, tyX2_ok, nmX2⟩
theorem fl_X2_18 : jv_fl RX2 18 2 4 true (.array .int) := ⟨RX2, TX2, 9, tyX2, rfl, by decide, iw_X2, mw_98, rfl, by decide +kernel, tyX2_ok, nmX2⟩
theorem fl_X8_122 : jv_fl RX8 122 2 4 true (.array .int) := ⟨RX2, TX2, 9, tyX2, rfl, by decide, iw_X2, mw_99, rfl, by decide +kernel, tyX2_ok, nmX2⟩
theorem fl_X3_93 : jv_fl RX3 93 2 4 true (.array .int) := ⟨RX2, TX2, 9, tyX2, rfl, by decide, iw_X2, mw_100, rfl, by decide +kernel, tyX2_ok, nmX2⟩
theorem fl_X2_21 : jv_fl RX2 21 2 5 true (.array .int) := ⟨RX2, TX2, 9, tyX2, rfl, by decide, iw_X2, mw_101, rfl, by decide +kernel, tyX2_ok, nmX2⟩
theorem fl_X0_60 : jv_fl RX0 60 2 5 true (.array .int) := ⟨RX2, TX2, 9, tyX2, rfl, by decide, iw_X2, mw_102, rfl, by decide +kernel, tyX2_ok, nmX2⟩
theorem fl_X8_131 : jv_fl RX8 131 2 5 true (.array .int) := ⟨RX2, TX2, 9, tyX2, rfl, by decide, iw_X2, mw_103, rfl, by decide +kernel, tyX2_ok, nmX2⟩
theorem fl_X3_67 : jv_fl RX3 67 2 5 true (.array .int) := ⟨RX2, TX2, 9, tyX2, rfl, by decide, iw_X2, mw_104, rfl, by decide +kernel, tyX2_ok, nmX2⟩
theorem fl_X2_24 : jv_fl RX2 24 2 6 true (.array .int) := ⟨RX2, TX2, 9, tyX2, rfl, by decide, iw_X2, mw_105, rfl, by decide +kernel, tyX2_ok, nmX2⟩
theorem fl_X8_140 : jv_fl RX8 140 2 6 true (.array .int) := ⟨RX2, TX2, 9, tyX2, rfl, by decide, iw_X2, mw_106, rfl, by decide +kernel, tyX2_ok, nmX2⟩
theorem fl_X3_70 : jv_fl RX3 70 2 6 true (.array .int) := ⟨RX2, TX2, 9, tyX2, rfl, by decide, iw_X2, mw_107, rfl, by decide +kernel, tyX2_ok, nmX2⟩
theorem fl_X2_27 : jv_fl RX2 27 2 7 true (.array .int) := ⟨RX2, TX2, 9, tyX2, rfl, by decide, iw_X2, mw_108, rfl, by decide +kernel, tyX2_ok, nmX2⟩
theorem fl_X8_143 : jv_fl RX8 143 2 7 true (.array .int) := ⟨RX2, TX2, 9, tyX2, rfl, by decide, iw_X2, mw_109, rfl, by decide +kernel, tyX2_ok, nmX2⟩
theorem fl_X3_64 : jv_fl RX3 64 2 7 true (.array .int) := ⟨RX2, TX2, 9, tyX2, rfl, by decide, iw_X2, mw_110, rfl, by decide +kernel, tyX2_ok, nmX2⟩
theorem fl_X2_30 : jv_fl RX2 30 2 8 true (.array .int) := ⟨RX2, TX2, 9, tyX2, rfl, by decide, iw_X2, mw_111, rfl, by decide +kernel, tyX2_ok, nmX2⟩
theorem fl_X8_146 : jv_fl RX8 146 2 8 true (.array .int) := ⟨RX2, TX2, 9, tyX2, rfl, by decide, iw_X2, mw_112, rfl, by decide +kernel, tyX2_ok, nmX2⟩
theorem fl_X3_55 : jv_fl RX3 55 2 8 true (.array .int) := ⟨RX2, TX2, 9, tyX2, rfl, by decide, iw_X2, mw_113, rfl, by decide +kernel, tyX2_ok, nmX2⟩
theorem fl_X7_12 : jv_fl RX7 12 7 0 true (.object "TemperNurses$Hill") := ⟨RX7, TX7, 10, tyX7, rfl, by decide, iw_X7, mw_142, rfl, by decide +kernel, tyX7_ok, nmX7⟩
theorem fl_X8_102 : jv_fl RX8 102 7 0 true (.object "TemperNurses$Hill") := ⟨RX7, TX7, 10, tyX7, rfl, by decide, iw_X7, mw_143, rfl, by decide +kernel, tyX7_ok, nmX7⟩
theorem fl_X7_25 : jv_fl RX7 25 7 1 false .int := ⟨RX7, TX7, 10, tyX7, rfl, by decide, iw_X7, mw_144, rfl, by decide +kernel, tyX7_ok, nmX7⟩
theorem fl_X8_91 : jv_fl RX8 91 7 1 false .int := ⟨RX7, TX7, 10, tyX7, rfl, by decide, iw_X7, mw_145, rfl, by decide +kernel, tyX7_ok, nmX7⟩
theorem fl_X7_18 : jv_fl RX7 18 7 2 true (.array .int) := ⟨RX7, TX7, 10, tyX7, rfl, by decide, iw_X7, mw_146, rfl, by decide +kernel, tyX7_ok, nmX7⟩
theorem fl_X7_41 : jv_fl RX7 41 7 3 false .int := ⟨RX7, TX7, 10, tyX7, rfl, by decide, iw_X7, mw_147, rfl, by decide +kernel, tyX7_ok, nmX7⟩
theorem fl_X7_48 : jv_fl RX7 48 7 4 false .int := ⟨RX7, TX7, 10, tyX7, rfl, by decide, iw_X7, mw_148, rfl, by decide +kernel, tyX7_ok, nmX7⟩
theorem fl_X7_32 : jv_fl RX7 32 7 5 false .int := ⟨RX7, TX7, 10, tyX7, rfl, by decide, iw_X7, mw_149, rfl, by decide +kernel, tyX7_ok, nmX7⟩
theorem fl_X7_67 : jv_fl RX7 67 7 6 false .int := ⟨RX7, TX7, 10, tyX7, rfl, by decide, iw_X7, mw_150, rfl, by decide +kernel, tyX7_ok, nmX7⟩
theorem fl_X7_35 : jv_fl RX7 35 7 7 false .int := ⟨RX7, TX7, 10, tyX7, rfl, by decide, iw_X7, mw_151, rfl, by decide +kernel, tyX7_ok, nmX7⟩
theorem fl_X7_57 : jv_fl RX7 57 7 8 false .int := ⟨RX7, TX7, 10, tyX7, rfl, by decide, iw_X7, mw_152, rfl, by decide +kernel, tyX7_ok, nmX7⟩
theorem fl_X7_22 : jv_fl RX7 22 7 9 true (.array .int) := ⟨RX7, TX7, 10, tyX7, rfl, by decide, iw_X7, mw_153, rfl, by decide +kernel, tyX7_ok, nmX7⟩
theorem fl_X1_11 : jv_fl RX1 11 1 0 true (.array .int) := ⟨RX1, TX1, 2, tyX1, rfl, by decide, iw_X1, mw_181, rfl, by decide +kernel, tyX1_ok, nmX1⟩
theorem fl_X1_15 : jv_fl RX1 15 1 1 false .int := ⟨RX1, TX1, 2, tyX1, rfl, by decide, iw_X1, mw_182, rfl, by decide +kernel, tyX1_ok, nmX1⟩
theorem fl_X8_201 : jv_fl RX8 201 1 1 false .int := ⟨RX1, TX1, 2, tyX1, rfl, by decide, iw_X1, mw_183, rfl, by decide +kernel, tyX1_ok, nmX1⟩
theorem fl_X3_9 : jv_fl RX3 9 3 0 true (.object "TemperNurses$Hill") := ⟨RX3, TX3, 2, tyX3, rfl, by decide, iw_X3, mw_195, rfl, by decide +kernel, tyX3_ok, nmX3⟩
theorem fl_X0_39 : jv_fl RX0 39 3 0 true (.object "TemperNurses$Hill") := ⟨RX3, TX3, 2, tyX3, rfl, by decide, iw_X3, mw_196, rfl, by decide +kernel, tyX3_ok, nmX3⟩
theorem fl_X6_42 : jv_fl RX6 42 3 0 true (.object "TemperNurses$Hill") := ⟨RX3, TX3, 2, tyX3, rfl, by decide, iw_X3, mw_197, rfl, by decide +kernel, tyX3_ok, nmX3⟩
theorem fl_X4_34 : jv_fl RX4 34 3 0 true (.object "TemperNurses$Hill") := ⟨RX3, TX3, 2, tyX3, rfl, by decide, iw_X3, mw_198, rfl, by decide +kernel, tyX3_ok, nmX3⟩
theorem fl_X5_26 : jv_fl RX5 26 3 0 true (.object "TemperNurses$Hill") := ⟨RX3, TX3, 2, tyX3, rfl, by decide, iw_X3, mw_199, rfl, by decide +kernel, tyX3_ok, nmX3⟩
theorem fl_X3_15 : jv_fl RX3 15 3 1 true (.object "TemperNurses$Course") := ⟨RX3, TX3, 2, tyX3, rfl, by decide, iw_X3, mw_200, rfl, by decide +kernel, tyX3_ok, nmX3⟩
theorem fl_X4_17 : jv_fl RX4 17 3 1 true (.object "TemperNurses$Course") := ⟨RX3, TX3, 2, tyX3, rfl, by decide, iw_X3, mw_201, rfl, by decide +kernel, tyX3_ok, nmX3⟩
theorem fl_X5_37 : jv_fl RX5 37 3 1 true (.object "TemperNurses$Course") := ⟨RX3, TX3, 2, tyX3, rfl, by decide, iw_X3, mw_202, rfl, by decide +kernel, tyX3_ok, nmX3⟩
theorem fl_X0_67 : jv_fl RX0 67 3 1 true (.object "TemperNurses$Course") := ⟨RX3, TX3, 2, tyX3, rfl, by decide, iw_X3, mw_203, rfl, by decide +kernel, tyX3_ok, nmX3⟩
theorem fl_X6_80 : jv_fl RX6 80 3 1 true (.object "TemperNurses$Course") := ⟨RX3, TX3, 2, tyX3, rfl, by decide, iw_X3, mw_204, rfl, by decide +kernel, tyX3_ok, nmX3⟩
theorem fl_X6_24 : jv_fl RX6 24 6 0 true (.object "TemperNurses$House") := ⟨RX6, TX6, 7, tyX6, rfl, by decide, iw_X6, mw_216, rfl, by decide +kernel, tyX6_ok, nmX6⟩
theorem fl_X6_9 : jv_fl RX6 9 6 1 true (.array .int) := ⟨RX6, TX6, 7, tyX6, rfl, by decide, iw_X6, mw_217, rfl, by decide +kernel, tyX6_ok, nmX6⟩
theorem fl_X6_15 : jv_fl RX6 15 6 2 true (.array .int) := ⟨RX6, TX6, 7, tyX6, rfl, by decide, iw_X6, mw_218, rfl, by decide +kernel, tyX6_ok, nmX6⟩
theorem fl_X6_18 : jv_fl RX6 18 6 3 true (.array .int) := ⟨RX6, TX6, 7, tyX6, rfl, by decide, iw_X6, mw_219, rfl, by decide +kernel, tyX6_ok, nmX6⟩
theorem fl_X6_60 : jv_fl RX6 60 6 4 false .int := ⟨RX6, TX6, 7, tyX6, rfl, by decide, iw_X6, mw_220, rfl, by decide +kernel, tyX6_ok, nmX6⟩
theorem fl_X6_21 : jv_fl RX6 21 6 5 true (.array .int) := ⟨RX6, TX6, 7, tyX6, rfl, by decide, iw_X6, mw_221, rfl, by decide +kernel, tyX6_ok, nmX6⟩
theorem fl_X8_219 : jv_fl RX8 219 6 5 true (.array .int) := ⟨RX6, TX6, 7, tyX6, rfl, by decide, iw_X6, mw_222, rfl, by decide +kernel, tyX6_ok, nmX6⟩
theorem fl_X6_28 : jv_fl RX6 28 6 6 false .int := ⟨RX6, TX6, 7, tyX6, rfl, by decide, iw_X6, mw_223, rfl, by decide +kernel, tyX6_ok, nmX6⟩
theorem fl_X8_216 : jv_fl RX8 216 6 6 false .int := ⟨RX6, TX6, 7, tyX6, rfl, by decide, iw_X6, mw_224, rfl, by decide +kernel, tyX6_ok, nmX6⟩
theorem fl_X0_18 : jv_fl RX0 18 0 0 true (.object "TemperNurses$House") := ⟨RX0, TX0, 5, tyX0, rfl, by decide, iw_X0, mw_246, rfl, by decide +kernel, tyX0_ok, nmX0⟩
theorem fl_X0_9 : jv_fl RX0 9 0 1 true (.array .int) := ⟨RX0, TX0, 5, tyX0, rfl, by decide, iw_X0, mw_247, rfl, by decide +kernel, tyX0_ok, nmX0⟩
theorem fl_X0_22 : jv_fl RX0 22 0 2 false .int := ⟨RX0, TX0, 5, tyX0, rfl, by decide, iw_X0, mw_248, rfl, by decide +kernel, tyX0_ok, nmX0⟩
theorem fl_X0_15 : jv_fl RX0 15 0 3 true (.array .int) := ⟨RX0, TX0, 5, tyX0, rfl, by decide, iw_X0, mw_249, rfl, by decide +kernel, tyX0_ok, nmX0⟩
theorem fl_X8_230 : jv_fl RX8 230 0 3 true (.array .int) := ⟨RX0, TX0, 5, tyX0, rfl, by decide, iw_X0, mw_250, rfl, by decide +kernel, tyX0_ok, nmX0⟩
theorem fl_X0_26 : jv_fl RX0 26 0 4 false .int := ⟨RX0, TX0, 5, tyX0, rfl, by decide, iw_X0, mw_251, rfl, by decide +kernel, tyX0_ok, nmX0⟩
theorem fl_X8_229 : jv_fl RX8 229 0 4 false .int := ⟨RX0, TX0, 5, tyX0, rfl, by decide, iw_X0, mw_252, rfl, by decide +kernel, tyX0_ok, nmX0⟩
theorem fl_X5_18 : jv_fl RX5 18 5 0 true (.object "TemperNurses$House") := ⟨RX5, TX5, 4, tyX5, rfl, by decide, iw_X5, mw_270, rfl, by decide +kernel, tyX5_ok, nmX5⟩
theorem fl_X5_9 : jv_fl RX5 9 5 1 true (.array .int) := ⟨RX5, TX5, 4, tyX5, rfl, by decide, iw_X5, mw_271, rfl, by decide +kernel, tyX5_ok, nmX5⟩
theorem fl_X5_15 : jv_fl RX5 15 5 2 true (.array .int) := ⟨RX5, TX5, 4, tyX5, rfl, by decide, iw_X5, mw_272, rfl, by decide +kernel, tyX5_ok, nmX5⟩
theorem fl_X5_22 : jv_fl RX5 22 5 3 false .int := ⟨RX5, TX5, 4, tyX5, rfl, by decide, iw_X5, mw_273, rfl, by decide +kernel, tyX5_ok, nmX5⟩
theorem fl_X8_239 : jv_fl RX8 239 5 3 false .int := ⟨RX5, TX5, 4, tyX5, rfl, by decide, iw_X5, mw_274, rfl, by decide +kernel, tyX5_ok, nmX5⟩
theorem fl_X4_7 : jv_fl RX4 7 4 0 true (.object "TemperNurses$House") := ⟨RX4, TX4, 2, tyX4, rfl, by decide, iw_X4, mw_290, rfl, by decide +kernel, tyX4_ok, nmX4⟩
theorem fl_X4_13 : jv_fl RX4 13 4 1 false .long := ⟨RX4, TX4, 2, tyX4, rfl, by decide, iw_X4, mw_291, rfl, by decide +kernel, tyX4_ok, nmX4⟩
theorem fl_X8_279 : jv_fl RX8 279 4 1 false .long := ⟨RX4, TX4, 2, tyX4, rfl, by decide, iw_X4, mw_292, rfl, by decide +kernel, tyX4_ok, nmX4⟩
theorem fl_X8_10 : jv_fl RX8 10 8 0 true (.object "TemperNurses$Hill") := ⟨RX8, TX8, 12, tyX8, rfl, by decide, iw_X8, mw_322, rfl, by decide +kernel, tyX8_ok, nmX8⟩
theorem fl_X8_19 : jv_fl RX8 19 8 1 true (.object "TemperNurses$TextReader") := ⟨RX8, TX8, 12, tyX8, rfl, by decide, iw_X8, mw_323, rfl, by decide +kernel, tyX8_ok, nmX8⟩
theorem fl_X8_26 : jv_fl RX8 26 8 2 true (.object "TemperNurses$Course") := ⟨RX8, TX8, 12, tyX8, rfl, by decide, iw_X8, mw_324, rfl, by decide +kernel, tyX8_ok, nmX8⟩
theorem fl_X8_35 : jv_fl RX8 35 8 3 true (.object "TemperNurses$House") := ⟨RX8, TX8, 12, tyX8, rfl, by decide, iw_X8, mw_325, rfl, by decide +kernel, tyX8_ok, nmX8⟩
theorem fl_X8_44 : jv_fl RX8 44 8 4 true (.object "TemperNurses$Planner") := ⟨RX8, TX8, 12, tyX8, rfl, by decide, iw_X8, mw_326, rfl, by decide +kernel, tyX8_ok, nmX8⟩
theorem fl_X8_51 : jv_fl RX8 51 8 5 true (.object "TemperNurses$BedMaker") := ⟨RX8, TX8, 12, tyX8, rfl, by decide, iw_X8, mw_327, rfl, by decide +kernel, tyX8_ok, nmX8⟩
theorem fl_X8_58 : jv_fl RX8 58 8 6 true (.object "TemperNurses$Listener") := ⟨RX8, TX8, 12, tyX8, rfl, by decide, iw_X8, mw_328, rfl, by decide +kernel, tyX8_ok, nmX8⟩
theorem fl_X8_65 : jv_fl RX8 65 8 7 true (.object "TemperNurses$Kinds") := ⟨RX8, TX8, 12, tyX8, rfl, by decide, iw_X8, mw_329, rfl, by decide +kernel, tyX8_ok, nmX8⟩
theorem fl_X8_69 : jv_fl RX8 69 8 8 true (.object "TemperNurses$Course") := ⟨RX8, TX8, 12, tyX8, rfl, by decide, iw_X8, mw_330, rfl, by decide +kernel, tyX8_ok, nmX8⟩
theorem fl_X8_72 : jv_fl RX8 72 8 9 true (.object "TemperNurses$Course") := ⟨RX8, TX8, 12, tyX8, rfl, by decide, iw_X8, mw_331, rfl, by decide +kernel, tyX8_ok, nmX8⟩
theorem fl_X8_75 : jv_fl RX8 75 8 10 true (.array .int) := ⟨RX8, TX8, 12, tyX8, rfl, by decide, iw_X8, mw_332, rfl, by decide +kernel, tyX8_ok, nmX8⟩
theorem fl_X8_109 : jv_fl RX8 109 8 11 false .int := ⟨RX8, TX8, 12, tyX8, rfl, by decide, iw_X8, mw_333, rfl, by decide +kernel, tyX8_ok, nmX8⟩
theorem fl_X9_71 : jv_fl RX9 71 9 0 false .int := ⟨RX9, TX9, 31, tyX9, rfl, by decide, iw_X9, mw_814, rfl, by decide +kernel, tyX9_ok, nmX9⟩
theorem fl_X9_79 : jv_fl RX9 79 9 1 false .int := ⟨RX9, TX9, 31, tyX9, rfl, by decide, iw_X9, mw_815, rfl, by decide +kernel, tyX9_ok, nmX9⟩
theorem fl_X9_7 : jv_fl RX9 7 9 2 true (.array .int) := ⟨RX9, TX9, 31, tyX9, rfl, by decide, iw_X9, mw_816, rfl, by decide +kernel, tyX9_ok, nmX9⟩
theorem fl_X9_13 : jv_fl RX9 13 9 3 true (.array .int) := ⟨RX9, TX9, 31, tyX9, rfl, by decide, iw_X9, mw_817, rfl, by decide +kernel, tyX9_ok, nmX9⟩
theorem fl_X9_16 : jv_fl RX9 16 9 4 true (.array .int) := ⟨RX9, TX9, 31, tyX9, rfl, by decide, iw_X9, mw_818, rfl, by decide +kernel, tyX9_ok, nmX9⟩
theorem fl_X9_19 : jv_fl RX9 19 9 5 true (.array .int) := ⟨RX9, TX9, 31, tyX9, rfl, by decide, iw_X9, mw_819, rfl, by decide +kernel, tyX9_ok, nmX9⟩
theorem fl_X9_22 : jv_fl RX9 22 9 6 true (.array .int) := ⟨RX9, TX9, 31, tyX9, rfl, by decide, iw_X9, mw_820, rfl, by decide +kernel, tyX9_ok, nmX9⟩
theorem fl_X9_25 : jv_fl RX9 25 9 7 true (.array .int) := ⟨RX9, TX9, 31, tyX9, rfl, by decide, iw_X9, mw_821, rfl, by decide +kernel, tyX9_ok, nmX9⟩
theorem fl_X9_28 : jv_fl RX9 28 9 8 true (.array .int) := ⟨RX9, TX9, 31, tyX9, rfl, by decide, iw_X9, mw_822, rfl, by decide +kernel, tyX9_ok, nmX9⟩
theorem fl_X9_31 : jv_fl RX9 31 9 9 true (.array .int) := ⟨RX9, TX9, 31, tyX9, rfl, by decide, iw_X9, mw_823, rfl, by decide +kernel, tyX9_ok, nmX9⟩
theorem fl_X9_34 : jv_fl RX9 34 9 10 true (.array .boolean) := ⟨RX9, TX9, 31, tyX9, rfl, by decide, iw_X9, mw_824, rfl, by decide +kernel, tyX9_ok, nmX9⟩
theorem fl_X9_38 : jv_fl RX9 38 9 11 true (.array .int) := ⟨RX9, TX9, 31, tyX9, rfl, by decide, iw_X9, mw_825, rfl, by decide +kernel, tyX9_ok, nmX9⟩
theorem fl_X9_41 : jv_fl RX9 41 9 12 true (.array .int) := ⟨RX9, TX9, 31, tyX9, rfl, by decide, iw_X9, mw_826, rfl, by decide +kernel, tyX9_ok, nmX9⟩
theorem fl_X9_130 : jv_fl RX9 130 9 13 false .int := ⟨RX9, TX9, 31, tyX9, rfl, by decide, iw_X9, mw_827, rfl, by decide +kernel, tyX9_ok, nmX9⟩
theorem fl_X9_221 : jv_fl RX9 221 9 14 false .long := ⟨RX9, TX9, 31, tyX9, rfl, by decide, iw_X9, mw_828, rfl, by decide +kernel, tyX9_ok, nmX9⟩
theorem fl_X9_44 : jv_fl RX9 44 9 15 true (.array .int) := ⟨RX9, TX9, 31, tyX9, rfl, by decide, iw_X9, mw_829, rfl, by decide +kernel, tyX9_ok, nmX9⟩
theorem fl_X9_84 : jv_fl RX9 84 9 16 false .int := ⟨RX9, TX9, 31, tyX9, rfl, by decide, iw_X9, mw_830, rfl, by decide +kernel, tyX9_ok, nmX9⟩
theorem fl_X9_97 : jv_fl RX9 97 9 17 false .int := ⟨RX9, TX9, 31, tyX9, rfl, by decide, iw_X9, mw_831, rfl, by decide +kernel, tyX9_ok, nmX9⟩
theorem fl_X9_87 : jv_fl RX9 87 9 18 false .int := ⟨RX9, TX9, 31, tyX9, rfl, by decide, iw_X9, mw_832, rfl, by decide +kernel, tyX9_ok, nmX9⟩
theorem fl_X9_100 : jv_fl RX9 100 9 19 false .int := ⟨RX9, TX9, 31, tyX9, rfl, by decide, iw_X9, mw_833, rfl, by decide +kernel, tyX9_ok, nmX9⟩
theorem fl_X9_90 : jv_fl RX9 90 9 20 false .int := ⟨RX9, TX9, 31, tyX9, rfl, by decide, iw_X9, mw_834, rfl, by decide +kernel, tyX9_ok, nmX9⟩
theorem fl_X9_107 : jv_fl RX9 107 9 21 false .int := ⟨RX9, TX9, 31, tyX9, rfl, by decide, iw_X9, mw_835, rfl, by decide +kernel, tyX9_ok, nmX9⟩
theorem fl_X9_113 : jv_fl RX9 113 9 22 false .int := ⟨RX9, TX9, 31, tyX9, rfl, by decide, iw_X9, mw_836, rfl, by decide +kernel, tyX9_ok, nmX9⟩
theorem fl_X9_47 : jv_fl RX9 47 9 23 true (.array .int) := ⟨RX9, TX9, 31, tyX9, rfl, by decide, iw_X9, mw_837, rfl, by decide +kernel, tyX9_ok, nmX9⟩
theorem fl_X9_50 : jv_fl RX9 50 9 24 true (.array .int) := ⟨RX9, TX9, 31, tyX9, rfl, by decide, iw_X9, mw_838, rfl, by decide +kernel, tyX9_ok, nmX9⟩
theorem fl_X9_53 : jv_fl RX9 53 9 25 true (.array .int) := ⟨RX9, TX9, 31, tyX9, rfl, by decide, iw_X9, mw_839, rfl, by decide +kernel, tyX9_ok, nmX9⟩
theorem fl_X9_56 : jv_fl RX9 56 9 26 true (.array .int) := ⟨RX9, TX9, 31, tyX9, rfl, by decide, iw_X9, mw_840, rfl, by decide +kernel, tyX9_ok, nmX9⟩
theorem fl_X9_59 : jv_fl RX9 59 9 27 true (.array .int) := ⟨RX9, TX9, 31, tyX9, rfl, by decide, iw_X9, mw_841, rfl, by decide +kernel, tyX9_ok, nmX9⟩
theorem fl_X9_62 : jv_fl RX9 62 9 28 true (.array .int) := ⟨RX9, TX9, 31, tyX9, rfl, by decide, iw_X9, mw_842, rfl, by decide +kernel, tyX9_ok, nmX9⟩
theorem fl_X9_65 : jv_fl RX9 65 9 29 true (.array .int) := ⟨RX9, TX9, 31, tyX9, rfl, by decide, iw_X9, mw_843, rfl, by decide +kernel, tyX9_ok, nmX9⟩
theorem fl_X9_68 : jv_fl RX9 68 9 30 true (.array .int) := ⟨RX9, TX9, 31, tyX9, rfl, by decide, iw_X9, mw_844, rfl, by decide +kernel, tyX9_ok, nmX9⟩
def jv_cb (y : MethodName) (cc : ByteArray) (nL : Nat) (rt : Option FieldType) (n : Nat) : Prop := Cond.initialized y.cls ∈ jv_T ∧ Cond.code y cc nL rt ∈ jv_T ∧ (y.cls ≠ "java/lang/invoke/MethodHandle" ∧ y.cls ≠ "java/lang/invoke/VarHandle" ∧ (parseMethodDescriptor y.desc).map (fun d => d.parameters.length) = some n)
def jv_cv (own : String) (ix : Nat) (y : MethodName) : Prop := Cond.methodLink own ix y ∈ jv_T ∧ Cond.instanceMethod y ∈ jv_T ∧ Cond.selects y.cls y y ∈ jv_T
def jv_cs (own : String) (ix : Nat) (y : MethodName) : Prop := Cond.methodLink own ix y ∈ jv_T ∧ Cond.static y ∈ jv_T
def jv_cn (own : String) (ix : Nat) (y : MethodName) (host : String) : Prop := Cond.methodLinkNest own ix y host ∈ jv_ns ∧ Cond.static y ∈ jv_T
theorem cb_X0_init : jv_cb yX0_init cX0_init 2 none 1 := ⟨mw_59, mw_244, by decide +kernel, by decide +kernel, by decide +kernel⟩
theorem cb_X0_makeBeds : jv_cb yX0_makeBeds cX0_makeBeds 2 none 1 := ⟨mw_59, mw_676, by decide +kernel, by decide +kernel, by decide +kernel⟩
theorem cb_X0_tryOthers : jv_cb yX0_tryOthers cX0_tryOthers 4 none 2 := ⟨mw_59, mw_681, by decide +kernel, by decide +kernel, by decide +kernel⟩
theorem cb_X0_mayShare : jv_cb yX0_mayShare cX0_mayShare 3 (some .boolean) 2 := ⟨mw_59, mw_686, by decide +kernel, by decide +kernel, by decide +kernel⟩
theorem cb_X1_init : jv_cb yX1_init cX1_init 1 none 0 := ⟨mw_56, mw_179, by decide +kernel, by decide +kernel, by decide +kernel⟩
theorem cb_X1_begin : jv_cb yX1_begin cX1_begin 3 none 1 := ⟨mw_56, mw_301, by decide +kernel, by decide +kernel, by decide +kernel⟩
theorem cb_X1_take : jv_cb yX1_take cX1_take 2 none 1 := ⟨mw_56, mw_794, by decide +kernel, by decide +kernel, by decide +kernel⟩
theorem cb_X1_remember : jv_cb yX1_remember cX1_remember 1 none 0 := ⟨mw_56, mw_551, by decide +kernel, by decide +kernel, by decide +kernel⟩
theorem cb_X1_stepBack : jv_cb yX1_stepBack cX1_stepBack 1 (some .boolean) 0 := ⟨mw_56, mw_610, by decide +kernel, by decide +kernel, by decide +kernel⟩
theorem cb_X1_year : jv_cb yX1_year cX1_year 1 (some .int) 0 := ⟨mw_56, mw_584, by decide +kernel, by decide +kernel, by decide +kernel⟩
theorem cb_X1_heat : jv_cb yX1_heat cX1_heat 2 (some .int) 1 := ⟨mw_56, mw_489, by decide +kernel, by decide +kernel, by decide +kernel⟩
theorem cb_X1_place : jv_cb yX1_place cX1_place 2 (some .int) 1 := ⟨mw_56, mw_497, by decide +kernel, by decide +kernel, by decide +kernel⟩
theorem cb_X1_owner : jv_cb yX1_owner cX1_owner 2 (some .int) 1 := ⟨mw_56, mw_501, by decide +kernel, by decide +kernel, by decide +kernel⟩
theorem cb_X1_setYear : jv_cb yX1_setYear cX1_setYear 2 none 1 := ⟨mw_56, mw_305, by decide +kernel, by decide +kernel, by decide +kernel⟩
theorem cb_X1_setHeat : jv_cb yX1_setHeat cX1_setHeat 3 none 2 := ⟨mw_56, mw_313, by decide +kernel, by decide +kernel, by decide +kernel⟩
theorem cb_X1_setPlace : jv_cb yX1_setPlace cX1_setPlace 3 none 2 := ⟨mw_56, mw_317, by decide +kernel, by decide +kernel, by decide +kernel⟩
theorem cb_X1_setOwner : jv_cb yX1_setOwner cX1_setOwner 3 none 2 := ⟨mw_56, mw_321, by decide +kernel, by decide +kernel, by decide +kernel⟩
theorem cb_X1_ring : jv_cb yX1_ring cX1_ring 4 (some .int) 1 := ⟨mw_56, mw_505, by decide +kernel, by decide +kernel, by decide +kernel⟩
theorem cb_X1_mixesToRight : jv_cb yX1_mixesToRight cX1_mixesToRight 4 (some .int) 1 := ⟨mw_56, mw_572, by decide +kernel, by decide +kernel, by decide +kernel⟩
theorem cb_X1_isLowestOfRing : jv_cb yX1_isLowestOfRing cX1_isLowestOfRing 4 (some .boolean) 1 := ⟨mw_56, mw_576, by decide +kernel, by decide +kernel, by decide +kernel⟩
theorem cb_X1_cell : jv_cb yX1_cell cX1_cell 3 (some .int) 1 := ⟨mw_56, mw_493, by decide +kernel, by decide +kernel, by decide +kernel⟩
theorem cb_X1_setCell : jv_cb yX1_setCell cX1_setCell 4 none 2 := ⟨mw_56, mw_309, by decide +kernel, by decide +kernel, by decide +kernel⟩
theorem cb_X2_init : jv_cb yX2_init cX2_init 1 none 0 := ⟨mw_54, mw_79, by decide +kernel, by decide +kernel, by decide +kernel⟩
theorem cb_X2_hasTemper : jv_cb yX2_hasTemper cX2_hasTemper 2 (some .boolean) 1 := ⟨mw_54, mw_445, by decide +kernel, by decide +kernel, by decide +kernel⟩
theorem cb_X2_hasNurse : jv_cb yX2_hasNurse cX2_hasNurse 2 (some .boolean) 1 := ⟨mw_54, mw_514, by decide +kernel, by decide +kernel, by decide +kernel⟩
theorem cb_X2_wipe : jv_cb yX2_wipe cX2_wipe 1 none 0 := ⟨mw_54, mw_389, by decide +kernel, by decide +kernel, by decide +kernel⟩
theorem cb_X2_addTemper : jv_cb yX2_addTemper cX2_addTemper 4 none 3 := ⟨mw_54, mw_457, by decide +kernel, by decide +kernel, by decide +kernel⟩
theorem cb_X2_addNurse : jv_cb yX2_addNurse cX2_addNurse 4 none 3 := ⟨mw_54, mw_461, by decide +kernel, by decide +kernel, by decide +kernel⟩
theorem cb_X2_addClash : jv_cb yX2_addClash cX2_addClash 3 none 2 := ⟨mw_54, mw_465, by decide +kernel, by decide +kernel, by decide +kernel⟩
theorem cb_X2_take : jv_cb yX2_take cX2_take 2 none 1 := ⟨mw_54, mw_473, by decide +kernel, by decide +kernel, by decide +kernel⟩
theorem cb_X3_init : jv_cb yX3_init cX3_init 3 none 2 := ⟨mw_57, mw_193, by decide +kernel, by decide +kernel, by decide +kernel⟩
theorem cb_X3_broken : jv_cb yX3_broken cX3_broken 3 (some .int) 0 := ⟨mw_57, mw_602, by decide +kernel, by decide +kernel, by decide +kernel⟩
theorem cb_X3_heatOfAll : jv_cb yX3_heatOfAll cX3_heatOfAll 3 (some .int) 0 := ⟨mw_57, mw_635, by decide +kernel, by decide +kernel, by decide +kernel⟩
theorem cb_X3_thoseWith : jv_cb yX3_thoseWith cX3_thoseWith 4 (some .int) 1 := ⟨mw_57, mw_518, by decide +kernel, by decide +kernel, by decide +kernel⟩
theorem cb_X3_thoseThatMayBeSentTo : jv_cb yX3_thoseThatMayBeSentTo cX3_thoseThatMayBeSentTo 4 (some .int) 1 := ⟨mw_57, mw_524, by decide +kernel, by decide +kernel, by decide +kernel⟩
theorem cb_X3_mayBeSent : jv_cb yX3_mayBeSent cX3_mayBeSent 3 (some .boolean) 2 := ⟨mw_57, mw_528, by decide +kernel, by decide +kernel, by decide +kernel⟩
theorem cb_X3_mayJoin : jv_cb yX3_mayJoin cX3_mayJoin 4 (some .boolean) 3 := ⟨mw_57, mw_533, by decide +kernel, by decide +kernel, by decide +kernel⟩
theorem cb_X3_heatIn : jv_cb yX3_heatIn cX3_heatIn 7 (some .int) 2 := ⟨mw_57, mw_588, by decide +kernel, by decide +kernel, by decide +kernel⟩
theorem cb_X3_yearsTillBroken : jv_cb yX3_yearsTillBroken cX3_yearsTillBroken 5 (some .int) 2 := ⟨mw_57, mw_622, by decide +kernel, by decide +kernel, by decide +kernel⟩
theorem cb_X3_worthOfFetching : jv_cb yX3_worthOfFetching cX3_worthOfFetching 4 (some .int) 2 := ⟨mw_57, mw_666, by decide +kernel, by decide +kernel, by decide +kernel⟩
theorem cb_X3_heatNextYear : jv_cb yX3_heatNextYear cX3_heatNextYear 3 (some .int) 3 := ⟨mw_57, mw_591, by decide +kernel, by decide +kernel, by decide +kernel⟩
theorem cb_X4_init : jv_cb yX4_init cX4_init 2 none 1 := ⟨mw_61, mw_288, by decide +kernel, by decide +kernel, by decide +kernel⟩
theorem cb_X4_asTemper : jv_cb yX4_asTemper cX4_asTemper 2 (some .int) 1 := ⟨mw_61, mw_749, by decide +kernel, by decide +kernel, by decide +kernel⟩
theorem cb_X4_asRage : jv_cb yX4_asRage cX4_asRage 2 (some .int) 1 := ⟨mw_61, mw_754, by decide +kernel, by decide +kernel, by decide +kernel⟩
theorem cb_X4_asSulk : jv_cb yX4_asSulk cX4_asSulk 2 (some .int) 1 := ⟨mw_61, mw_761, by decide +kernel, by decide +kernel, by decide +kernel⟩
theorem cb_X4_asStorm : jv_cb yX4_asStorm cX4_asStorm 2 (some .int) 1 := ⟨mw_61, mw_768, by decide +kernel, by decide +kernel, by decide +kernel⟩
theorem cb_X4_asGrudge : jv_cb yX4_asGrudge cX4_asGrudge 2 (some .int) 1 := ⟨mw_61, mw_774, by decide +kernel, by decide +kernel, by decide +kernel⟩
theorem cb_X4_asPet : jv_cb yX4_asPet cX4_asPet 2 (some .int) 1 := ⟨mw_61, mw_780, by decide +kernel, by decide +kernel, by decide +kernel⟩
theorem cb_X5_init : jv_cb yX5_init cX5_init 2 none 1 := ⟨mw_60, mw_268, by decide +kernel, by decide +kernel, by decide +kernel⟩
theorem cb_X5_append : jv_cb yX5_append cX5_append 3 (some .boolean) 2 := ⟨mw_60, mw_708, by decide +kernel, by decide +kernel, by decide +kernel⟩
theorem cb_X5_empty : jv_cb yX5_empty cX5_empty 2 (some .int) 0 := ⟨mw_60, mw_480, by decide +kernel, by decide +kernel, by decide +kernel⟩
theorem cb_X5_suspects : jv_cb yX5_suspects cX5_suspects 3 (some .int) 0 := ⟨mw_60, mw_720, by decide +kernel, by decide +kernel, by decide +kernel⟩
theorem cb_X5_nextBang : jv_cb yX5_nextBang cX5_nextBang 8 (some .int) 0 := ⟨mw_60, mw_734, by decide +kernel, by decide +kernel, by decide +kernel⟩
theorem cb_X5_countBanging : jv_cb yX5_countBanging cX5_countBanging 5 (some .int) 2 := ⟨mw_60, mw_740, by decide +kernel, by decide +kernel, by decide +kernel⟩
theorem cb_X5_isAsHeard : jv_cb yX5_isAsHeard cX5_isAsHeard 4 (some .boolean) 1 := ⟨mw_60, mw_725, by decide +kernel, by decide +kernel, by decide +kernel⟩
theorem cb_X6_init : jv_cb yX6_init cX6_init 2 none 1 := ⟨mw_58, mw_214, by decide +kernel, by decide +kernel, by decide +kernel⟩
theorem cb_X6_findPlan : jv_cb yX6_findPlan cX6_findPlan 1 none 0 := ⟨mw_58, mw_652, by decide +kernel, by decide +kernel, by decide +kernel⟩
theorem cb_X6_soonest : jv_cb yX6_soonest cX6_soonest 3 (some .int) 0 := ⟨mw_58, mw_618, by decide +kernel, by decide +kernel, by decide +kernel⟩
theorem cb_X6_tryPlaces : jv_cb yX6_tryPlaces cX6_tryPlaces 5 none 2 := ⟨mw_58, mw_656, by decide +kernel, by decide +kernel, by decide +kernel⟩
theorem cb_X6_tryYears : jv_cb yX6_tryYears cX6_tryYears 6 none 2 := ⟨mw_58, mw_627, by decide +kernel, by decide +kernel, by decide +kernel⟩
theorem cb_X7_init : jv_cb yX7_init cX7_init 1 none 0 := ⟨mw_55, mw_138, by decide +kernel, by decide +kernel, by decide +kernel⟩
theorem cb_X7_append : jv_cb yX7_append cX7_append 2 (some .boolean) 1 := ⟨mw_55, mw_369, by decide +kernel, by decide +kernel, by decide +kernel⟩
theorem cb_X7_empty : jv_cb yX7_empty cX7_empty 2 (some .int) 0 := ⟨mw_55, mw_377, by decide +kernel, by decide +kernel, by decide +kernel⟩
theorem cb_X7_readAll : jv_cb yX7_readAll cX7_readAll 3 (some .int) 0 := ⟨mw_55, mw_385, by decide +kernel, by decide +kernel, by decide +kernel⟩
theorem cb_X7_canStand : jv_cb yX7_canStand cX7_canStand 1 (some .boolean) 0 := ⟨mw_55, mw_421, by decide +kernel, by decide +kernel, by decide +kernel⟩
theorem cb_X7_canBeginItem : jv_cb yX7_canBeginItem cX7_canBeginItem 1 (some .boolean) 0 := ⟨mw_55, mw_425, by decide +kernel, by decide +kernel, by decide +kernel⟩
theorem cb_X7_canBeTold : jv_cb yX7_canBeTold cX7_canBeTold 2 (some .boolean) 0 := ⟨mw_55, mw_433, by decide +kernel, by decide +kernel, by decide +kernel⟩
theorem cb_X7_numbersOfItem : jv_cb yX7_numbersOfItem cX7_numbersOfItem 1 (some .int) 0 := ⟨mw_55, mw_429, by decide +kernel, by decide +kernel, by decide +kernel⟩
theorem cb_X7_takeToken : jv_cb yX7_takeToken cX7_takeToken 1 none 0 := ⟨mw_55, mw_449, by decide +kernel, by decide +kernel, by decide +kernel⟩
theorem cb_X7_takeItem : jv_cb yX7_takeItem cX7_takeItem 1 none 0 := ⟨mw_55, mw_453, by decide +kernel, by decide +kernel, by decide +kernel⟩
theorem cb_X7_readToken : jv_cb yX7_readToken cX7_readToken 1 none 0 := ⟨mw_55, mw_396, by decide +kernel, by decide +kernel, by decide +kernel⟩
theorem cb_X7_readLetters : jv_cb yX7_readLetters cX7_readLetters 1 none 0 := ⟨mw_55, mw_409, by decide +kernel, by decide +kernel, by decide +kernel⟩
theorem cb_X7_readDigits : jv_cb yX7_readDigits cX7_readDigits 2 none 0 := ⟨mw_55, mw_417, by decide +kernel, by decide +kernel, by decide +kernel⟩
theorem cb_X7_isLetter : jv_cb yX7_isLetter cX7_isLetter 2 (some .boolean) 1 := ⟨mw_55, mw_405, by decide +kernel, by decide +kernel, by decide +kernel⟩
theorem cb_X7_isDigit : jv_cb yX7_isDigit cX7_isDigit 2 (some .boolean) 1 := ⟨mw_55, mw_413, by decide +kernel, by decide +kernel, by decide +kernel⟩
theorem cb_X7_byteAt : jv_cb yX7_byteAt cX7_byteAt 2 (some .int) 1 := ⟨mw_55, mw_400, by decide +kernel, by decide +kernel, by decide +kernel⟩
theorem cb_X8_init : jv_cb yX8_init cX8_init 1 none 0 := ⟨mw_53, mw_71, by decide +kernel, by decide +kernel, by decide +kernel⟩
theorem cb_X8_type : jv_cb yX8_type cX8_type 2 (some .int) 1 := ⟨mw_53, mw_362, by decide +kernel, by decide +kernel, by decide +kernel⟩
theorem cb_X8_clear : jv_cb yX8_clear cX8_clear 1 (some .int) 0 := ⟨mw_53, mw_373, by decide +kernel, by decide +kernel, by decide +kernel⟩
theorem cb_X8_hill : jv_cb yX8_hill cX8_hill 2 (some .int) 0 := ⟨mw_53, mw_381, by decide +kernel, by decide +kernel, by decide +kernel⟩
theorem cb_X8_temper : jv_cb yX8_temper cX8_temper 3 (some .int) 2 := ⟨mw_53, mw_484, by decide +kernel, by decide +kernel, by decide +kernel⟩
theorem cb_X8_nurse : jv_cb yX8_nurse cX8_nurse 3 (some .int) 2 := ⟨mw_53, mw_510, by decide +kernel, by decide +kernel, by decide +kernel⟩
theorem cb_X8_sends : jv_cb yX8_sends cX8_sends 3 (some .int) 2 := ⟨mw_53, mw_546, by decide +kernel, by decide +kernel, by decide +kernel⟩
theorem cb_X8_fetches : jv_cb yX8_fetches cX8_fetches 3 (some .int) 1 := ⟨mw_53, mw_558, by decide +kernel, by decide +kernel, by decide +kernel⟩
theorem cb_X8_visits : jv_cb yX8_visits cX8_visits 3 (some .int) 1 := ⟨mw_53, mw_562, by decide +kernel, by decide +kernel, by decide +kernel⟩
theorem cb_X8_mixes : jv_cb yX8_mixes cX8_mixes 4 (some .int) 2 := ⟨mw_53, mw_567, by decide +kernel, by decide +kernel, by decide +kernel⟩
theorem cb_X8_years : jv_cb yX8_years cX8_years 3 (some .int) 1 := ⟨mw_53, mw_580, by decide +kernel, by decide +kernel, by decide +kernel⟩
theorem cb_X8_undo : jv_cb yX8_undo cX8_undo 1 (some .int) 0 := ⟨mw_53, mw_606, by decide +kernel, by decide +kernel, by decide +kernel⟩
theorem cb_X8_now : jv_cb yX8_now cX8_now 2 (some .int) 1 := ⟨mw_53, mw_614, by decide +kernel, by decide +kernel, by decide +kernel⟩
theorem cb_X8_when : jv_cb yX8_when cX8_when 3 (some .int) 2 := ⟨mw_53, mw_639, by decide +kernel, by decide +kernel, by decide +kernel⟩
theorem cb_X8_hot : jv_cb yX8_hot cX8_hot 3 (some .int) 2 := ⟨mw_53, mw_644, by decide +kernel, by decide +kernel, by decide +kernel⟩
theorem cb_X8_plan : jv_cb yX8_plan cX8_plan 2 (some .int) 1 := ⟨mw_53, mw_648, by decide +kernel, by decide +kernel, by decide +kernel⟩
theorem cb_X8_best : jv_cb yX8_best cX8_best 7 (some .int) 2 := ⟨mw_53, mw_661, by decide +kernel, by decide +kernel, by decide +kernel⟩
theorem cb_X8_beds : jv_cb yX8_beds cX8_beds 3 (some .int) 2 := ⟨mw_53, mw_672, by decide +kernel, by decide +kernel, by decide +kernel⟩
theorem cb_X8_odds : jv_cb yX8_odds cX8_odds 7 (some .int) 3 := ⟨mw_53, mw_692, by decide +kernel, by decide +kernel, by decide +kernel⟩
theorem cb_X8_hears : jv_cb yX8_hears cX8_hears 3 (some .int) 2 := ⟨mw_53, mw_704, by decide +kernel, by decide +kernel, by decide +kernel⟩
theorem cb_X8_forget : jv_cb yX8_forget cX8_forget 1 (some .int) 0 := ⟨mw_53, mw_712, by decide +kernel, by decide +kernel, by decide +kernel⟩
theorem cb_X8_whose : jv_cb yX8_whose cX8_whose 1 (some .int) 0 := ⟨mw_53, mw_716, by decide +kernel, by decide +kernel, by decide +kernel⟩
theorem cb_X8_ask : jv_cb yX8_ask cX8_ask 1 (some .int) 0 := ⟨mw_53, mw_730, by decide +kernel, by decide +kernel, by decide +kernel⟩
theorem cb_X8_mark : jv_cb yX8_mark cX8_mark 3 (some .int) 2 := ⟨mw_53, mw_745, by decide +kernel, by decide +kernel, by decide +kernel⟩
theorem cb_X8_keep : jv_cb yX8_keep cX8_keep 2 (some .int) 1 := ⟨mw_53, mw_786, by decide +kernel, by decide +kernel, by decide +kernel⟩
theorem cb_X8_back : jv_cb yX8_back cX8_back 2 (some .int) 1 := ⟨mw_53, mw_799, by decide +kernel, by decide +kernel, by decide +kernel⟩
theorem cb_X8_count : jv_cb yX8_count cX8_count 2 (some .int) 1 := ⟨mw_53, mw_803, by decide +kernel, by decide +kernel, by decide +kernel⟩
theorem cb_X8_trace : jv_cb yX8_trace cX8_trace 1 (some .long) 0 := ⟨mw_53, mw_807, by decide +kernel, by decide +kernel, by decide +kernel⟩
theorem cb_X8_isWithin : jv_cb yX8_isWithin cX8_isWithin 3 (some .boolean) 3 := ⟨mw_53, mw_365, by decide +kernel, by decide +kernel, by decide +kernel⟩
theorem cb_X8_bit : jv_cb yX8_bit cX8_bit 1 (some .int) 1 := ⟨mw_53, mw_469, by decide +kernel, by decide +kernel, by decide +kernel⟩
theorem cb_X8_imageOf : jv_cb yX8_imageOf cX8_imageOf 2 (some (.object "TemperNurses$Course")) 1 := ⟨mw_53, mw_790, by decide +kernel, by decide +kernel, by decide +kernel⟩
theorem cb_X8_countLooseWays : jv_cb yX8_countLooseWays cX8_countLooseWays 5 (some .int) 2 := ⟨mw_53, mw_696, by decide +kernel, by decide +kernel, by decide +kernel⟩
theorem cb_X8_commonDivisor : jv_cb yX8_commonDivisor cX8_commonDivisor 6 (some .int) 2 := ⟨mw_53, mw_700, by decide +kernel, by decide +kernel, by decide +kernel⟩
theorem cb_X9_init : jv_cb yX9_init cX9_init 1 none 0 := ⟨mw_62, mw_812, by decide +kernel, by decide +kernel, by decide +kernel⟩
theorem cb_X9_in : jv_cb yX9_in cX9_in 6 (some .boolean) 3 := ⟨mw_62, mw_916, by decide +kernel, by decide +kernel, by decide +kernel⟩
theorem cb_X9_has : jv_cb yX9_has cX9_has 2 (some .boolean) 2 := ⟨mw_62, mw_1101, by decide +kernel, by decide +kernel, by decide +kernel⟩
theorem cb_X9_bits : jv_cb yX9_bits cX9_bits 3 (some .int) 1 := ⟨mw_62, mw_997, by decide +kernel, by decide +kernel, by decide +kernel⟩
theorem cb_X9_isTemper : jv_cb yX9_isTemper cX9_isTemper 2 (some .boolean) 1 := ⟨mw_62, mw_968, by decide +kernel, by decide +kernel, by decide +kernel⟩
theorem cb_X9_isNurse : jv_cb yX9_isNurse cX9_isNurse 2 (some .boolean) 1 := ⟨mw_62, mw_985, by decide +kernel, by decide +kernel, by decide +kernel⟩
theorem cb_X9_type : jv_cb yX9_type cX9_type 2 (some .int) 1 := ⟨mw_62, mw_912, by decide +kernel, by decide +kernel, by decide +kernel⟩
theorem cb_X9_clear : jv_cb yX9_clear cX9_clear 2 (some .int) 0 := ⟨mw_62, mw_920, by decide +kernel, by decide +kernel, by decide +kernel⟩
theorem cb_X9_isBetween : jv_cb yX9_isBetween cX9_isBetween 4 (some .boolean) 3 := ⟨mw_62, mw_932, by decide +kernel, by decide +kernel, by decide +kernel⟩
theorem cb_X9_lookAt : jv_cb yX9_lookAt cX9_lookAt 4 none 1 := ⟨mw_62, mw_928, by decide +kernel, by decide +kernel, by decide +kernel⟩
theorem cb_X9_isLetter : jv_cb yX9_isLetter cX9_isLetter 2 (some .boolean) 1 := ⟨mw_62, mw_940, by decide +kernel, by decide +kernel, by decide +kernel⟩
theorem cb_X9_takes : jv_cb yX9_takes cX9_takes 4 (some .boolean) 3 := ⟨mw_62, mw_948, by decide +kernel, by decide +kernel, by decide +kernel⟩
theorem cb_X9_takesTemper : jv_cb yX9_takesTemper cX9_takesTemper 2 (some .boolean) 0 := ⟨mw_62, mw_944, by decide +kernel, by decide +kernel, by decide +kernel⟩
theorem cb_X9_takesNurse : jv_cb yX9_takesNurse cX9_takesNurse 2 (some .boolean) 0 := ⟨mw_62, mw_952, by decide +kernel, by decide +kernel, by decide +kernel⟩
theorem cb_X9_takesClash : jv_cb yX9_takesClash cX9_takesClash 1 (some .boolean) 0 := ⟨mw_62, mw_956, by decide +kernel, by decide +kernel, by decide +kernel⟩
theorem cb_X9_takesItem : jv_cb yX9_takesItem cX9_takesItem 1 (some .boolean) 0 := ⟨mw_62, mw_936, by decide +kernel, by decide +kernel, by decide +kernel⟩
theorem cb_X9_takeAll : jv_cb yX9_takeAll cX9_takeAll 2 none 0 := ⟨mw_62, mw_960, by decide +kernel, by decide +kernel, by decide +kernel⟩
theorem cb_X9_hill : jv_cb yX9_hill cX9_hill 2 (some .int) 0 := ⟨mw_62, mw_924, by decide +kernel, by decide +kernel, by decide +kernel⟩
theorem cb_X9_heat : jv_cb yX9_heat cX9_heat 2 (some .int) 1 := ⟨mw_62, mw_973, by decide +kernel, by decide +kernel, by decide +kernel⟩
theorem cb_X9_whom : jv_cb yX9_whom cX9_whom 4 (some .int) 1 := ⟨mw_62, mw_994, by decide +kernel, by decide +kernel, by decide +kernel⟩
theorem cb_X9_maySend : jv_cb yX9_maySend cX9_maySend 4 (some .boolean) 2 := ⟨mw_62, mw_990, by decide +kernel, by decide +kernel, by decide +kernel⟩
theorem cb_X9_ring : jv_cb yX9_ring cX9_ring 4 (some .int) 1 := ⟨mw_62, mw_977, by decide +kernel, by decide +kernel, by decide +kernel⟩
theorem cb_X9_temper : jv_cb yX9_temper cX9_temper 3 (some .int) 2 := ⟨mw_62, mw_964, by decide +kernel, by decide +kernel, by decide +kernel⟩
theorem cb_X9_nurse : jv_cb yX9_nurse cX9_nurse 5 (some .int) 2 := ⟨mw_62, mw_981, by decide +kernel, by decide +kernel, by decide +kernel⟩
theorem cb_X9_save : jv_cb yX9_save cX9_save 2 none 0 := ⟨mw_62, mw_1005, by decide +kernel, by decide +kernel, by decide +kernel⟩
theorem cb_X9_sends : jv_cb yX9_sends cX9_sends 3 (some .int) 2 := ⟨mw_62, mw_1001, by decide +kernel, by decide +kernel, by decide +kernel⟩
theorem cb_X9_fetches : jv_cb yX9_fetches cX9_fetches 3 (some .int) 1 := ⟨mw_62, mw_1009, by decide +kernel, by decide +kernel, by decide +kernel⟩
theorem cb_X9_visits : jv_cb yX9_visits cX9_visits 2 (some .int) 1 := ⟨mw_62, mw_1013, by decide +kernel, by decide +kernel, by decide +kernel⟩
theorem cb_X9_right : jv_cb yX9_right cX9_right 4 (some .int) 0 := ⟨mw_62, mw_1021, by decide +kernel, by decide +kernel, by decide +kernel⟩
theorem cb_X9_mixes : jv_cb yX9_mixes cX9_mixes 4 (some .int) 2 := ⟨mw_62, mw_1017, by decide +kernel, by decide +kernel, by decide +kernel⟩
theorem cb_X9_aged : jv_cb yX9_aged cX9_aged 6 (some .int) 3 := ⟨mw_62, mw_1030, by decide +kernel, by decide +kernel, by decide +kernel⟩
theorem cb_X9_broken : jv_cb yX9_broken cX9_broken 3 (some .int) 0 := ⟨mw_62, mw_1034, by decide +kernel, by decide +kernel, by decide +kernel⟩
theorem cb_X9_years : jv_cb yX9_years cX9_years 4 (some .int) 1 := ⟨mw_62, mw_1025, by decide +kernel, by decide +kernel, by decide +kernel⟩
theorem cb_X9_undo : jv_cb yX9_undo cX9_undo 2 (some .int) 0 := ⟨mw_62, mw_1038, by decide +kernel, by decide +kernel, by decide +kernel⟩
theorem cb_X9_now : jv_cb yX9_now cX9_now 4 (some .int) 1 := ⟨mw_62, mw_1042, by decide +kernel, by decide +kernel, by decide +kernel⟩
theorem cb_X9_whenBroken : jv_cb yX9_whenBroken cX9_whenBroken 5 (some .int) 2 := ⟨mw_62, mw_1051, by decide +kernel, by decide +kernel, by decide +kernel⟩
theorem cb_X9_when : jv_cb yX9_when cX9_when 3 (some .int) 2 := ⟨mw_62, mw_1063, by decide +kernel, by decide +kernel, by decide +kernel⟩
theorem cb_X9_hotIn : jv_cb yX9_hotIn cX9_hotIn 5 (some .int) 2 := ⟨mw_62, mw_1072, by decide +kernel, by decide +kernel, by decide +kernel⟩
theorem cb_X9_hot : jv_cb yX9_hot cX9_hot 3 (some .int) 2 := ⟨mw_62, mw_1067, by decide +kernel, by decide +kernel, by decide +kernel⟩
theorem cb_X9_ways : jv_cb yX9_ways cX9_ways 3 (some .int) 0 := ⟨mw_62, mw_1055, by decide +kernel, by decide +kernel, by decide +kernel⟩
theorem cb_X9_mayBe : jv_cb yX9_mayBe cX9_mayBe 6 (some .boolean) 1 := ⟨mw_62, mw_1059, by decide +kernel, by decide +kernel, by decide +kernel⟩
theorem cb_X9_plan : jv_cb yX9_plan cX9_plan 6 (some .int) 1 := ⟨mw_62, mw_1076, by decide +kernel, by decide +kernel, by decide +kernel⟩
theorem cb_X9_soonest : jv_cb yX9_soonest cX9_soonest 6 (some .int) 0 := ⟨mw_62, mw_1046, by decide +kernel, by decide +kernel, by decide +kernel⟩
theorem cb_X9_worthBehind : jv_cb yX9_worthBehind cX9_worthBehind 5 (some .int) 2 := ⟨mw_62, mw_1085, by decide +kernel, by decide +kernel, by decide +kernel⟩
theorem cb_X9_best : jv_cb yX9_best cX9_best 5 (some .int) 2 := ⟨mw_62, mw_1080, by decide +kernel, by decide +kernel, by decide +kernel⟩
theorem cb_X9_isBed : jv_cb yX9_isBed cX9_isBed 4 (some .boolean) 3 := ⟨mw_62, mw_1098, by decide +kernel, by decide +kernel, by decide +kernel⟩
theorem cb_X9_bedsBy : jv_cb yX9_bedsBy cX9_bedsBy 7 (some .int) 2 := ⟨mw_62, mw_1094, by decide +kernel, by decide +kernel, by decide +kernel⟩
theorem cb_X9_beds : jv_cb yX9_beds cX9_beds 8 (some .int) 2 := ⟨mw_62, mw_1089, by decide +kernel, by decide +kernel, by decide +kernel⟩
theorem cb_X9_odds : jv_cb yX9_odds cX9_odds 10 (some .int) 3 := ⟨mw_62, mw_1105, by decide +kernel, by decide +kernel, by decide +kernel⟩
theorem cb_X9_hears : jv_cb yX9_hears cX9_hears 3 (some .int) 2 := ⟨mw_62, mw_1110, by decide +kernel, by decide +kernel, by decide +kernel⟩
theorem cb_X9_forget : jv_cb yX9_forget cX9_forget 2 (some .int) 0 := ⟨mw_62, mw_1114, by decide +kernel, by decide +kernel, by decide +kernel⟩
theorem cb_X9_whose : jv_cb yX9_whose cX9_whose 5 (some .int) 0 := ⟨mw_62, mw_1118, by decide +kernel, by decide +kernel, by decide +kernel⟩
theorem cb_X9_ask : jv_cb yX9_ask cX9_ask 8 (some .int) 0 := ⟨mw_62, mw_1122, by decide +kernel, by decide +kernel, by decide +kernel⟩
theorem cb_X9_markAs : jv_cb yX9_markAs cX9_markAs 3 (some .int) 2 := ⟨mw_62, mw_1132, by decide +kernel, by decide +kernel, by decide +kernel⟩
theorem cb_X9_markAs0 : jv_cb yX9_markAs0 cX9_markAs0 2 (some .int) 1 := ⟨mw_62, mw_1136, by decide +kernel, by decide +kernel, by decide +kernel⟩
theorem cb_X9_mark : jv_cb yX9_mark cX9_mark 3 (some .int) 2 := ⟨mw_62, mw_1127, by decide +kernel, by decide +kernel, by decide +kernel⟩
theorem cb_X9_keep : jv_cb yX9_keep cX9_keep 3 (some .int) 1 := ⟨mw_62, mw_1144, by decide +kernel, by decide +kernel, by decide +kernel⟩
theorem cb_X9_back : jv_cb yX9_back cX9_back 3 (some .int) 1 := ⟨mw_62, mw_1148, by decide +kernel, by decide +kernel, by decide +kernel⟩
theorem cb_X9_count : jv_cb yX9_count cX9_count 2 (some .int) 1 := ⟨mw_62, mw_1152, by decide +kernel, by decide +kernel, by decide +kernel⟩
theorem cb_X9_trace : jv_cb yX9_trace cX9_trace 1 (some .long) 0 := ⟨mw_62, mw_1156, by decide +kernel, by decide +kernel, by decide +kernel⟩
theorem cb_J6_bitCount_0f7a4 : jv_cb yJ6_bitCount_0f7a4 cJ6_bitCount_0f7a4 1 (some .int) 1 := ⟨mw_65, mw_539, by decide +kernel, by decide +kernel, by decide +kernel⟩
theorem cb_J9_max_7cf53 : jv_cb yJ9_max_7cf53 cJ9_max_7cf53 2 (some .int) 2 := ⟨mw_66, mw_597, by decide +kernel, by decide +kernel, by decide +kernel⟩
theorem cb_J9_min_7cf53 : jv_cb yJ9_min_7cf53 cJ9_min_7cf53 2 (some .int) 2 := ⟨mw_66, mw_594, by decide +kernel, by decide +kernel, by decide +kernel⟩
theorem cb_J7_fill_53178 : jv_cb yJ7_fill_53178 cJ7_fill_53178 4 none 2 := ⟨mw_63, mw_392, by decide +kernel, by decide +kernel, by decide +kernel⟩
theorem cv_X8_79 : jv_cv RX8 79 yX1_begin := ⟨mw_298, mw_299, mw_300⟩
theorem cv_X1_19 : jv_cv RX1 19 yX1_setYear := ⟨mw_302, mw_303, mw_304⟩
theorem cv_X1_48 : jv_cv RX1 48 yX1_setCell := ⟨mw_306, mw_308, mw_0⟩
theorem cv_X1_28 : jv_cv RX1 28 yX1_setHeat := ⟨mw_310, mw_311, mw_312⟩
theorem cv_X1_32 : jv_cv RX1 32 yX1_setPlace := ⟨mw_314, mw_315, mw_316⟩
theorem cv_X1_35 : jv_cv RX1 35 yX1_setOwner := ⟨mw_318, mw_319, mw_320⟩
theorem cs_X8_83 : jv_cs RX8 83 yX8_isWithin := ⟨mw_363, mw_364⟩
theorem cv_X8_87 : jv_cv RX8 87 yX7_append := ⟨mw_366, mw_367, mw_368⟩
theorem cv_X8_95 : jv_cv RX8 95 yX7_empty := ⟨mw_374, mw_375, mw_376⟩
theorem cv_X8_99 : jv_cv RX8 99 yX7_readAll := ⟨mw_382, mw_383, mw_384⟩
theorem cv_X7_29 : jv_cv RX7 29 yX2_wipe := ⟨mw_386, mw_387, mw_388⟩
theorem cs_X2_40 : jv_cs RX2 40 yJ7_fill_53178 := ⟨mw_390, mw_391⟩
theorem cv_X7_38 : jv_cv RX7 38 yX7_readToken := ⟨mw_393, mw_395, mw_1⟩
theorem cv_X7_110 : jv_cv RX7 110 yX7_byteAt := ⟨mw_397, mw_399, mw_2⟩
theorem cn_X7_76 : jv_cn RX7 76 yX8_isWithin "TemperNurses" := ⟨List.mem_of_getElem? (i := 4) rfl, mw_364⟩
theorem cv_X7_114 : jv_cv RX7 114 yX7_isLetter := ⟨mw_402, mw_404, mw_3⟩
theorem cv_X7_117 : jv_cv RX7 117 yX7_readLetters := ⟨mw_406, mw_408, mw_4⟩
theorem cv_X7_120 : jv_cv RX7 120 yX7_isDigit := ⟨mw_410, mw_412, mw_5⟩
theorem cv_X7_123 : jv_cv RX7 123 yX7_readDigits := ⟨mw_414, mw_416, mw_6⟩
theorem cv_X7_44 : jv_cv RX7 44 yX7_canStand := ⟨mw_418, mw_420, mw_7⟩
theorem cv_X7_54 : jv_cv RX7 54 yX7_canBeginItem := ⟨mw_422, mw_424, mw_8⟩
theorem cv_X7_60 : jv_cv RX7 60 yX7_numbersOfItem := ⟨mw_426, mw_428, mw_9⟩
theorem cv_X7_64 : jv_cv RX7 64 yX7_canBeTold := ⟨mw_430, mw_432, mw_10⟩
theorem cv_X7_92 : jv_cv RX7 92 yX2_hasTemper := ⟨mw_442, mw_443, mw_444⟩
theorem cv_X7_51 : jv_cv RX7 51 yX7_takeToken := ⟨mw_446, mw_448, mw_11⟩
theorem cv_X7_96 : jv_cv RX7 96 yX7_takeItem := ⟨mw_450, mw_452, mw_12⟩
theorem cv_X7_99 : jv_cv RX7 99 yX2_addTemper := ⟨mw_454, mw_455, mw_456⟩
theorem cv_X7_103 : jv_cv RX7 103 yX2_addNurse := ⟨mw_458, mw_459, mw_460⟩
theorem cv_X7_106 : jv_cv RX7 106 yX2_addClash := ⟨mw_462, mw_463, mw_464⟩
theorem cv_X2_46 : jv_cv RX2 46 yX2_hasTemper := ⟨mw_466, mw_443, mw_444⟩
theorem cn_X2_50 : jv_cn RX2 50 yX8_bit "TemperNurses" := ⟨List.mem_of_getElem? (i := 5) rfl, mw_468⟩
theorem cv_X8_105 : jv_cv RX8 105 yX2_take := ⟨mw_470, mw_471, mw_472⟩
theorem cv_X8_108 : jv_cv RX8 108 yX5_empty := ⟨mw_477, mw_478, mw_479⟩
theorem cv_X8_112 : jv_cv RX8 112 yX2_hasTemper := ⟨mw_485, mw_443, mw_444⟩
theorem cv_X8_115 : jv_cv RX8 115 yX1_heat := ⟨mw_486, mw_487, mw_488⟩
theorem cv_X1_44 : jv_cv RX1 44 yX1_cell := ⟨mw_490, mw_492, mw_13⟩
theorem cv_X8_125 : jv_cv RX8 125 yX1_place := ⟨mw_494, mw_495, mw_496⟩
theorem cv_X8_128 : jv_cv RX8 128 yX1_owner := ⟨mw_498, mw_499, mw_500⟩
theorem cv_X8_134 : jv_cv RX8 134 yX1_ring := ⟨mw_502, mw_503, mw_504⟩
theorem cv_X1_51 : jv_cv RX1 51 yX1_owner := ⟨mw_506, mw_499, mw_500⟩
theorem cv_X8_137 : jv_cv RX8 137 yX2_hasNurse := ⟨mw_511, mw_512, mw_513⟩
theorem cv_X8_149 : jv_cv RX8 149 yX3_thoseWith := ⟨mw_515, mw_516, mw_517⟩
theorem cv_X3_34 : jv_cv RX3 34 yX1_place := ⟨mw_519, mw_495, mw_496⟩
theorem cn_X3_31 : jv_cn RX3 31 yX8_bit "TemperNurses" := ⟨List.mem_of_getElem? (i := 6) rfl, mw_468⟩
theorem cv_X8_152 : jv_cv RX8 152 yX3_thoseThatMayBeSentTo := ⟨mw_521, mw_522, mw_523⟩
theorem cv_X3_37 : jv_cv RX3 37 yX3_mayBeSent := ⟨mw_525, mw_526, mw_527⟩
theorem cv_X3_41 : jv_cv RX3 41 yX3_thoseWith := ⟨mw_529, mw_516, mw_517⟩
theorem cv_X3_44 : jv_cv RX3 44 yX3_mayJoin := ⟨mw_530, mw_531, mw_532⟩
theorem cv_X3_48 : jv_cv RX3 48 yX2_hasTemper := ⟨mw_534, mw_443, mw_444⟩
theorem cv_X3_52 : jv_cv RX3 52 yX2_hasNurse := ⟨mw_535, mw_512, mw_513⟩
theorem cv_X3_25 : jv_cv RX3 25 yX1_heat := ⟨mw_536, mw_487, mw_488⟩
theorem cs_X3_59 : jv_cs RX3 59 yJ6_bitCount_0f7a4 := ⟨mw_537, mw_538⟩
theorem cv_X8_155 : jv_cv RX8 155 yX3_mayBeSent := ⟨mw_547, mw_526, mw_527⟩
theorem cv_X8_159 : jv_cv RX8 159 yX1_remember := ⟨mw_548, mw_549, mw_550⟩
theorem cv_X8_162 : jv_cv RX8 162 yX1_setPlace := ⟨mw_553, mw_315, mw_316⟩
theorem cs_X8_166 : jv_cs RX8 166 yJ6_bitCount_0f7a4 := ⟨mw_554, mw_538⟩
theorem cv_X8_171 : jv_cv RX8 171 yX1_setHeat := ⟨mw_563, mw_311, mw_312⟩
theorem cv_X8_174 : jv_cv RX8 174 yX1_setOwner := ⟨mw_568, mw_319, mw_320⟩
theorem cv_X8_180 : jv_cv RX8 180 yX1_mixesToRight := ⟨mw_569, mw_570, mw_571⟩
theorem cv_X1_54 : jv_cv RX1 54 yX1_isLowestOfRing := ⟨mw_573, mw_575, mw_14⟩
theorem cv_X8_183 : jv_cv RX8 183 yX1_year := ⟨mw_581, mw_582, mw_583⟩
theorem cv_X8_186 : jv_cv RX8 186 yX3_heatIn := ⟨mw_585, mw_586, mw_587⟩
theorem cs_X3_76 : jv_cs RX3 76 yX3_heatNextYear := ⟨mw_589, mw_590⟩
theorem cs_X3_96 : jv_cs RX3 96 yJ9_min_7cf53 := ⟨mw_592, mw_593⟩
theorem cs_X3_84 : jv_cs RX3 84 yJ9_max_7cf53 := ⟨mw_595, mw_596⟩
theorem cv_X8_190 : jv_cv RX8 190 yX1_setYear := ⟨mw_598, mw_303, mw_304⟩
theorem cv_X8_194 : jv_cv RX8 194 yX3_broken := ⟨mw_599, mw_600, mw_601⟩
theorem cv_X8_197 : jv_cv RX8 197 yX1_stepBack := ⟨mw_607, mw_608, mw_609⟩
theorem cv_X8_204 : jv_cv RX8 204 yX6_soonest := ⟨mw_615, mw_616, mw_617⟩
theorem cv_X6_56 : jv_cv RX6 56 yX3_yearsTillBroken := ⟨mw_619, mw_620, mw_621⟩
theorem cs_X6_32 : jv_cs RX6 32 yJ7_fill_53178 := ⟨mw_623, mw_391⟩
theorem cv_X6_63 : jv_cv RX6 63 yX6_tryYears := ⟨mw_624, mw_626, mw_15⟩
theorem cv_X6_84 : jv_cv RX6 84 yX1_heat := ⟨mw_628, mw_487, mw_488⟩
theorem cv_X6_72 : jv_cv RX6 72 yX3_mayJoin := ⟨mw_629, mw_531, mw_532⟩
theorem cn_X6_76 : jv_cn RX6 76 yX8_bit "TemperNurses" := ⟨List.mem_of_getElem? (i := 7) rfl, mw_468⟩
theorem cs_X6_89 : jv_cs RX6 89 yJ9_max_7cf53 := ⟨mw_631, mw_596⟩
theorem cv_X8_207 : jv_cv RX8 207 yX3_heatOfAll := ⟨mw_632, mw_633, mw_634⟩
theorem cv_X8_210 : jv_cv RX8 210 yX3_yearsTillBroken := ⟨mw_640, mw_620, mw_621⟩
theorem cv_X8_213 : jv_cv RX8 213 yX6_findPlan := ⟨mw_649, mw_650, mw_651⟩
theorem cv_X6_38 : jv_cv RX6 38 yX6_tryPlaces := ⟨mw_653, mw_655, mw_16⟩
theorem cv_X8_223 : jv_cv RX8 223 yX3_worthOfFetching := ⟨mw_663, mw_664, mw_665⟩
theorem cv_X3_80 : jv_cv RX3 80 yX3_heatIn := ⟨mw_667, mw_586, mw_587⟩
theorem cv_X3_89 : jv_cv RX3 89 yX1_year := ⟨mw_668, mw_582, mw_583⟩
theorem cv_X8_226 : jv_cv RX8 226 yX0_makeBeds := ⟨mw_673, mw_674, mw_675⟩
theorem cs_X0_29 : jv_cs RX0 29 yJ7_fill_53178 := ⟨mw_677, mw_391⟩
theorem cv_X0_35 : jv_cv RX0 35 yX0_tryOthers := ⟨mw_678, mw_680, mw_17⟩
theorem cv_X0_56 : jv_cv RX0 56 yX0_mayShare := ⟨mw_683, mw_685, mw_18⟩
theorem cn_X0_63 : jv_cn RX0 63 yX8_bit "TemperNurses" := ⟨List.mem_of_getElem? (i := 8) rfl, mw_468⟩
theorem cv_X0_71 : jv_cv RX0 71 yX1_heat := ⟨mw_688, mw_487, mw_488⟩
theorem cv_X8_231 : jv_cv RX8 231 yX8_countLooseWays := ⟨mw_693, mw_695, mw_19⟩
theorem cs_X8_283 : jv_cs RX8 283 yJ7_fill_53178 := ⟨mw_697, mw_391⟩
theorem cs_X8_234 : jv_cs RX8 234 yX8_commonDivisor := ⟨mw_698, mw_699⟩
theorem cv_X8_237 : jv_cv RX8 237 yX5_append := ⟨mw_705, mw_706, mw_707⟩
theorem cv_X8_242 : jv_cv RX8 242 yX5_suspects := ⟨mw_717, mw_718, mw_719⟩
theorem cv_X5_41 : jv_cv RX5 41 yX1_heat := ⟨mw_721, mw_487, mw_488⟩
theorem cv_X5_47 : jv_cv RX5 47 yX5_isAsHeard := ⟨mw_722, mw_724, mw_20⟩
theorem cn_X5_51 : jv_cn RX5 51 yX8_bit "TemperNurses" := ⟨List.mem_of_getElem? (i := 9) rfl, mw_468⟩
theorem cv_X8_245 : jv_cv RX8 245 yX5_nextBang := ⟨mw_731, mw_732, mw_733⟩
theorem cv_X5_54 : jv_cv RX5 54 yX5_suspects := ⟨mw_735, mw_718, mw_719⟩
theorem cs_X5_58 : jv_cs RX5 58 yJ6_bitCount_0f7a4 := ⟨mw_736, mw_538⟩
theorem cv_X5_63 : jv_cv RX5 63 yX5_countBanging := ⟨mw_737, mw_739, mw_21⟩
theorem cs_X5_67 : jv_cs RX5 67 yJ9_max_7cf53 := ⟨mw_741, mw_596⟩
theorem cv_X8_248 : jv_cv RX8 248 yX4_asTemper := ⟨mw_746, mw_747, mw_748⟩
theorem cv_X4_23 : jv_cv RX4 23 yX1_heat := ⟨mw_750, mw_487, mw_488⟩
theorem cv_X8_251 : jv_cv RX8 251 yX4_asRage := ⟨mw_751, mw_752, mw_753⟩
theorem cv_X4_31 : jv_cv RX4 31 yX4_asTemper := ⟨mw_756, mw_747, mw_748⟩
theorem cv_X4_38 : jv_cv RX4 38 yX2_hasTemper := ⟨mw_757, mw_443, mw_444⟩
theorem cv_X8_254 : jv_cv RX8 254 yX4_asSulk := ⟨mw_758, mw_759, mw_760⟩
theorem cv_X4_50 : jv_cv RX4 50 yX3_broken := ⟨mw_763, mw_600, mw_601⟩
theorem cs_X4_54 : jv_cs RX4 54 yJ6_bitCount_0f7a4 := ⟨mw_764, mw_538⟩
theorem cv_X8_257 : jv_cv RX8 257 yX4_asStorm := ⟨mw_765, mw_766, mw_767⟩
theorem cv_X4_61 : jv_cv RX4 61 yX4_asRage := ⟨mw_770, mw_752, mw_753⟩
theorem cv_X8_260 : jv_cv RX8 260 yX4_asGrudge := ⟨mw_771, mw_772, mw_773⟩
theorem cv_X4_66 : jv_cv RX4 66 yX4_asSulk := ⟨mw_776, mw_759, mw_760⟩
theorem cv_X8_263 : jv_cv RX8 263 yX4_asPet := ⟨mw_777, mw_778, mw_779⟩
theorem cv_X4_71 : jv_cv RX4 71 yX1_year := ⟨mw_782, mw_582, mw_583⟩
theorem cv_X8_266 : jv_cv RX8 266 yX8_imageOf := ⟨mw_787, mw_789, mw_22⟩
theorem cv_X8_270 : jv_cv RX8 270 yX1_take := ⟨mw_791, mw_792, mw_793⟩
theorem cs_X8_273 : jv_cs RX8 273 yX8_bit := ⟨mw_795, mw_468⟩
theorem cs_X9_75 : jv_cs RX9 75 yX9_in := ⟨mw_914, mw_915⟩
theorem cv_X9_103 : jv_cv RX9 103 yX9_lookAt := ⟨mw_925, mw_927, mw_23⟩
theorem cv_X9_93 : jv_cv RX9 93 yX9_isBetween := ⟨mw_929, mw_931, mw_24⟩
theorem cv_X9_133 : jv_cv RX9 133 yX9_takesItem := ⟨mw_933, mw_935, mw_25⟩
theorem cv_X9_116 : jv_cv RX9 116 yX9_isLetter := ⟨mw_937, mw_939, mw_26⟩
theorem cv_X9_120 : jv_cv RX9 120 yX9_takesTemper := ⟨mw_941, mw_943, mw_27⟩
theorem cv_X9_110 : jv_cv RX9 110 yX9_takes := ⟨mw_945, mw_947, mw_28⟩
theorem cv_X9_124 : jv_cv RX9 124 yX9_takesNurse := ⟨mw_949, mw_951, mw_29⟩
theorem cv_X9_127 : jv_cv RX9 127 yX9_takesClash := ⟨mw_953, mw_955, mw_30⟩
theorem cv_X9_136 : jv_cv RX9 136 yX9_takeAll := ⟨mw_957, mw_959, mw_31⟩
theorem cv_X9_149 : jv_cv RX9 149 yX9_isTemper := ⟨mw_965, mw_967, mw_32⟩
theorem cv_X9_143 : jv_cv RX9 143 yX9_heat := ⟨mw_970, mw_972, mw_33⟩
theorem cv_X9_154 : jv_cv RX9 154 yX9_ring := ⟨mw_974, mw_976, mw_34⟩
theorem cv_X9_157 : jv_cv RX9 157 yX9_isNurse := ⟨mw_982, mw_984, mw_35⟩
theorem cv_X9_162 : jv_cv RX9 162 yX9_maySend := ⟨mw_987, mw_989, mw_36⟩
theorem cv_X9_139 : jv_cv RX9 139 yX9_whom := ⟨mw_991, mw_993, mw_37⟩
theorem cs_X9_146 : jv_cs RX9 146 yX9_bits := ⟨mw_995, mw_996⟩
theorem cv_X9_166 : jv_cv RX9 166 yX9_save := ⟨mw_1002, mw_1004, mw_38⟩
theorem cv_X9_169 : jv_cv RX9 169 yX9_right := ⟨mw_1018, mw_1020, mw_39⟩
theorem cv_X9_175 : jv_cv RX9 175 yX9_aged := ⟨mw_1027, mw_1029, mw_40⟩
theorem cv_X9_179 : jv_cv RX9 179 yX9_broken := ⟨mw_1031, mw_1033, mw_41⟩
theorem cv_X9_182 : jv_cv RX9 182 yX9_soonest := ⟨mw_1043, mw_1045, mw_42⟩
theorem cv_X9_185 : jv_cv RX9 185 yX9_whenBroken := ⟨mw_1048, mw_1050, mw_43⟩
theorem cv_X9_194 : jv_cv RX9 194 yX9_ways := ⟨mw_1052, mw_1054, mw_44⟩
theorem cv_X9_197 : jv_cv RX9 197 yX9_mayBe := ⟨mw_1056, mw_1058, mw_45⟩
theorem cv_X9_191 : jv_cv RX9 191 yX9_hotIn := ⟨mw_1069, mw_1071, mw_46⟩
theorem cv_X9_202 : jv_cv RX9 202 yX9_worthBehind := ⟨mw_1082, mw_1084, mw_47⟩
theorem cv_X9_213 : jv_cv RX9 213 yX9_bedsBy := ⟨mw_1091, mw_1093, mw_48⟩
theorem cv_X9_208 : jv_cv RX9 208 yX9_isBed := ⟨mw_1095, mw_1097, mw_49⟩
theorem cs_X9_205 : jv_cs RX9 205 yX9_has := ⟨mw_1099, mw_1100⟩
theorem cv_X9_218 : jv_cv RX9 218 yX9_whose := ⟨mw_1123, mw_1116, mw_1117⟩
theorem cv_X9_238 : jv_cv RX9 238 yX9_markAs := ⟨mw_1129, mw_1131, mw_50⟩
theorem cv_X9_225 : jv_cv RX9 225 yX9_markAs0 := ⟨mw_1133, mw_1135, mw_51⟩
