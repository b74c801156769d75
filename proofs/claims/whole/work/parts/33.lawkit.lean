/-! THE CLAIM OUT OF ONE WALK OF THE LAW'S BODY. Your part is whole_start (and what it stands on); all else here is the same for every law, but numbers. -/
def R_law : String := "TemperNursesLaw"
def lw_P (b : Addr) (xs : List Int32) (args : Array Value) (s : State) : Prop := args = #[.ref b] ∧ s.IntsAt b xs ∧ xs.length ≤ 2048 ∧ (Jvm.Cond.and given_1 narrow_1).before args s = true
def lw_Q (_ : Array Value) (s : State) (o : Outcome) (t : State) : Prop := o = .returned (some (.int 1)) ∧ Framed s o t [] 600000 7302250
def lw_Z (below : List Frame) (a : Array Value) (s : State) : State → Prop := fun t => ∃ o, t.status = .running ∧ Ended t below o ∧ lw_Q a s o t
/-- the law's own end, with 1 on the stack, nothing written that was there before, its room as the claim has it -/
theorem lw_ret {p : Program} {l : Launch} {e : Env} {s : State} {m : MethodId} {below : List Frame} {meth : Method} {c : Code} {b : Nat} (hx : p.tables.exec = Jvm.exec) (hb : c.code = code) (hr : meth.sig.returnType = ret) (hlocks : meth.locks = false) {pc : Nat} {H : Heap} {ls : Array Slot} (hdg : decode code pc = .ok (.ireturn, 1)) : W p l e room_1 s m #[Value.ref b] below meth c H [] 600000 7302250 (lw_Z below #[Value.ref b] s) (F0 m pc ls [.int 1]) := by
  intro T hT X
  obtain ⟨fs, hret, hrun, hended, hW, hframe⟩ := X.leave (v := some (.int 1)) (hlocks := hlocks) (fun h => by rw [hr] at h; cases h)
  have hmeth' : T.vm.method? m = some meth := X.method'
  refine ⟨T.setFrames fs, ?_, .returned (some (.int 1)), hrun, hended, rfl, ⟨_, rfl⟩, hW, hframe⟩
  jvm_step X.here [X.here.top, hx, hb, hdg, hmeth', hr, ret, narrow_b1]
  (try refine ⟨rfl, ?_⟩); (try refine ⟨rfl, ?_⟩)
  first | (intro acts; rw [hret _ acts rfl rfl rfl]) | rw [hret _ _ rfl rfl rfl]
  exact Steps.refl _
/-- what holds at the law's entry: the machine, the code, the tables' words (any of lw_tbl by 'hts w (by decide +kernel)'), the script of L ints xs at the cell b, what the Statement gives of the start (any of its parts by flat_of_before) -/
def lw_At (p : Program) (s : State) (m : MethodId) (meth : Method) (c : Code) (b L : Nat) (xs : Nat → Int32) : Prop :=
  p.tables.exec = Jvm.exec ∧ c.code = code ∧ meth.sig.returnType = ret ∧ c.maxLocals = 4 ∧ s.vm.findClass R_law = some m.cls ∧ (∀ w ∈ lw_tbl, w.before #[Value.ref b] s = true) ∧ va_X b L xs s s.heap ∧ b < s.heap.size ∧ meth.locks = false ∧ (Jvm.Cond.and given_1 narrow_1).before #[Value.ref b] s = true
theorem mw_69 : (Jvm.Cond.methodLink "TemperNursesLaw" (9 : Nat) ({ cls := "TemperNurses", name := "<init>", desc := "()V" } : Jvm.MethodName)) ∈ jv_T := jv_in 69 (by decide +kernel) (by decide +kernel)
theorem ci_L_9 : jc_ci RL 9 yX8_init := ⟨mw_69, mw_70⟩
theorem mw_810 : (Jvm.Cond.methodLink "TemperNursesLaw" (12 : Nat) ({ cls := "TemperNursesModel", name := "<init>", desc := "()V" } : Jvm.MethodName)) ∈ jv_T := jv_in 810 (by decide +kernel) (by decide +kernel)
theorem ci_L_12 : jc_ci RL 12 yX9_init := ⟨mw_810, mw_811⟩
theorem mw_359 : (Jvm.Cond.methodLink "TemperNursesLaw" (13 : Nat) ({ cls := "TemperNurses", name := "type", desc := "(I)I" } : Jvm.MethodName)) ∈ jv_T := jv_in 359 (by decide +kernel) (by decide +kernel)
theorem cv_L_13 : jv_cv RL 13 yX8_type := ⟨mw_359, mw_360, mw_361⟩
theorem mw_909 : (Jvm.Cond.methodLink "TemperNursesLaw" (17 : Nat) ({ cls := "TemperNursesModel", name := "type", desc := "(I)I" } : Jvm.MethodName)) ∈ jv_T := jv_in 909 (by decide +kernel) (by decide +kernel)
theorem cv_L_17 : jv_cv RL 17 yX9_type := ⟨mw_909, mw_910, mw_911⟩
theorem mw_370 : (Jvm.Cond.methodLink "TemperNursesLaw" (18 : Nat) ({ cls := "TemperNurses", name := "clear", desc := "()I" } : Jvm.MethodName)) ∈ jv_T := jv_in 370 (by decide +kernel) (by decide +kernel)
theorem cv_L_18 : jv_cv RL 18 yX8_clear := ⟨mw_370, mw_371, mw_372⟩
theorem mw_917 : (Jvm.Cond.methodLink "TemperNursesLaw" (22 : Nat) ({ cls := "TemperNursesModel", name := "clear", desc := "()I" } : Jvm.MethodName)) ∈ jv_T := jv_in 917 (by decide +kernel) (by decide +kernel)
theorem cv_L_22 : jv_cv RL 22 yX9_clear := ⟨mw_917, mw_918, mw_919⟩
theorem mw_378 : (Jvm.Cond.methodLink "TemperNursesLaw" (23 : Nat) ({ cls := "TemperNurses", name := "hill", desc := "()I" } : Jvm.MethodName)) ∈ jv_T := jv_in 378 (by decide +kernel) (by decide +kernel)
theorem cv_L_23 : jv_cv RL 23 yX8_hill := ⟨mw_378, mw_379, mw_380⟩
theorem mw_921 : (Jvm.Cond.methodLink "TemperNursesLaw" (26 : Nat) ({ cls := "TemperNursesModel", name := "hill", desc := "()I" } : Jvm.MethodName)) ∈ jv_T := jv_in 921 (by decide +kernel) (by decide +kernel)
theorem cv_L_26 : jv_cv RL 26 yX9_hill := ⟨mw_921, mw_922, mw_923⟩
theorem mw_481 : (Jvm.Cond.methodLink "TemperNursesLaw" (27 : Nat) ({ cls := "TemperNurses", name := "temper", desc := "(II)I" } : Jvm.MethodName)) ∈ jv_T := jv_in 481 (by decide +kernel) (by decide +kernel)
theorem cv_L_27 : jv_cv RL 27 yX8_temper := ⟨mw_481, mw_482, mw_483⟩
theorem mw_961 : (Jvm.Cond.methodLink "TemperNursesLaw" (31 : Nat) ({ cls := "TemperNursesModel", name := "temper", desc := "(II)I" } : Jvm.MethodName)) ∈ jv_T := jv_in 961 (by decide +kernel) (by decide +kernel)
theorem cv_L_31 : jv_cv RL 31 yX9_temper := ⟨mw_961, mw_962, mw_963⟩
theorem mw_507 : (Jvm.Cond.methodLink "TemperNursesLaw" (32 : Nat) ({ cls := "TemperNurses", name := "nurse", desc := "(II)I" } : Jvm.MethodName)) ∈ jv_T := jv_in 507 (by decide +kernel) (by decide +kernel)
theorem cv_L_32 : jv_cv RL 32 yX8_nurse := ⟨mw_507, mw_508, mw_509⟩
theorem mw_978 : (Jvm.Cond.methodLink "TemperNursesLaw" (35 : Nat) ({ cls := "TemperNursesModel", name := "nurse", desc := "(II)I" } : Jvm.MethodName)) ∈ jv_T := jv_in 978 (by decide +kernel) (by decide +kernel)
theorem cv_L_35 : jv_cv RL 35 yX9_nurse := ⟨mw_978, mw_979, mw_980⟩
theorem mw_543 : (Jvm.Cond.methodLink "TemperNursesLaw" (36 : Nat) ({ cls := "TemperNurses", name := "sends", desc := "(II)I" } : Jvm.MethodName)) ∈ jv_T := jv_in 543 (by decide +kernel) (by decide +kernel)
theorem cv_L_36 : jv_cv RL 36 yX8_sends := ⟨mw_543, mw_544, mw_545⟩
theorem mw_998 : (Jvm.Cond.methodLink "TemperNursesLaw" (39 : Nat) ({ cls := "TemperNursesModel", name := "sends", desc := "(II)I" } : Jvm.MethodName)) ∈ jv_T := jv_in 998 (by decide +kernel) (by decide +kernel)
theorem cv_L_39 : jv_cv RL 39 yX9_sends := ⟨mw_998, mw_999, mw_1000⟩
theorem mw_555 : (Jvm.Cond.methodLink "TemperNursesLaw" (40 : Nat) ({ cls := "TemperNurses", name := "fetches", desc := "(I)I" } : Jvm.MethodName)) ∈ jv_T := jv_in 555 (by decide +kernel) (by decide +kernel)
theorem cv_L_40 : jv_cv RL 40 yX8_fetches := ⟨mw_555, mw_556, mw_557⟩
theorem mw_1006 : (Jvm.Cond.methodLink "TemperNursesLaw" (43 : Nat) ({ cls := "TemperNursesModel", name := "fetches", desc := "(I)I" } : Jvm.MethodName)) ∈ jv_T := jv_in 1006 (by decide +kernel) (by decide +kernel)
theorem cv_L_43 : jv_cv RL 43 yX9_fetches := ⟨mw_1006, mw_1007, mw_1008⟩
theorem mw_559 : (Jvm.Cond.methodLink "TemperNursesLaw" (44 : Nat) ({ cls := "TemperNurses", name := "visits", desc := "(I)I" } : Jvm.MethodName)) ∈ jv_T := jv_in 559 (by decide +kernel) (by decide +kernel)
theorem cv_L_44 : jv_cv RL 44 yX8_visits := ⟨mw_559, mw_560, mw_561⟩
theorem mw_1010 : (Jvm.Cond.methodLink "TemperNursesLaw" (47 : Nat) ({ cls := "TemperNursesModel", name := "visits", desc := "(I)I" } : Jvm.MethodName)) ∈ jv_T := jv_in 1010 (by decide +kernel) (by decide +kernel)
theorem cv_L_47 : jv_cv RL 47 yX9_visits := ⟨mw_1010, mw_1011, mw_1012⟩
theorem mw_564 : (Jvm.Cond.methodLink "TemperNursesLaw" (48 : Nat) ({ cls := "TemperNurses", name := "mixes", desc := "(II)I" } : Jvm.MethodName)) ∈ jv_T := jv_in 564 (by decide +kernel) (by decide +kernel)
theorem cv_L_48 : jv_cv RL 48 yX8_mixes := ⟨mw_564, mw_565, mw_566⟩
theorem mw_1014 : (Jvm.Cond.methodLink "TemperNursesLaw" (51 : Nat) ({ cls := "TemperNursesModel", name := "mixes", desc := "(II)I" } : Jvm.MethodName)) ∈ jv_T := jv_in 1014 (by decide +kernel) (by decide +kernel)
theorem cv_L_51 : jv_cv RL 51 yX9_mixes := ⟨mw_1014, mw_1015, mw_1016⟩
theorem mw_577 : (Jvm.Cond.methodLink "TemperNursesLaw" (52 : Nat) ({ cls := "TemperNurses", name := "years", desc := "(I)I" } : Jvm.MethodName)) ∈ jv_T := jv_in 577 (by decide +kernel) (by decide +kernel)
theorem cv_L_52 : jv_cv RL 52 yX8_years := ⟨mw_577, mw_578, mw_579⟩
theorem mw_1022 : (Jvm.Cond.methodLink "TemperNursesLaw" (55 : Nat) ({ cls := "TemperNursesModel", name := "years", desc := "(I)I" } : Jvm.MethodName)) ∈ jv_T := jv_in 1022 (by decide +kernel) (by decide +kernel)
theorem cv_L_55 : jv_cv RL 55 yX9_years := ⟨mw_1022, mw_1023, mw_1024⟩
theorem mw_603 : (Jvm.Cond.methodLink "TemperNursesLaw" (56 : Nat) ({ cls := "TemperNurses", name := "undo", desc := "()I" } : Jvm.MethodName)) ∈ jv_T := jv_in 603 (by decide +kernel) (by decide +kernel)
theorem cv_L_56 : jv_cv RL 56 yX8_undo := ⟨mw_603, mw_604, mw_605⟩
theorem mw_1035 : (Jvm.Cond.methodLink "TemperNursesLaw" (59 : Nat) ({ cls := "TemperNursesModel", name := "undo", desc := "()I" } : Jvm.MethodName)) ∈ jv_T := jv_in 1035 (by decide +kernel) (by decide +kernel)
theorem cv_L_59 : jv_cv RL 59 yX9_undo := ⟨mw_1035, mw_1036, mw_1037⟩
theorem mw_611 : (Jvm.Cond.methodLink "TemperNursesLaw" (60 : Nat) ({ cls := "TemperNurses", name := "now", desc := "(I)I" } : Jvm.MethodName)) ∈ jv_T := jv_in 611 (by decide +kernel) (by decide +kernel)
theorem cv_L_60 : jv_cv RL 60 yX8_now := ⟨mw_611, mw_612, mw_613⟩
theorem mw_1039 : (Jvm.Cond.methodLink "TemperNursesLaw" (63 : Nat) ({ cls := "TemperNursesModel", name := "now", desc := "(I)I" } : Jvm.MethodName)) ∈ jv_T := jv_in 1039 (by decide +kernel) (by decide +kernel)
theorem cv_L_63 : jv_cv RL 63 yX9_now := ⟨mw_1039, mw_1040, mw_1041⟩
theorem mw_636 : (Jvm.Cond.methodLink "TemperNursesLaw" (64 : Nat) ({ cls := "TemperNurses", name := "when", desc := "(II)I" } : Jvm.MethodName)) ∈ jv_T := jv_in 636 (by decide +kernel) (by decide +kernel)
theorem cv_L_64 : jv_cv RL 64 yX8_when := ⟨mw_636, mw_637, mw_638⟩
theorem mw_1060 : (Jvm.Cond.methodLink "TemperNursesLaw" (67 : Nat) ({ cls := "TemperNursesModel", name := "when", desc := "(II)I" } : Jvm.MethodName)) ∈ jv_T := jv_in 1060 (by decide +kernel) (by decide +kernel)
theorem cv_L_67 : jv_cv RL 67 yX9_when := ⟨mw_1060, mw_1061, mw_1062⟩
theorem mw_641 : (Jvm.Cond.methodLink "TemperNursesLaw" (68 : Nat) ({ cls := "TemperNurses", name := "hot", desc := "(II)I" } : Jvm.MethodName)) ∈ jv_T := jv_in 641 (by decide +kernel) (by decide +kernel)
theorem cv_L_68 : jv_cv RL 68 yX8_hot := ⟨mw_641, mw_642, mw_643⟩
theorem mw_1064 : (Jvm.Cond.methodLink "TemperNursesLaw" (71 : Nat) ({ cls := "TemperNursesModel", name := "hot", desc := "(II)I" } : Jvm.MethodName)) ∈ jv_T := jv_in 1064 (by decide +kernel) (by decide +kernel)
theorem cv_L_71 : jv_cv RL 71 yX9_hot := ⟨mw_1064, mw_1065, mw_1066⟩
theorem mw_645 : (Jvm.Cond.methodLink "TemperNursesLaw" (72 : Nat) ({ cls := "TemperNurses", name := "plan", desc := "(I)I" } : Jvm.MethodName)) ∈ jv_T := jv_in 645 (by decide +kernel) (by decide +kernel)
theorem cv_L_72 : jv_cv RL 72 yX8_plan := ⟨mw_645, mw_646, mw_647⟩
theorem mw_1073 : (Jvm.Cond.methodLink "TemperNursesLaw" (75 : Nat) ({ cls := "TemperNursesModel", name := "plan", desc := "(I)I" } : Jvm.MethodName)) ∈ jv_T := jv_in 1073 (by decide +kernel) (by decide +kernel)
theorem cv_L_75 : jv_cv RL 75 yX9_plan := ⟨mw_1073, mw_1074, mw_1075⟩
theorem mw_658 : (Jvm.Cond.methodLink "TemperNursesLaw" (76 : Nat) ({ cls := "TemperNurses", name := "best", desc := "(II)I" } : Jvm.MethodName)) ∈ jv_T := jv_in 658 (by decide +kernel) (by decide +kernel)
theorem cv_L_76 : jv_cv RL 76 yX8_best := ⟨mw_658, mw_659, mw_660⟩
theorem mw_1077 : (Jvm.Cond.methodLink "TemperNursesLaw" (79 : Nat) ({ cls := "TemperNursesModel", name := "best", desc := "(II)I" } : Jvm.MethodName)) ∈ jv_T := jv_in 1077 (by decide +kernel) (by decide +kernel)
theorem cv_L_79 : jv_cv RL 79 yX9_best := ⟨mw_1077, mw_1078, mw_1079⟩
theorem mw_669 : (Jvm.Cond.methodLink "TemperNursesLaw" (80 : Nat) ({ cls := "TemperNurses", name := "beds", desc := "(II)I" } : Jvm.MethodName)) ∈ jv_T := jv_in 669 (by decide +kernel) (by decide +kernel)
theorem cv_L_80 : jv_cv RL 80 yX8_beds := ⟨mw_669, mw_670, mw_671⟩
theorem mw_1086 : (Jvm.Cond.methodLink "TemperNursesLaw" (83 : Nat) ({ cls := "TemperNursesModel", name := "beds", desc := "(II)I" } : Jvm.MethodName)) ∈ jv_T := jv_in 1086 (by decide +kernel) (by decide +kernel)
theorem cv_L_83 : jv_cv RL 83 yX9_beds := ⟨mw_1086, mw_1087, mw_1088⟩
theorem mw_689 : (Jvm.Cond.methodLink "TemperNursesLaw" (84 : Nat) ({ cls := "TemperNurses", name := "odds", desc := "(III)I" } : Jvm.MethodName)) ∈ jv_T := jv_in 689 (by decide +kernel) (by decide +kernel)
theorem cv_L_84 : jv_cv RL 84 yX8_odds := ⟨mw_689, mw_690, mw_691⟩
theorem mw_1102 : (Jvm.Cond.methodLink "TemperNursesLaw" (88 : Nat) ({ cls := "TemperNursesModel", name := "odds", desc := "(III)I" } : Jvm.MethodName)) ∈ jv_T := jv_in 1102 (by decide +kernel) (by decide +kernel)
theorem cv_L_88 : jv_cv RL 88 yX9_odds := ⟨mw_1102, mw_1103, mw_1104⟩
theorem mw_701 : (Jvm.Cond.methodLink "TemperNursesLaw" (89 : Nat) ({ cls := "TemperNurses", name := "hears", desc := "(II)I" } : Jvm.MethodName)) ∈ jv_T := jv_in 701 (by decide +kernel) (by decide +kernel)
theorem cv_L_89 : jv_cv RL 89 yX8_hears := ⟨mw_701, mw_702, mw_703⟩
theorem mw_1107 : (Jvm.Cond.methodLink "TemperNursesLaw" (92 : Nat) ({ cls := "TemperNursesModel", name := "hears", desc := "(II)I" } : Jvm.MethodName)) ∈ jv_T := jv_in 1107 (by decide +kernel) (by decide +kernel)
theorem cv_L_92 : jv_cv RL 92 yX9_hears := ⟨mw_1107, mw_1108, mw_1109⟩
theorem mw_709 : (Jvm.Cond.methodLink "TemperNursesLaw" (93 : Nat) ({ cls := "TemperNurses", name := "forget", desc := "()I" } : Jvm.MethodName)) ∈ jv_T := jv_in 709 (by decide +kernel) (by decide +kernel)
theorem cv_L_93 : jv_cv RL 93 yX8_forget := ⟨mw_709, mw_710, mw_711⟩
theorem mw_1111 : (Jvm.Cond.methodLink "TemperNursesLaw" (96 : Nat) ({ cls := "TemperNursesModel", name := "forget", desc := "()I" } : Jvm.MethodName)) ∈ jv_T := jv_in 1111 (by decide +kernel) (by decide +kernel)
theorem cv_L_96 : jv_cv RL 96 yX9_forget := ⟨mw_1111, mw_1112, mw_1113⟩
theorem mw_713 : (Jvm.Cond.methodLink "TemperNursesLaw" (97 : Nat) ({ cls := "TemperNurses", name := "whose", desc := "()I" } : Jvm.MethodName)) ∈ jv_T := jv_in 713 (by decide +kernel) (by decide +kernel)
theorem cv_L_97 : jv_cv RL 97 yX8_whose := ⟨mw_713, mw_714, mw_715⟩
theorem mw_1115 : (Jvm.Cond.methodLink "TemperNursesLaw" (100 : Nat) ({ cls := "TemperNursesModel", name := "whose", desc := "()I" } : Jvm.MethodName)) ∈ jv_T := jv_in 1115 (by decide +kernel) (by decide +kernel)
theorem cv_L_100 : jv_cv RL 100 yX9_whose := ⟨mw_1115, mw_1116, mw_1117⟩
theorem mw_727 : (Jvm.Cond.methodLink "TemperNursesLaw" (101 : Nat) ({ cls := "TemperNurses", name := "ask", desc := "()I" } : Jvm.MethodName)) ∈ jv_T := jv_in 727 (by decide +kernel) (by decide +kernel)
theorem cv_L_101 : jv_cv RL 101 yX8_ask := ⟨mw_727, mw_728, mw_729⟩
theorem mw_1119 : (Jvm.Cond.methodLink "TemperNursesLaw" (104 : Nat) ({ cls := "TemperNursesModel", name := "ask", desc := "()I" } : Jvm.MethodName)) ∈ jv_T := jv_in 1119 (by decide +kernel) (by decide +kernel)
theorem cv_L_104 : jv_cv RL 104 yX9_ask := ⟨mw_1119, mw_1120, mw_1121⟩
theorem mw_742 : (Jvm.Cond.methodLink "TemperNursesLaw" (105 : Nat) ({ cls := "TemperNurses", name := "mark", desc := "(II)I" } : Jvm.MethodName)) ∈ jv_T := jv_in 742 (by decide +kernel) (by decide +kernel)
theorem cv_L_105 : jv_cv RL 105 yX8_mark := ⟨mw_742, mw_743, mw_744⟩
theorem mw_1124 : (Jvm.Cond.methodLink "TemperNursesLaw" (108 : Nat) ({ cls := "TemperNursesModel", name := "mark", desc := "(II)I" } : Jvm.MethodName)) ∈ jv_T := jv_in 1124 (by decide +kernel) (by decide +kernel)
theorem cv_L_108 : jv_cv RL 108 yX9_mark := ⟨mw_1124, mw_1125, mw_1126⟩
theorem mw_783 : (Jvm.Cond.methodLink "TemperNursesLaw" (109 : Nat) ({ cls := "TemperNurses", name := "keep", desc := "(I)I" } : Jvm.MethodName)) ∈ jv_T := jv_in 783 (by decide +kernel) (by decide +kernel)
theorem cv_L_109 : jv_cv RL 109 yX8_keep := ⟨mw_783, mw_784, mw_785⟩
theorem mw_1141 : (Jvm.Cond.methodLink "TemperNursesLaw" (112 : Nat) ({ cls := "TemperNursesModel", name := "keep", desc := "(I)I" } : Jvm.MethodName)) ∈ jv_T := jv_in 1141 (by decide +kernel) (by decide +kernel)
theorem cv_L_112 : jv_cv RL 112 yX9_keep := ⟨mw_1141, mw_1142, mw_1143⟩
theorem mw_796 : (Jvm.Cond.methodLink "TemperNursesLaw" (113 : Nat) ({ cls := "TemperNurses", name := "back", desc := "(I)I" } : Jvm.MethodName)) ∈ jv_T := jv_in 796 (by decide +kernel) (by decide +kernel)
theorem cv_L_113 : jv_cv RL 113 yX8_back := ⟨mw_796, mw_797, mw_798⟩
theorem mw_1145 : (Jvm.Cond.methodLink "TemperNursesLaw" (116 : Nat) ({ cls := "TemperNursesModel", name := "back", desc := "(I)I" } : Jvm.MethodName)) ∈ jv_T := jv_in 1145 (by decide +kernel) (by decide +kernel)
theorem cv_L_116 : jv_cv RL 116 yX9_back := ⟨mw_1145, mw_1146, mw_1147⟩
theorem mw_800 : (Jvm.Cond.methodLink "TemperNursesLaw" (117 : Nat) ({ cls := "TemperNurses", name := "count", desc := "(I)I" } : Jvm.MethodName)) ∈ jv_T := jv_in 800 (by decide +kernel) (by decide +kernel)
theorem cv_L_117 : jv_cv RL 117 yX8_count := ⟨mw_800, mw_801, mw_802⟩
theorem mw_1149 : (Jvm.Cond.methodLink "TemperNursesLaw" (120 : Nat) ({ cls := "TemperNursesModel", name := "count", desc := "(I)I" } : Jvm.MethodName)) ∈ jv_T := jv_in 1149 (by decide +kernel) (by decide +kernel)
theorem cv_L_120 : jv_cv RL 120 yX9_count := ⟨mw_1149, mw_1150, mw_1151⟩
theorem mw_804 : (Jvm.Cond.methodLink "TemperNursesLaw" (121 : Nat) ({ cls := "TemperNurses", name := "trace", desc := "()J" } : Jvm.MethodName)) ∈ jv_T := jv_in 804 (by decide +kernel) (by decide +kernel)
theorem cv_L_121 : jv_cv RL 121 yX8_trace := ⟨mw_804, mw_805, mw_806⟩
theorem mw_1153 : (Jvm.Cond.methodLink "TemperNursesLaw" (125 : Nat) ({ cls := "TemperNursesModel", name := "trace", desc := "()J" } : Jvm.MethodName)) ∈ jv_T := jv_in 1153 (by decide +kernel) (by decide +kernel)
theorem cv_L_125 : jv_cv RL 125 yX9_trace := ⟨mw_1153, mw_1154, mw_1155⟩
theorem mw_67 : (Jvm.Cond.classLink "TemperNursesLaw" (7 : Nat) "TemperNurses") ∈ jv_T := jv_in 67 (by decide +kernel) (by decide +kernel)
theorem mw_808 : (Jvm.Cond.classLink "TemperNursesLaw" (10 : Nat) "TemperNursesModel") ∈ jv_T := jv_in 808 (by decide +kernel) (by decide +kernel)
/-- the law's frame between calls: both objects stand, with these numbers -/
def lj_V (l : Launch) (b L : Nat) (xs : Nat → Int32) (pc : Nat) (lv : List (Nat × Value)) (st : List Value) (h : jv_H) : Prop :=
  ∀ (p : Program) (e : Env) (s : State) (m : MethodId) (below : List Frame) (meth : Method) (c : Code) (ca : Bool → ClassId) (D : va_G) (ad : Nat → Nat) (H : Heap) (locs : List Loc) (ls : Array Slot),
    lw_At p s m meth c b L xs → jv_N ca D ad (SC ++ SM) s → jv_J ad (SC ++ SM) → (∀ k, k < (SC ++ SM).length → s.heap.size ≤ ad k) → ad 2000 = b → va_P D vwCl (jv_w ca ad h (SC ++ SM)) H → va_S (fun q => s.heap.size ≤ q) s.heap H locs → lv_has ls 4 (jv_lv ad lv) →
    W p l e room_1 s m #[Value.ref b] below meth c H locs 61 1880 (lw_Z below #[Value.ref b] s) (F0 m pc ls (st.map (jv_rz ad)))
section LJ
variable {l : Launch} {b L : Nat} {xs : Nat → Int32} {pc : Nat} {lv : List (Nat × Value)} {st : List Value} {h : jv_H}
theorem lj_iconst {n : Int} {v : Int32} (pc' : Nat) (hp : pc' = pc + 1) (hd : decode cL_law pc = .ok (.iconst n, 1)) (hv : Int32.ofInt n = v) (k : lj_V l b L xs pc' lv (.int v :: st) h) : lj_V l b L xs pc lv st h := by
  subst hp
  exact fun p e s m below meth c ca D ad H locs ls C N J G B P Sx X => lv_iconst C.1 C.2.1 hd hv (k p e s m below meth c ca D ad H locs ls C N J G B P Sx X)
theorem lj_bipush {n : Int} {v : Int32} (pc' : Nat) (hp : pc' = pc + 2) (hd : decode cL_law pc = .ok (.bipush n, 2)) (hv : (Int8.ofInt n).toInt32 = v) (k : lj_V l b L xs pc' lv (.int v :: st) h) : lj_V l b L xs pc lv st h := by
  subst hp
  exact fun p e s m below meth c ca D ad H locs ls C N J G B P Sx X => lv_bipush C.1 C.2.1 hd hv (k p e s m below meth c ca D ad H locs ls C N J G B P Sx X)
theorem lj_iload_n {i : Fin 4} {j : Nat} {x : Int32} (q : Nat) (pc' : Nat) (hp : pc' = pc + 1) (hd : decode cL_law pc = .ok (.iload_n i, 1)) (hi : (i : Nat) = j) (hl : lv[q]? = some (j, .int x)) (k : lj_V l b L xs pc' lv (.int x :: st) h) : lj_V l b L xs pc lv st h := by
  subst hp
  exact fun p e s m below meth c ca D ad H locs ls C N J G B P Sx X => lv_iload_n C.1 C.2.1 hd hi (jv_lv_at X hl) (k p e s m below meth c ca D ad H locs ls C N J G B P Sx X)
theorem lj_aload_n {i : Fin 4} {j : Nat} {x : Nat} (q : Nat) (pc' : Nat) (hp : pc' = pc + 1) (hd : decode cL_law pc = .ok (.aload_n i, 1)) (hi : (i : Nat) = j) (hl : lv[q]? = some (j, .ref x)) (k : lj_V l b L xs pc' lv (.ref x :: st) h) : lj_V l b L xs pc lv st h := by
  subst hp
  exact fun p e s m below meth c ca D ad H locs ls C N J G B P Sx X => lv_aload_n C.1 C.2.1 hd hi (jv_lv_at X hl) (k p e s m below meth c ca D ad H locs ls C N J G B P Sx X)
theorem lj_iadd {x y : Int32} (pc' : Nat) (hp : pc' = pc + 1) (hd : decode cL_law pc = .ok (.iadd, 1)) (k : lj_V l b L xs pc' lv (.int (x + y) :: st) h) : lj_V l b L xs pc lv (.int y :: .int x :: st) h := by
  subst hp
  exact fun p e s m below meth c ca D ad H locs ls C N J G B P Sx X => lv_iadd C.1 C.2.1 hd (k p e s m below meth c ca D ad H locs ls C N J G B P Sx X)
theorem lj_isub {x y : Int32} (pc' : Nat) (hp : pc' = pc + 1) (hd : decode cL_law pc = .ok (.isub, 1)) (k : lj_V l b L xs pc' lv (.int (x - y) :: st) h) : lj_V l b L xs pc lv (.int y :: .int x :: st) h := by
  subst hp
  exact fun p e s m below meth c ca D ad H locs ls C N J G B P Sx X => lv_isub C.1 C.2.1 hd (k p e s m below meth c ca D ad H locs ls C N J G B P Sx X)
theorem lj_iand {x y : Int32} (pc' : Nat) (hp : pc' = pc + 1) (hd : decode cL_law pc = .ok (.iand, 1)) (k : lj_V l b L xs pc' lv (.int (x &&& y) :: st) h) : lj_V l b L xs pc lv (.int y :: .int x :: st) h := by
  subst hp
  exact fun p e s m below meth c ca D ad H locs ls C N J G B P Sx X => lv_iand C.1 C.2.1 hd (k p e s m below meth c ca D ad H locs ls C N J G B P Sx X)
theorem lj_lcmp {x y : Int64} (pc' : Nat) (hp : pc' = pc + 1) (hd : decode cL_law pc = .ok (.lcmp, 1)) (k : lj_V l b L xs pc' lv (.int (lg_cmp x y) :: st) h) : lj_V l b L xs pc lv (.long y :: .long x :: st) h := by
  subst hp
  exact fun p e s m below meth c ca D ad H locs ls C N J G B P Sx X => W.lcmp C.1 C.2.1 hd (k p e s m below meth c ca D ad H locs ls C N J G B P Sx X)
theorem lj_goto {off : Int} (tgt : Nat) (ht : (pc : Int) + off = (tgt : Int)) (hd : decode cL_law pc = .ok (.goto off, 3)) (k : lj_V l b L xs tgt lv st h) : lj_V l b L xs pc lv st h :=
  fun p e s m below meth c ca D ad H locs ls C N J G B P Sx X => lv_goto C.1 C.2.1 hd ht (k p e s m below meth c ca D ad H locs ls C N J G B P Sx X)
theorem lj_notA {s : State} {b : Nat} (h : b < s.heap.size) : ¬ (fun q : Nat => s.heap.size ≤ q) b := Nat.not_le.mpr h
theorem lj_sld {i : Int32} (pc' : Nat) (hp : pc' = pc + 1) (hi : jv_ix i L) (hd : decode cL_law pc = .ok (.iaload, 1)) (k : lj_V l b L xs pc' lv (.int (xs i.toNatClampNeg) :: st) h) : lj_V l b L xs pc lv (.int i :: .ref 2000 :: st) h := by
  subst hp
  intro p e s m below meth c ca D ad H locs ls C N J G B P Sx X
  have hk := k p e s m below meth c ca D ad H locs ls C N J G B P Sx X
  obtain ⟨hx, hb, hr, hml, hown, hts, hX, hbl, hlocks, hgv⟩ := C
  show W p l e room_1 s m #[Value.ref b] below meth c H locs 61 1880 _ (F0 m pc ls (.int i :: .ref (ad 2000) :: st.map (jv_rz ad)))
  rw [B]
  exact va_sld hx hb hX hbl (lj_notA hbl) Sx (vp_in_iff.mpr hi) hd hk
theorem lj_slen (pc' : Nat) (hp : pc' = pc + 1) (hd : decode cL_law pc = .ok (.arraylength, 1)) (k : lj_V l b L xs pc' lv (.int (nI L) :: st) h) : lj_V l b L xs pc lv (.ref 2000 :: st) h := by
  subst hp
  intro p e s m below meth c ca D ad H locs ls C N J G B P Sx X
  have hk := k p e s m below meth c ca D ad H locs ls C N J G B P Sx X
  obtain ⟨hx, hb, hr, hml, hown, hts, hX, hbl, hlocks, hgv⟩ := C
  show W p l e room_1 s m #[Value.ref b] below meth c H locs 61 1880 _ (F0 m pc ls (.ref (ad 2000) :: st.map (jv_rz ad)))
  rw [B]
  exact va_slen hx hb hX hbl (lj_notA hbl) Sx hd hk
theorem lj_gt {x y : Int32} {off : Int} (tgt pc' : Nat) (hp : pc' = pc + 3) (ht : (pc : Int) + off = (tgt : Int)) (hd : decode cL_law pc = .ok (.if_icmp .gt off, 3)) (kt : y < x → lj_V l b L xs tgt lv st h) (kf : ¬ y < x → lj_V l b L xs pc' lv st h) : lj_V l b L xs pc lv (.int y :: .int x :: st) h := by
  subst hp
  exact fun p e s m below meth c ca D ad H locs ls C N J G B P Sx X => lv_icmp_gt C.1 C.2.1 hd ht (fun q => kt q p e s m below meth c ca D ad H locs ls C N J G B P Sx X) (fun q => kf q p e s m below meth c ca D ad H locs ls C N J G B P Sx X)
/-- both answered alike -/
theorem lj_same {x : Int32} {off : Int} (tgt : Nat) (ht : (pc : Int) + off = (tgt : Int)) (hd : decode cL_law pc = .ok (.if_icmp .eq off, 3)) (kt : lj_V l b L xs tgt lv st h) : lj_V l b L xs pc lv (.int x :: .int x :: st) h :=
  fun p e s m below meth c ca D ad H locs ls C N J G B P Sx X => lv_icmp_eq C.1 C.2.1 hd ht (fun _ => kt p e s m below meth c ca D ad H locs ls C N J G B P Sx X) (fun q => absurd rfl q)
theorem lj_zero {x : Int32} {off : Int} (tgt : Nat) (ht : (pc : Int) + off = (tgt : Int)) (hx : x = 0) (hd : decode cL_law pc = .ok (.ifCond .eq off, 3)) (kt : lj_V l b L xs tgt lv st h) : lj_V l b L xs pc lv (.int x :: st) h :=
  fun p e s m below meth c ca D ad H locs ls C N J G B P Sx X => lv_if_eq C.1 C.2.1 hd ht (fun _ => kt p e s m below meth c ca D ad H locs ls C N J G B P Sx X) (fun q => absurd hx q)
theorem lj_tabc {x : Int32} {dflt lo hi off : Int} {offs : Array Int} {len : Nat} (v : Int32) (tgt : Nat) (hd : decode cL_law pc = .ok (.tableswitch dflt lo hi offs, len)) (hv : ¬ v.toInt < lo ∧ ¬ hi < v.toInt ∧ offs[(v.toInt - lo).toNat]? = some off) (ht : (pc : Int) + off = (tgt : Int)) (kt : x = v → lj_V l b L xs tgt lv st h) (kf : ¬ x = v → lj_V l b L xs pc lv (.int x :: st) h) : lj_V l b L xs pc lv (.int x :: st) h := by
  by_cases hc : x = v
  · have k := kt hc
    subst hc
    exact fun p e s m below meth c ca D ad H locs ls C N J G B P Sx X => lv_tableIn C.1 C.2.1 hd hv.1 hv.2.1 hv.2.2 ht (k p e s m below meth c ca D ad H locs ls C N J G B P Sx X)
  · exact kf hc
theorem lj_tabd {x : Int32} {dflt lo hi : Int} {offs : Array Int} {len : Nat} (tgt : Nat) (hd : decode cL_law pc = .ok (.tableswitch dflt lo hi offs, len)) (hv : x.toInt < lo ∨ hi < x.toInt) (ht : (pc : Int) + dflt = (tgt : Int)) (k : lj_V l b L xs tgt lv st h) : lj_V l b L xs pc lv (.int x :: st) h :=
  fun p e s m below meth c ca D ad H locs ls C N J G B P Sx X => lv_tableOut C.1 C.2.1 hd hv ht (k p e s m below meth c ca D ad H locs ls C N J G B P Sx X)
theorem lj_iinc {j : Nat} {n : Int} {x v : Int32} {lv' : List (Nat × Value)} (q : Nat) (pc' : Nat) (hp : pc' = pc + 3) (hd : decode cL_law pc = .ok (.iinc j n, 3)) (hq : lv[q]? = some (j, .int x)) (hv : x + Int32.ofInt n = v) (hn : j < 4) (hc : lv.all (fun q => q.2.category == 1) = true) (hl : jv_set lv j (.int v) = lv') (k : lj_V l b L xs pc' lv' st h) : lj_V l b L xs pc lv st h := by
  subst hp; subst hl; subst hv
  intro p e s m below meth c ca D ad H locs ls C N J G B P Sx X
  exact lv_iinc (k := q) C.1 C.2.1 hd X (by rw [jv_lv, List.getElem?_map, hq]; rfl) rfl hn rfl (fun ls' X' => k p e s m below meth c ca D ad H locs ls' C N J G B P Sx (jv_set_has hc X'))
theorem lj_end (hd : decode cL_law pc = .ok (.ireturn, 1)) : lj_V l b L xs pc lv [.int 1] h := by
  intro p e s m below meth c ca D ad H locs ls C N J G B P Sx X
  obtain ⟨hx, hb, hr, hml, hown, hts, hX, hbl, hlocks, hgv⟩ := C
  refine va_forget (fun q hq => Sx.2.2 q hq) ?_
  refine W.widen (k := 600000) (n := 7302250) (Nat.le_of_ble_eq_true rfl) (Nat.le_of_ble_eq_true rfl) ?_
  exact lw_ret hx hb hr hlocks hd
theorem lj_call {ρ' : Type} {rv' : ρ' → Option Value} {y : MethodName} {cc' : ByteArray} {nL' n ix a ci : Nat} {rt' : Option FieldType} {fs stk : List Value} {f : Option (ρ' × jv_H)} {q : ρ' × jv_H} (as st stk' : List Value) (pc' : Nat) (hp : pc' = pc + 3) (hnl : nL' ≤ 21) (hcb : jv_cb y cc' nL' rt' n) (hcv : jv_cv RL ix y) (hS : (SC ++ SM)[a]? = some (.inr (ci, fs))) (hci : vwCl[ci]?.map (fun q => q.1) = some y.cls) (hn : as.length = n) (hst : (st.map fun v => v.category).sum ≤ 8) (hd : decode cL_law pc = .ok (.invokevirtual ix, 3)) (hk : as.reverse ++ .ref a :: st = stk)
    (hE : jv_E l y cc' nL' rt' 60 (SC ++ SM) rv' (.ref a :: as) h f) (hf : f = some q) (hk' : (rv' q.1).toList ++ st = stk') (k : lj_V l b L xs pc' lv stk' q.2) : lj_V l b L xs pc lv stk h := by
  subst hp; subst hk; subst hk'
  intro p e s m below meth c ca D ad H locs ls C N J G B P Sx X
  have hM := hE q hf ca D ad
  obtain ⟨w1, w2, w3⟩ := hcv
  obtain ⟨w4, w5, w6⟩ := hcb
  obtain ⟨hx, hb, hr, hml, hown, hts, hX, hbl, hlocks, hgv⟩ := id C
  have htT : ∀ w ∈ jv_T, w.before #[Value.ref b] s = true := fun w hw => hts w (List.mem_filter.mp hw).1
  cases hcl : vwCl[ci]? with
  | none => rw [hcl] at hci; cases hci
  | some r =>
    rw [hcl] at hci
    have hrc : r.1 = y.cls := Option.some.inj hci
    have cw : CallW room_1 s #[Value.ref b] RL y.cls ix y cc' nL' rt' (Cond.code y cc' nL' rt' :: jv_T) (jv_R 60) 0 0 n := cwV n htT (jv_words w5 [.methodLink RL ix y, .instanceMethod y, .selects y.cls y y, .initialized y.cls] (fun w hw => by
      simp only [List.mem_cons, List.not_mem_nil, or_false] at hw
      rcases hw with rfl | rfl | rfl | rfl
      · exact w1
      · exact w2
      · exact w3
      · exact w4)) rfl rfl rfl ⟨rfl, w6⟩ ⟨by decide, by show 8 + (nL' + 11) + 40 * 60 ≤ 84000; omega⟩
    have hpre : ∀ U : State, U.heap = H → s.WarmedH U.vm → jv_P ca D ad (SC ++ SM) (.ref a :: as) h ((.ref a :: as).map (jv_rz ad)).toArray U := fun U hU hW => ⟨rfl, jv_N_moved N hW (fun q hq hn => by rw [hU]; exact Sx.2.1 q hq (Nat.not_le.mpr hq)), J, by rw [hU]; exact P⟩
    have hrec := va_recv N.1 P hcl (jv_w_at (ca := ca) (ad := ad) (h := h) hS)
    rw [hrc] at hrec
    have hstk : ((as.reverse ++ .ref a :: st).map (jv_rz ad)) = (as.map (jv_rz ad)).reverse ++ .ref (ad a) :: st.map (jv_rz ad) := by rw [List.map_append, List.map_reverse]; rfl
    rw [hstk]
    have hr := va_runV (l := l) (p := p) (e := e) (m := m) (below := below) (meth := meth) (c := c) (H := H) (locs := locs) (cells := 61) (slots := 1880) (g := F0 m pc ls ((as.map (jv_rz ad)).reverse ++ .ref (ad a) :: st.map (jv_rz ad))) (C := y.cls) (As := as.map (jv_rz ad)) (b := ad a) (rest := st.map (jv_rz ad)) (cc := cL_law) (Ts := jv_T) ⟨hx, hb, hml, hown, htT⟩ hM cw ⟨jv_blind, hrec, hpre⟩ rfl (by rw [List.length_map, hn]) X.1 rfl (lv_room (by rw [jv_cats]; exact hst)) hd ⟨by decide, by decide⟩
    intro T hT X0
    obtain ⟨v, st₀, t, T', L', h0, X', hL, e1, e2, ⟨hv, hP, hz, hk⟩, stp⟩ := hr T hT X0
    cases hv
    rw [h0] at hz hk
    have hin : ∀ q, jv_A ad (SC ++ SM) q → s.heap.size ≤ q := by
      rintro q ⟨k, hk, rfl⟩
      exact G k hk
    have hW := k p e s m below meth c ca D ad T'.heap (locs ++ L') ls C N J G B (by rw [e1]; exact hP) ⟨Nat.le_trans Sx.1 (by rw [e1]; exact hz), fun q q1 q2 => by rw [e1, hk q (Nat.lt_of_lt_of_le q1 Sx.1) (fun z => q2 (hin q z))]; exact Sx.2.1 q q1 q2, fun q hq => by
      rcases List.mem_append.mp hq with g | g
      · exact Sx.2.2 q g
      · exact hin _ (hL q g)⟩ X
    rw [List.map_append] at hW
    have hv' : ((rv' q.1).toList.map (jv_rz ad)) = ((rv' q.1).map (jv_rz ad)).toList := by cases rv' q.1 <;> rfl
    rw [hv'] at hW
    obtain ⟨t2, a1, b1⟩ := hW T' rfl X'
    exact ⟨t2, stp t2 a1, b1⟩
end LJ
