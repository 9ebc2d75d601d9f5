-- laid by wip/whole/mkwords.py: the table words that calls carry, and each word in it by its place
def WT : List Cond := lw_tbl.filter goodWord
theorem mWT {w : Cond} (i : Nat) (h : lw_tbl[i]? = some w) (hg : goodWord w = true) : w ∈ WT := List.mem_filter.mpr ⟨List.mem_of_getElem? h, hg⟩
theorem WT_good : ∀ w ∈ WT, (w.onTables && w.keeps) = true ∨ ∃ ty, w = .arrayClass ty := fun _ h => good_of_word (List.mem_filter.mp h).2
theorem WT_tbl : ∀ w ∈ WT, w ∈ lw_tbl := fun _ h => (List.mem_filter.mp h).1
def MV (C : String) (y : MethodName) (b : ByteArray) (nL : Nat) (ret : Option FieldType) (n : Nat) : Prop :=
  Cond.instanceMethod y ∈ WT ∧ Cond.selects C y y ∈ WT ∧ Cond.initialized C ∈ WT ∧ Cond.code y b nL ret ∈ WT ∧ (y.cls = C ∧ y.cls ≠ "java/lang/invoke/MethodHandle" ∧ y.cls ≠ "java/lang/invoke/VarHandle" ∧ (parseMethodDescriptor y.desc).map (fun d => d.parameters.length) = some n)
def MS (y : MethodName) (b : ByteArray) (nL : Nat) (ret : Option FieldType) (n : Nat) : Prop :=
  Cond.static y ∈ WT ∧ Cond.initialized y.cls ∈ WT ∧ Cond.code y b nL ret ∈ WT ∧ (y.cls ≠ "java/lang/invoke/MethodHandle" ∧ y.cls ≠ "java/lang/invoke/VarHandle" ∧ (parseMethodDescriptor y.desc).map (fun d => d.parameters.length) = some n)
def MI (y : MethodName) (b : ByteArray) (nL : Nat) (n : Nat) : Prop :=
  Cond.instanceMethod y ∈ WT ∧ Cond.initialized y.cls ∈ WT ∧ Cond.code y b nL none ∈ WT ∧ y.name = "<init>" ∧ (y.cls ≠ "java/lang/invoke/MethodHandle" ∧ y.cls ≠ "java/lang/invoke/VarHandle" ∧ (parseMethodDescriptor y.desc).map (fun d => d.parameters.length) = some n)
set_option maxRecDepth 100000 in
theorem se_X2_passEquinox : Cond.selects RX2 yX2_passEquinox yX2_passEquinox ∈ WT := mWT 0 rfl rfl
set_option maxRecDepth 100000 in
theorem se_X6_yearsCanBe : Cond.selects RX6 yX6_yearsCanBe yX6_yearsCanBe ∈ WT := mWT 1 rfl rfl
set_option maxRecDepth 100000 in
theorem se_X0_takeBack : Cond.selects RX0 yX0_takeBack yX0_takeBack ∈ WT := mWT 2 rfl rfl
set_option maxRecDepth 100000 in
theorem se_X0_countWant : Cond.selects RX0 yX0_countWant yX0_countWant ∈ WT := mWT 3 rfl rfl
set_option maxRecDepth 100000 in
theorem se_X0_countBearer : Cond.selects RX0 yX0_countBearer yX0_countBearer ∈ WT := mWT 4 rfl rfl
set_option maxRecDepth 100000 in
theorem se_X0_heed : Cond.selects RX0 yX0_heed yX0_heed ∈ WT := mWT 5 rfl rfl
set_option maxRecDepth 100000 in
theorem se_X0_isOpen : Cond.selects RX0 yX0_isOpen yX0_isOpen ∈ WT := mWT 6 rfl rfl
set_option maxRecDepth 100000 in
theorem se_X0_waysIf : Cond.selects RX0 yX0_waysIf yX0_waysIf ∈ WT := mWT 7 rfl rfl
set_option maxRecDepth 100000 in
theorem se_X0_waysWith : Cond.selects RX0 yX0_waysWith yX0_waysWith ∈ WT := mWT 8 rfl rfl
set_option maxRecDepth 100000 in
theorem se_X0_suits : Cond.selects RX0 yX0_suits yX0_suits ∈ WT := mWT 9 rfl rfl
set_option maxRecDepth 100000 in
theorem se_X0_give : Cond.selects RX0 yX0_give yX0_give ∈ WT := mWT 10 rfl rfl
set_option maxRecDepth 100000 in
theorem se_X4_bestOf : Cond.selects RX4 yX4_bestOf yX4_bestOf ∈ WT := mWT 11 rfl rfl
set_option maxRecDepth 100000 in
theorem se_X6_drawYear : Cond.selects RX6 yX6_drawYear yX6_drawYear ∈ WT := mWT 12 rfl rfl
set_option maxRecDepth 100000 in
theorem se_X6_drawAct : Cond.selects RX6 yX6_drawAct yX6_drawAct ∈ WT := mWT 13 rfl rfl
set_option maxRecDepth 100000 in
theorem se_X6_imageAt : Cond.selects RX6 yX6_imageAt yX6_imageAt ∈ WT := mWT 14 rfl rfl
set_option maxRecDepth 100000 in
theorem se_X6_toldOfOne : Cond.selects RX6 yX6_toldOfOne yX6_toldOfOne ∈ WT := mWT 15 rfl rfl
set_option maxRecDepth 100000 in
theorem se_X7_clear : Cond.selects RX7 yX7_clear yX7_clear ∈ WT := mWT 16 rfl rfl
set_option maxRecDepth 100000 in
theorem se_X7_isOne : Cond.selects RX7 yX7_isOne yX7_isOne ∈ WT := mWT 17 rfl rfl
set_option maxRecDepth 100000 in
theorem se_X7_faultOf : Cond.selects RX7 yX7_faultOf yX7_faultOf ∈ WT := mWT 18 rfl rfl
set_option maxRecDepth 100000 in
theorem se_X7_isChild : Cond.selects RX7 yX7_isChild yX7_isChild ∈ WT := mWT 19 rfl rfl
set_option maxRecDepth 100000 in
theorem se_X7_goYears : Cond.selects RX7 yX7_goYears yX7_goYears ∈ WT := mWT 20 rfl rfl
set_option maxRecDepth 100000 in
theorem se_X7_asNow : Cond.selects RX7 yX7_asNow yX7_asNow ∈ WT := mWT 21 rfl rfl
set_option maxRecDepth 100000 in
theorem se_X7_days : Cond.selects RX7 yX7_days yX7_days ∈ WT := mWT 22 rfl rfl
set_option maxRecDepth 100000 in
theorem se_X7_equinox : Cond.selects RX7 yX7_equinox yX7_equinox ∈ WT := mWT 23 rfl rfl
set_option maxRecDepth 100000 in
theorem se_X7_whyNoHats : Cond.selects RX7 yX7_whyNoHats yX7_whyNoHats ∈ WT := mWT 24 rfl rfl
set_option maxRecDepth 100000 in
theorem se_X7_hats : Cond.selects RX7 yX7_hats yX7_hats ∈ WT := mWT 25 rfl rfl
set_option maxRecDepth 100000 in
theorem se_X7_whyNot : Cond.selects RX7 yX7_whyNot yX7_whyNot ∈ WT := mWT 26 rfl rfl
set_option maxRecDepth 100000 in
theorem se_X7_barOfYears : Cond.selects RX7 yX7_barOfYears yX7_barOfYears ∈ WT := mWT 27 rfl rfl
set_option maxRecDepth 100000 in
theorem se_X7_equinoxes : Cond.selects RX7 yX7_equinoxes yX7_equinoxes ∈ WT := mWT 28 rfl rfl
set_option maxRecDepth 100000 in
theorem se_X7_whereBehind : Cond.selects RX7 yX7_whereBehind yX7_whereBehind ∈ WT := mWT 29 rfl rfl
set_option maxRecDepth 100000 in
theorem se_X7_areTwo : Cond.selects RX7 yX7_areTwo yX7_areTwo ∈ WT := mWT 30 rfl rfl
set_option maxRecDepth 100000 in
theorem se_X7_areIn : Cond.selects RX7 yX7_areIn yX7_areIn ∈ WT := mWT 31 rfl rfl
set_option maxRecDepth 100000 in
theorem se_X7_firstDay : Cond.selects RX7 yX7_firstDay yX7_firstDay ∈ WT := mWT 32 rfl rfl
set_option maxRecDepth 100000 in
theorem se_X7_isThere : Cond.selects RX7 yX7_isThere yX7_isThere ∈ WT := mWT 33 rfl rfl
set_option maxRecDepth 100000 in
theorem se_X7_isWar : Cond.selects RX7 yX7_isWar yX7_isWar ∈ WT := mWT 34 rfl rfl
set_option maxRecDepth 100000 in
theorem se_X7_codes : Cond.selects RX7 yX7_codes yX7_codes ∈ WT := mWT 35 rfl rfl
set_option maxRecDepth 100000 in
theorem se_X7_isRow : Cond.selects RX7 yX7_isRow yX7_isRow ∈ WT := mWT 36 rfl rfl
set_option maxRecDepth 100000 in
theorem se_X7_deals : Cond.selects RX7 yX7_deals yX7_deals ∈ WT := mWT 37 rfl rfl
set_option maxRecDepth 100000 in
theorem se_X7_living : Cond.selects RX7 yX7_living yX7_living ∈ WT := mWT 38 rfl rfl
set_option maxRecDepth 100000 in
theorem se_X7_coughOf : Cond.selects RX7 yX7_coughOf yX7_coughOf ∈ WT := mWT 39 rfl rfl
set_option maxRecDepth 100000 in
theorem se_X7_doMeet : Cond.selects RX7 yX7_doMeet yX7_doMeet ∈ WT := mWT 40 rfl rfl
set_option maxRecDepth 100000 in
theorem se_X7_alive : Cond.selects RX7 yX7_alive yX7_alive ∈ WT := mWT 41 rfl rfl
set_option maxRecDepth 100000 in
theorem ini_L : Cond.initialized RL ∈ WT := mWT 42 rfl rfl
set_option maxRecDepth 100000 in
theorem ini_X6 : Cond.initialized RX6 ∈ WT := mWT 43 rfl rfl
set_option maxRecDepth 100000 in
theorem ini_X2 : Cond.initialized RX2 ∈ WT := mWT 44 rfl rfl
set_option maxRecDepth 100000 in
theorem ini_X3 : Cond.initialized RX3 ∈ WT := mWT 45 rfl rfl
set_option maxRecDepth 100000 in
theorem ini_X1 : Cond.initialized RX1 ∈ WT := mWT 46 rfl rfl
set_option maxRecDepth 100000 in
theorem ini_X5 : Cond.initialized RX5 ∈ WT := mWT 47 rfl rfl
set_option maxRecDepth 100000 in
theorem ini_X0 : Cond.initialized RX0 ∈ WT := mWT 48 rfl rfl
set_option maxRecDepth 100000 in
theorem ini_X4 : Cond.initialized RX4 ∈ WT := mWT 49 rfl rfl
set_option maxRecDepth 100000 in
theorem ini_X7 : Cond.initialized RX7 ∈ WT := mWT 50 rfl rfl
set_option maxRecDepth 100000 in
theorem ini_J9 : Cond.initialized RJ9 ∈ WT := mWT 51 rfl rfl
set_option maxRecDepth 100000 in
theorem ini_J6 : Cond.initialized RJ6 ∈ WT := mWT 52 rfl rfl
set_option maxRecDepth 100000 in
theorem cl_L_7 : Cond.classLink RL 7 RX6 ∈ WT := mWT 53 rfl rfl
set_option maxRecDepth 100000 in
theorem isb_X6 : Cond.instantiable RX6 9 ∈ WT := mWT 54 rfl rfl
set_option maxRecDepth 100000 in
theorem ml_L_9 : Cond.methodLink RL 9 yX6_init ∈ WT := mWT 55 rfl rfl
set_option maxRecDepth 100000 in
theorem im_X6_init : Cond.instanceMethod yX6_init ∈ WT := mWT 56 rfl rfl
set_option maxRecDepth 100000 in
theorem cd_X6_init : Cond.code yX6_init cX6_init 1 none ∈ WT := mWT 57 rfl rfl
set_option maxRecDepth 100000 in
theorem ml_X6_1 : Cond.methodLink RX6 1 objectInit ∈ WT := mWT 58 rfl rfl
set_option maxRecDepth 100000 in
theorem im_obj : Cond.instanceMethod objectInit ∈ WT := mWT 59 rfl rfl
set_option maxRecDepth 100000 in
theorem cd_obj : Cond.code objectInit ⟨#[0xb1]⟩ 1 none ∈ WT := mWT 60 rfl rfl
set_option maxRecDepth 100000 in
theorem cl_X6_7 : Cond.classLink RX6 7 RX2 ∈ WT := mWT 61 rfl rfl
set_option maxRecDepth 100000 in
theorem isb_X2 : Cond.instantiable RX2 15 ∈ WT := mWT 62 rfl rfl
set_option maxRecDepth 100000 in
theorem im_X2_init : Cond.instanceMethod yX2_init ∈ WT := mWT 64 rfl rfl
set_option maxRecDepth 100000 in
theorem cd_X2_init : Cond.code yX2_init cX2_init 1 none ∈ WT := mWT 65 rfl rfl
set_option maxRecDepth 100000 in
theorem ml_X2_3 : Cond.methodLink RX2 3 objectInit ∈ WT := mWT 66 rfl rfl
set_option maxRecDepth 100000 in
theorem cl_X2_9 : Cond.classLink RX2 9 RX3 ∈ WT := mWT 67 rfl rfl
set_option maxRecDepth 100000 in
theorem isb_X3 : Cond.instantiable RX3 1 ∈ WT := mWT 68 rfl rfl
set_option maxRecDepth 100000 in
theorem ml_X2_11 : Cond.methodLink RX2 11 yX3_init ∈ WT := mWT 69 rfl rfl
set_option maxRecDepth 100000 in
theorem im_X3_init : Cond.instanceMethod yX3_init ∈ WT := mWT 70 rfl rfl
set_option maxRecDepth 100000 in
theorem cd_X3_init : Cond.code yX3_init cX3_init 2 none ∈ WT := mWT 71 rfl rfl
set_option maxRecDepth 100000 in
theorem ml_X3_1 : Cond.methodLink RX3 1 objectInit ∈ WT := mWT 72 rfl rfl
set_option maxRecDepth 100000 in
theorem fl_X3_7 : Cond.fieldLink RX3 7 RX3 "cells" "[I" ∈ WT := mWT 73 rfl rfl
set_option maxRecDepth 100000 in
theorem ac_int : Cond.arrayClass .int ∈ WT := mWT 77 rfl rfl
set_option maxRecDepth 100000 in
theorem fl_X2_41 : Cond.fieldLink RX2 41 RX2 "lands" "I" ∈ WT := mWT 78 rfl rfl
set_option maxRecDepth 100000 in
theorem fl_X4_23 : Cond.fieldLink RX4 23 RX2 "lands" "I" ∈ WT := mWT 79 rfl rfl
set_option maxRecDepth 100000 in
theorem fl_X6_73 : Cond.fieldLink RX6 73 RX2 "lands" "I" ∈ WT := mWT 80 rfl rfl
set_option maxRecDepth 100000 in
theorem fl_X0_43 : Cond.fieldLink RX0 43 RX2 "lands" "I" ∈ WT := mWT 81 rfl rfl
set_option maxRecDepth 100000 in
theorem fl_X6_62 : Cond.fieldLink RX6 62 RX2 "longDays" "I" ∈ WT := mWT 82 rfl rfl
set_option maxRecDepth 100000 in
theorem fl_X2_67 : Cond.fieldLink RX2 67 RX2 "longDays" "I" ∈ WT := mWT 83 rfl rfl
set_option maxRecDepth 100000 in
theorem fl_X2_45 : Cond.fieldLink RX2 45 RX2 "day" "I" ∈ WT := mWT 84 rfl rfl
set_option maxRecDepth 100000 in
theorem fl_X6_141 : Cond.fieldLink RX6 141 RX2 "day" "I" ∈ WT := mWT 85 rfl rfl
set_option maxRecDepth 100000 in
theorem fl_X2_48 : Cond.fieldLink RX2 48 RX2 "dayOfSeason" "I" ∈ WT := mWT 86 rfl rfl
set_option maxRecDepth 100000 in
theorem fl_X6_76 : Cond.fieldLink RX6 76 RX2 "dayOfSeason" "I" ∈ WT := mWT 87 rfl rfl
set_option maxRecDepth 100000 in
theorem fl_X2_51 : Cond.fieldLink RX2 51 RX2 "season" "I" ∈ WT := mWT 88 rfl rfl
set_option maxRecDepth 100000 in
theorem fl_X6_257 : Cond.fieldLink RX6 257 RX2 "season" "I" ∈ WT := mWT 89 rfl rfl
set_option maxRecDepth 100000 in
theorem fl_X2_57 : Cond.fieldLink RX2 57 RX2 "living" "I" ∈ WT := mWT 90 rfl rfl
set_option maxRecDepth 100000 in
theorem fl_X6_223 : Cond.fieldLink RX6 223 RX2 "living" "I" ∈ WT := mWT 91 rfl rfl
set_option maxRecDepth 100000 in
theorem fl_X2_54 : Cond.fieldLink RX2 54 RX2 "sights" "I" ∈ WT := mWT 92 rfl rfl
set_option maxRecDepth 100000 in
theorem fl_X0_66 : Cond.fieldLink RX0 66 RX2 "sights" "I" ∈ WT := mWT 93 rfl rfl
set_option maxRecDepth 100000 in
theorem fl_X6_184 : Cond.fieldLink RX6 184 RX2 "sights" "I" ∈ WT := mWT 94 rfl rfl
set_option maxRecDepth 100000 in
theorem fl_X2_14 : Cond.fieldLink RX2 14 RX2 "place" "LHostageRound$Row;" ∈ WT := mWT 95 rfl rfl
set_option maxRecDepth 100000 in
theorem fl_X2_20 : Cond.fieldLink RX2 20 RX2 "name" "LHostageRound$Row;" ∈ WT := mWT 96 rfl rfl
set_option maxRecDepth 100000 in
theorem fl_X0_52 : Cond.fieldLink RX0 52 RX2 "name" "LHostageRound$Row;" ∈ WT := mWT 97 rfl rfl
set_option maxRecDepth 100000 in
theorem fl_X6_132 : Cond.fieldLink RX6 132 RX2 "name" "LHostageRound$Row;" ∈ WT := mWT 98 rfl rfl
set_option maxRecDepth 100000 in
theorem fl_X2_23 : Cond.fieldLink RX2 23 RX2 "bond" "LHostageRound$Row;" ∈ WT := mWT 99 rfl rfl
set_option maxRecDepth 100000 in
theorem fl_X4_67 : Cond.fieldLink RX4 67 RX2 "bond" "LHostageRound$Row;" ∈ WT := mWT 100 rfl rfl
set_option maxRecDepth 100000 in
theorem fl_X6_135 : Cond.fieldLink RX6 135 RX2 "bond" "LHostageRound$Row;" ∈ WT := mWT 101 rfl rfl
set_option maxRecDepth 100000 in
theorem fl_X2_26 : Cond.fieldLink RX2 26 RX2 "went" "LHostageRound$Row;" ∈ WT := mWT 102 rfl rfl
set_option maxRecDepth 100000 in
theorem fl_X5_15 : Cond.fieldLink RX5 15 RX2 "went" "LHostageRound$Row;" ∈ WT := mWT 103 rfl rfl
set_option maxRecDepth 100000 in
theorem fl_X6_138 : Cond.fieldLink RX6 138 RX2 "went" "LHostageRound$Row;" ∈ WT := mWT 104 rfl rfl
set_option maxRecDepth 100000 in
theorem fl_X2_29 : Cond.fieldLink RX2 29 RX2 "coughs" "LHostageRound$Row;" ∈ WT := mWT 105 rfl rfl
set_option maxRecDepth 100000 in
theorem fl_X0_59 : Cond.fieldLink RX0 59 RX2 "coughs" "LHostageRound$Row;" ∈ WT := mWT 106 rfl rfl
set_option maxRecDepth 100000 in
theorem fl_X6_86 : Cond.fieldLink RX6 86 RX2 "coughs" "LHostageRound$Row;" ∈ WT := mWT 107 rfl rfl
set_option maxRecDepth 100000 in
theorem fl_X2_32 : Cond.fieldLink RX2 32 RX2 "cold" "LHostageRound$Row;" ∈ WT := mWT 108 rfl rfl
set_option maxRecDepth 100000 in
theorem fl_X6_83 : Cond.fieldLink RX6 83 RX2 "cold" "LHostageRound$Row;" ∈ WT := mWT 109 rfl rfl
set_option maxRecDepth 100000 in
theorem fl_X2_35 : Cond.fieldLink RX2 35 RX2 "sightName" "LHostageRound$Row;" ∈ WT := mWT 110 rfl rfl
set_option maxRecDepth 100000 in
theorem fl_X0_69 : Cond.fieldLink RX0 69 RX2 "sightName" "LHostageRound$Row;" ∈ WT := mWT 111 rfl rfl
set_option maxRecDepth 100000 in
theorem fl_X6_187 : Cond.fieldLink RX6 187 RX2 "sightName" "LHostageRound$Row;" ∈ WT := mWT 112 rfl rfl
set_option maxRecDepth 100000 in
theorem fl_X2_38 : Cond.fieldLink RX2 38 RX2 "sightCoughed" "LHostageRound$Row;" ∈ WT := mWT 113 rfl rfl
set_option maxRecDepth 100000 in
theorem fl_X0_72 : Cond.fieldLink RX0 72 RX2 "sightCoughed" "LHostageRound$Row;" ∈ WT := mWT 114 rfl rfl
set_option maxRecDepth 100000 in
theorem fl_X6_190 : Cond.fieldLink RX6 190 RX2 "sightCoughed" "LHostageRound$Row;" ∈ WT := mWT 115 rfl rfl
set_option maxRecDepth 100000 in
theorem cl_X6_25 : Cond.classLink RX6 25 RX3 ∈ WT := mWT 147 rfl rfl
set_option maxRecDepth 100000 in
theorem ml_X6_27 : Cond.methodLink RX6 27 yX3_init ∈ WT := mWT 148 rfl rfl
set_option maxRecDepth 100000 in
theorem cl_X6_34 : Cond.classLink RX6 34 RX1 ∈ WT := mWT 149 rfl rfl
set_option maxRecDepth 100000 in
theorem isb_X1 : Cond.instantiable RX1 2 ∈ WT := mWT 150 rfl rfl
set_option maxRecDepth 100000 in
theorem im_X1_init : Cond.instanceMethod yX1_init ∈ WT := mWT 152 rfl rfl
set_option maxRecDepth 100000 in
theorem cd_X1_init : Cond.code yX1_init cX1_init 1 none ∈ WT := mWT 153 rfl rfl
set_option maxRecDepth 100000 in
theorem ml_X1_3 : Cond.methodLink RX1 3 objectInit ∈ WT := mWT 154 rfl rfl
set_option maxRecDepth 100000 in
theorem cl_X1_9 : Cond.classLink RX1 9 RX3 ∈ WT := mWT 155 rfl rfl
set_option maxRecDepth 100000 in
theorem ml_X1_11 : Cond.methodLink RX1 11 yX3_init ∈ WT := mWT 156 rfl rfl
set_option maxRecDepth 100000 in
theorem fl_X1_14 : Cond.fieldLink RX1 14 RX1 "text" "LHostageRound$Row;" ∈ WT := mWT 157 rfl rfl
set_option maxRecDepth 100000 in
theorem fl_X5_39 : Cond.fieldLink RX5 39 RX1 "text" "LHostageRound$Row;" ∈ WT := mWT 158 rfl rfl
set_option maxRecDepth 100000 in
theorem fl_X1_20 : Cond.fieldLink RX1 20 RX1 "signs" "I" ∈ WT := mWT 159 rfl rfl
set_option maxRecDepth 100000 in
theorem fl_X5_34 : Cond.fieldLink RX5 34 RX1 "signs" "I" ∈ WT := mWT 160 rfl rfl
set_option maxRecDepth 100000 in
theorem fl_X6_97 : Cond.fieldLink RX6 97 RX1 "signs" "I" ∈ WT := mWT 161 rfl rfl
set_option maxRecDepth 100000 in
theorem cl_X6_41 : Cond.classLink RX6 41 RX5 ∈ WT := mWT 167 rfl rfl
set_option maxRecDepth 100000 in
theorem isb_X5 : Cond.instantiable RX5 2 ∈ WT := mWT 168 rfl rfl
set_option maxRecDepth 100000 in
theorem im_X5_init : Cond.instanceMethod yX5_init ∈ WT := mWT 170 rfl rfl
set_option maxRecDepth 100000 in
theorem cd_X5_init : Cond.code yX5_init cX5_init 1 none ∈ WT := mWT 171 rfl rfl
set_option maxRecDepth 100000 in
theorem ml_X5_3 : Cond.methodLink RX5 3 objectInit ∈ WT := mWT 172 rfl rfl
set_option maxRecDepth 100000 in
theorem fl_X5_25 : Cond.fieldLink RX5 25 RX5 "acts" "I" ∈ WT := mWT 173 rfl rfl
set_option maxRecDepth 100000 in
theorem fl_X6_114 : Cond.fieldLink RX6 114 RX5 "acts" "I" ∈ WT := mWT 174 rfl rfl
set_option maxRecDepth 100000 in
theorem fl_X5_31 : Cond.fieldLink RX5 31 RX5 "why" "I" ∈ WT := mWT 175 rfl rfl
set_option maxRecDepth 100000 in
theorem fl_X6_117 : Cond.fieldLink RX6 117 RX5 "why" "I" ∈ WT := mWT 176 rfl rfl
set_option maxRecDepth 100000 in
theorem cl_X6_48 : Cond.classLink RX6 48 RX0 ∈ WT := mWT 182 rfl rfl
set_option maxRecDepth 100000 in
theorem isb_X0 : Cond.instantiable RX0 7 ∈ WT := mWT 183 rfl rfl
set_option maxRecDepth 100000 in
theorem im_X0_init : Cond.instanceMethod yX0_init ∈ WT := mWT 185 rfl rfl
set_option maxRecDepth 100000 in
theorem cd_X0_init : Cond.code yX0_init cX0_init 1 none ∈ WT := mWT 186 rfl rfl
set_option maxRecDepth 100000 in
theorem ml_X0_3 : Cond.methodLink RX0 3 objectInit ∈ WT := mWT 187 rfl rfl
set_option maxRecDepth 100000 in
theorem cl_X0_9 : Cond.classLink RX0 9 RX3 ∈ WT := mWT 188 rfl rfl
set_option maxRecDepth 100000 in
theorem ml_X0_11 : Cond.methodLink RX0 11 yX3_init ∈ WT := mWT 189 rfl rfl
set_option maxRecDepth 100000 in
theorem fl_X0_14 : Cond.fieldLink RX0 14 RX0 "wants" "LHostageRound$Row;" ∈ WT := mWT 190 rfl rfl
set_option maxRecDepth 100000 in
theorem fl_X0_20 : Cond.fieldLink RX0 20 RX0 "openNames" "I" ∈ WT := mWT 191 rfl rfl
set_option maxRecDepth 100000 in
theorem fl_X0_24 : Cond.fieldLink RX0 24 RX0 "coughing" "I" ∈ WT := mWT 192 rfl rfl
set_option maxRecDepth 100000 in
theorem fl_X0_27 : Cond.fieldLink RX0 27 RX0 "quiet" "I" ∈ WT := mWT 193 rfl rfl
set_option maxRecDepth 100000 in
theorem fl_X0_30 : Cond.fieldLink RX0 30 RX0 "wantCough" "I" ∈ WT := mWT 194 rfl rfl
set_option maxRecDepth 100000 in
theorem fl_X0_33 : Cond.fieldLink RX0 33 RX0 "wantQuiet" "I" ∈ WT := mWT 195 rfl rfl
set_option maxRecDepth 100000 in
theorem fl_X0_36 : Cond.fieldLink RX0 36 RX0 "nothingFits" "Z" ∈ WT := mWT 196 rfl rfl
set_option maxRecDepth 100000 in
theorem cl_X6_55 : Cond.classLink RX6 55 RX4 ∈ WT := mWT 212 rfl rfl
set_option maxRecDepth 100000 in
theorem isb_X4 : Cond.instantiable RX4 2 ∈ WT := mWT 213 rfl rfl
set_option maxRecDepth 100000 in
theorem im_X4_init : Cond.instanceMethod yX4_init ∈ WT := mWT 215 rfl rfl
set_option maxRecDepth 100000 in
theorem cd_X4_init : Cond.code yX4_init cX4_init 1 none ∈ WT := mWT 216 rfl rfl
set_option maxRecDepth 100000 in
theorem ml_X4_3 : Cond.methodLink RX4 3 objectInit ∈ WT := mWT 217 rfl rfl
set_option maxRecDepth 100000 in
theorem cl_X4_9 : Cond.classLink RX4 9 RX3 ∈ WT := mWT 218 rfl rfl
set_option maxRecDepth 100000 in
theorem ml_X4_11 : Cond.methodLink RX4 11 yX3_init ∈ WT := mWT 219 rfl rfl
set_option maxRecDepth 100000 in
theorem fl_X4_14 : Cond.fieldLink RX4 14 RX4 "mates" "LHostageRound$Row;" ∈ WT := mWT 220 rfl rfl
set_option maxRecDepth 100000 in
theorem fl_X4_20 : Cond.fieldLink RX4 20 RX4 "twosOf" "LHostageRound$Row;" ∈ WT := mWT 221 rfl rfl
set_option maxRecDepth 100000 in
theorem ml_X6_66 : Cond.methodLink RX6 66 yX2_startAnew ∈ WT := mWT 227 rfl rfl
set_option maxRecDepth 100000 in
theorem im_X2_startAnew : Cond.instanceMethod yX2_startAnew ∈ WT := mWT 228 rfl rfl
set_option maxRecDepth 100000 in
theorem se_X2_startAnew : Cond.selects RX2 yX2_startAnew yX2_startAnew ∈ WT := mWT 229 rfl rfl
set_option maxRecDepth 100000 in
theorem cd_X2_startAnew : Cond.code yX2_startAnew cX2_startAnew 3 none ∈ WT := mWT 230 rfl rfl
set_option maxRecDepth 100000 in
theorem ml_X2_60 : Cond.methodLink RX2 60 yX3_fill ∈ WT := mWT 231 rfl rfl
set_option maxRecDepth 100000 in
theorem im_X3_fill : Cond.instanceMethod yX3_fill ∈ WT := mWT 232 rfl rfl
set_option maxRecDepth 100000 in
theorem se_X3_fill : Cond.selects RX3 yX3_fill yX3_fill ∈ WT := mWT 233 rfl rfl
set_option maxRecDepth 100000 in
theorem cd_X3_fill : Cond.code yX3_fill cX3_fill 3 none ∈ WT := mWT 234 rfl rfl
set_option maxRecDepth 100000 in
theorem ml_X2_63 : Cond.methodLink RX2 63 yX3_put ∈ WT := mWT 235 rfl rfl
set_option maxRecDepth 100000 in
theorem im_X3_put : Cond.instanceMethod yX3_put ∈ WT := mWT 236 rfl rfl
set_option maxRecDepth 100000 in
theorem se_X3_put : Cond.selects RX3 yX3_put yX3_put ∈ WT := mWT 237 rfl rfl
set_option maxRecDepth 100000 in
theorem cd_X3_put : Cond.code yX3_put cX3_put 3 none ∈ WT := mWT 238 rfl rfl
set_option maxRecDepth 100000 in
theorem fl_X6_10 : Cond.fieldLink RX6 10 RX6 "now" "LHostageRound$Round;" ∈ WT := mWT 239 rfl rfl
set_option maxRecDepth 100000 in
theorem fl_X6_16 : Cond.fieldLink RX6 16 RX6 "tried" "LHostageRound$Round;" ∈ WT := mWT 240 rfl rfl
set_option maxRecDepth 100000 in
theorem fl_X6_19 : Cond.fieldLink RX6 19 RX6 "firstImage" "LHostageRound$Round;" ∈ WT := mWT 241 rfl rfl
set_option maxRecDepth 100000 in
theorem fl_X6_22 : Cond.fieldLink RX6 22 RX6 "secondImage" "LHostageRound$Round;" ∈ WT := mWT 242 rfl rfl
set_option maxRecDepth 100000 in
theorem fl_X6_30 : Cond.fieldLink RX6 30 RX6 "kept" "LHostageRound$Row;" ∈ WT := mWT 243 rfl rfl
set_option maxRecDepth 100000 in
theorem fl_X6_37 : Cond.fieldLink RX6 37 RX6 "pad" "LHostageRound$Pad;" ∈ WT := mWT 244 rfl rfl
set_option maxRecDepth 100000 in
theorem fl_X6_44 : Cond.fieldLink RX6 44 RX6 "years" "LHostageRound$Years;" ∈ WT := mWT 245 rfl rfl
set_option maxRecDepth 100000 in
theorem fl_X6_51 : Cond.fieldLink RX6 51 RX6 "deal" "LHostageRound$Deal;" ∈ WT := mWT 246 rfl rfl
set_option maxRecDepth 100000 in
theorem fl_X6_58 : Cond.fieldLink RX6 58 RX6 "weddings" "LHostageRound$Weddings;" ∈ WT := mWT 247 rfl rfl
set_option maxRecDepth 100000 in
theorem ml_L_13 : Cond.methodLink RL 13 yX6_lands ∈ WT := mWT 267 rfl rfl
set_option maxRecDepth 100000 in
theorem im_X6_lands : Cond.instanceMethod yX6_lands ∈ WT := mWT 268 rfl rfl
set_option maxRecDepth 100000 in
theorem se_X6_lands : Cond.selects RX6 yX6_lands yX6_lands ∈ WT := mWT 269 rfl rfl
set_option maxRecDepth 100000 in
theorem cd_X6_lands : Cond.code yX6_lands cX6_lands 3 (some .int) ∈ WT := mWT 270 rfl rfl
set_option maxRecDepth 100000 in
theorem ml_X6_69 : Cond.methodLink RX6 69 yX6_within ∈ WT := mWT 271 rfl rfl
set_option maxRecDepth 100000 in
theorem st_X6_within : Cond.static yX6_within ∈ WT := mWT 272 rfl rfl
set_option maxRecDepth 100000 in
theorem cd_X6_within : Cond.code yX6_within cX6_within 3 (some .boolean) ∈ WT := mWT 273 rfl rfl
set_option maxRecDepth 100000 in
theorem ml_L_18 : Cond.methodLink RL 18 yX6_season ∈ WT := mWT 274 rfl rfl
set_option maxRecDepth 100000 in
theorem im_X6_season : Cond.instanceMethod yX6_season ∈ WT := mWT 275 rfl rfl
set_option maxRecDepth 100000 in
theorem se_X6_season : Cond.selects RX6 yX6_season yX6_season ∈ WT := mWT 276 rfl rfl
set_option maxRecDepth 100000 in
theorem cd_X6_season : Cond.code yX6_season cX6_season 3 (some .int) ∈ WT := mWT 277 rfl rfl
set_option maxRecDepth 100000 in
theorem ml_L_22 : Cond.methodLink RL 22 yX6_set ∈ WT := mWT 278 rfl rfl
set_option maxRecDepth 100000 in
theorem im_X6_set : Cond.instanceMethod yX6_set ∈ WT := mWT 279 rfl rfl
set_option maxRecDepth 100000 in
theorem se_X6_set : Cond.selects RX6 yX6_set yX6_set ∈ WT := mWT 280 rfl rfl
set_option maxRecDepth 100000 in
theorem cd_X6_set : Cond.code yX6_set cX6_set 6 (some .int) ∈ WT := mWT 281 rfl rfl
set_option maxRecDepth 100000 in
theorem ml_X6_79 : Cond.methodLink RX6 79 yX2_has ∈ WT := mWT 282 rfl rfl
set_option maxRecDepth 100000 in
theorem im_X2_has : Cond.instanceMethod yX2_has ∈ WT := mWT 283 rfl rfl
set_option maxRecDepth 100000 in
theorem se_X2_has : Cond.selects RX2 yX2_has yX2_has ∈ WT := mWT 284 rfl rfl
set_option maxRecDepth 100000 in
theorem cd_X2_has : Cond.code yX2_has cX2_has 2 (some .boolean) ∈ WT := mWT 285 rfl rfl
set_option maxRecDepth 100000 in
theorem ml_X6_89 : Cond.methodLink RX6 89 yX3_get ∈ WT := mWT 286 rfl rfl
set_option maxRecDepth 100000 in
theorem im_X3_get : Cond.instanceMethod yX3_get ∈ WT := mWT 287 rfl rfl
set_option maxRecDepth 100000 in
theorem se_X3_get : Cond.selects RX3 yX3_get yX3_get ∈ WT := mWT 288 rfl rfl
set_option maxRecDepth 100000 in
theorem cd_X3_get : Cond.code yX3_get cX3_get 2 (some .int) ∈ WT := mWT 289 rfl rfl
set_option maxRecDepth 100000 in
theorem ml_X6_93 : Cond.methodLink RX6 93 yX3_put ∈ WT := mWT 290 rfl rfl
set_option maxRecDepth 100000 in
theorem ml_L_27 : Cond.methodLink RL 27 yX6_say ∈ WT := mWT 291 rfl rfl
set_option maxRecDepth 100000 in
theorem im_X6_say : Cond.instanceMethod yX6_say ∈ WT := mWT 292 rfl rfl
set_option maxRecDepth 100000 in
theorem se_X6_say : Cond.selects RX6 yX6_say yX6_say ∈ WT := mWT 293 rfl rfl
set_option maxRecDepth 100000 in
theorem cd_X6_say : Cond.code yX6_say cX6_say 2 (some .int) ∈ WT := mWT 294 rfl rfl
set_option maxRecDepth 100000 in
theorem ml_X6_100 : Cond.methodLink RX6 100 yX1_add ∈ WT := mWT 295 rfl rfl
set_option maxRecDepth 100000 in
theorem im_X1_add : Cond.instanceMethod yX1_add ∈ WT := mWT 296 rfl rfl
set_option maxRecDepth 100000 in
theorem se_X1_add : Cond.selects RX1 yX1_add yX1_add ∈ WT := mWT 297 rfl rfl
set_option maxRecDepth 100000 in
theorem cd_X1_add : Cond.code yX1_add cX1_add 2 (some .int) ∈ WT := mWT 298 rfl rfl
set_option maxRecDepth 100000 in
theorem ml_X1_24 : Cond.methodLink RX1 24 yX3_put ∈ WT := mWT 299 rfl rfl
set_option maxRecDepth 100000 in
theorem ml_L_31 : Cond.methodLink RL 31 yX6_wipe ∈ WT := mWT 300 rfl rfl
set_option maxRecDepth 100000 in
theorem im_X6_wipe : Cond.instanceMethod yX6_wipe ∈ WT := mWT 301 rfl rfl
set_option maxRecDepth 100000 in
theorem se_X6_wipe : Cond.selects RX6 yX6_wipe yX6_wipe ∈ WT := mWT 302 rfl rfl
set_option maxRecDepth 100000 in
theorem cd_X6_wipe : Cond.code yX6_wipe cX6_wipe 1 (some .int) ∈ WT := mWT 303 rfl rfl
set_option maxRecDepth 100000 in
theorem ml_X6_103 : Cond.methodLink RX6 103 yX1_clear ∈ WT := mWT 304 rfl rfl
set_option maxRecDepth 100000 in
theorem im_X1_clear : Cond.instanceMethod yX1_clear ∈ WT := mWT 305 rfl rfl
set_option maxRecDepth 100000 in
theorem se_X1_clear : Cond.selects RX1 yX1_clear yX1_clear ∈ WT := mWT 306 rfl rfl
set_option maxRecDepth 100000 in
theorem cd_X1_clear : Cond.code yX1_clear cX1_clear 2 (some .int) ∈ WT := mWT 307 rfl rfl
set_option maxRecDepth 100000 in
theorem ml_L_36 : Cond.methodLink RL 36 yX6_fault ∈ WT := mWT 308 rfl rfl
set_option maxRecDepth 100000 in
theorem im_X6_fault : Cond.instanceMethod yX6_fault ∈ WT := mWT 309 rfl rfl
set_option maxRecDepth 100000 in
theorem se_X6_fault : Cond.selects RX6 yX6_fault yX6_fault ∈ WT := mWT 310 rfl rfl
set_option maxRecDepth 100000 in
theorem cd_X6_fault : Cond.code yX6_fault cX6_fault 1 (some .int) ∈ WT := mWT 311 rfl rfl
set_option maxRecDepth 100000 in
theorem ml_X6_107 : Cond.methodLink RX6 107 yX1_firstFault ∈ WT := mWT 312 rfl rfl
set_option maxRecDepth 100000 in
theorem im_X1_firstFault : Cond.instanceMethod yX1_firstFault ∈ WT := mWT 313 rfl rfl
set_option maxRecDepth 100000 in
theorem se_X1_firstFault : Cond.selects RX1 yX1_firstFault yX1_firstFault ∈ WT := mWT 314 rfl rfl
set_option maxRecDepth 100000 in
theorem cd_X1_firstFault : Cond.code yX1_firstFault cX1_firstFault 4 (some .int) ∈ WT := mWT 315 rfl rfl
set_option maxRecDepth 100000 in
theorem ml_X1_28 : Cond.methodLink RX1 28 yX3_get ∈ WT := mWT 316 rfl rfl
set_option maxRecDepth 100000 in
theorem ml_X1_32 : Cond.methodLink RX1 32 yX1_isTime ∈ WT := mWT 317 rfl rfl
set_option maxRecDepth 100000 in
theorem st_X1_isTime : Cond.static yX1_isTime ∈ WT := mWT 318 rfl rfl
set_option maxRecDepth 100000 in
theorem cd_X1_isTime : Cond.code yX1_isTime cX1_isTime 1 (some .boolean) ∈ WT := mWT 319 rfl rfl
set_option maxRecDepth 100000 in
theorem ml_X1_36 : Cond.methodLink RX1 36 yX1_isChild ∈ WT := mWT 320 rfl rfl
set_option maxRecDepth 100000 in
theorem st_X1_isChild : Cond.static yX1_isChild ∈ WT := mWT 321 rfl rfl
set_option maxRecDepth 100000 in
theorem cd_X1_isChild : Cond.code yX1_isChild cX1_isChild 2 (some .boolean) ∈ WT := mWT 322 rfl rfl
set_option maxRecDepth 100000 in
theorem ml_X1_40 : Cond.methodLink RX1 40 yX1_isFate ∈ WT := mWT 323 rfl rfl
set_option maxRecDepth 100000 in
theorem st_X1_isFate : Cond.static yX1_isFate ∈ WT := mWT 324 rfl rfl
set_option maxRecDepth 100000 in
theorem cd_X1_isFate : Cond.code yX1_isFate cX1_isFate 1 (some .boolean) ∈ WT := mWT 325 rfl rfl
set_option maxRecDepth 100000 in
theorem ml_L_40 : Cond.methodLink RL 40 yX6_judge ∈ WT := mWT 326 rfl rfl
set_option maxRecDepth 100000 in
theorem im_X6_judge : Cond.instanceMethod yX6_judge ∈ WT := mWT 327 rfl rfl
set_option maxRecDepth 100000 in
theorem se_X6_judge : Cond.selects RX6 yX6_judge yX6_judge ∈ WT := mWT 328 rfl rfl
set_option maxRecDepth 100000 in
theorem cd_X6_judge : Cond.code yX6_judge cX6_judge 2 (some .int) ∈ WT := mWT 329 rfl rfl
set_option maxRecDepth 100000 in
theorem ml_X6_110 : Cond.methodLink RX6 110 yX5_canBe ∈ WT := mWT 330 rfl rfl
set_option maxRecDepth 100000 in
theorem im_X5_canBe : Cond.instanceMethod yX5_canBe ∈ WT := mWT 331 rfl rfl
set_option maxRecDepth 100000 in
theorem se_X5_canBe : Cond.selects RX5 yX5_canBe yX5_canBe ∈ WT := mWT 332 rfl rfl
set_option maxRecDepth 100000 in
theorem cd_X5_canBe : Cond.code yX5_canBe cX5_canBe 6 (some .boolean) ∈ WT := mWT 333 rfl rfl
set_option maxRecDepth 100000 in
theorem ml_X5_9 : Cond.methodLink RX5 9 yX2_takeOver ∈ WT := mWT 334 rfl rfl
set_option maxRecDepth 100000 in
theorem im_X2_takeOver : Cond.instanceMethod yX2_takeOver ∈ WT := mWT 335 rfl rfl
set_option maxRecDepth 100000 in
theorem se_X2_takeOver : Cond.selects RX2 yX2_takeOver yX2_takeOver ∈ WT := mWT 336 rfl rfl
set_option maxRecDepth 100000 in
theorem cd_X2_takeOver : Cond.code yX2_takeOver cX2_takeOver 2 none ∈ WT := mWT 337 rfl rfl
set_option maxRecDepth 100000 in
theorem ml_X2_70 : Cond.methodLink RX2 70 yX3_takeOver ∈ WT := mWT 338 rfl rfl
set_option maxRecDepth 100000 in
theorem im_X3_takeOver : Cond.instanceMethod yX3_takeOver ∈ WT := mWT 339 rfl rfl
set_option maxRecDepth 100000 in
theorem se_X3_takeOver : Cond.selects RX3 yX3_takeOver yX3_takeOver ∈ WT := mWT 340 rfl rfl
set_option maxRecDepth 100000 in
theorem cd_X3_takeOver : Cond.code yX3_takeOver cX3_takeOver 3 none ∈ WT := mWT 341 rfl rfl
set_option maxRecDepth 100000 in
theorem ml_X3_13 : Cond.methodLink RX3 13 yX3_get ∈ WT := mWT 342 rfl rfl
set_option maxRecDepth 100000 in
theorem ml_X5_19 : Cond.methodLink RX5 19 yX3_fill ∈ WT := mWT 343 rfl rfl
set_option maxRecDepth 100000 in
theorem ml_X5_42 : Cond.methodLink RX5 42 yX3_get ∈ WT := mWT 344 rfl rfl
set_option maxRecDepth 100000 in
theorem ml_X5_46 : Cond.methodLink RX5 46 yX1_isTime ∈ WT := mWT 345 rfl rfl
set_option maxRecDepth 100000 in
theorem ml_X5_50 : Cond.methodLink RX5 50 yX5_passTime ∈ WT := mWT 346 rfl rfl
set_option maxRecDepth 100000 in
theorem st_X5_passTime : Cond.static yX5_passTime ∈ WT := mWT 347 rfl rfl
set_option maxRecDepth 100000 in
theorem cd_X5_passTime : Cond.code yX5_passTime cX5_passTime 2 none ∈ WT := mWT 348 rfl rfl
set_option maxRecDepth 100000 in
theorem ml_X5_58 : Cond.methodLink RX5 58 yX2_passDays ∈ WT := mWT 349 rfl rfl
set_option maxRecDepth 100000 in
theorem im_X2_passDays : Cond.instanceMethod yX2_passDays ∈ WT := mWT 350 rfl rfl
set_option maxRecDepth 100000 in
theorem se_X2_passDays : Cond.selects RX2 yX2_passDays yX2_passDays ∈ WT := mWT 351 rfl rfl
set_option maxRecDepth 100000 in
theorem cd_X2_passDays : Cond.code yX2_passDays cX2_passDays 3 none ∈ WT := mWT 352 rfl rfl
set_option maxRecDepth 100000 in
theorem ml_X2_88 : Cond.methodLink RX2 88 yX2_passEquinox ∈ WT := mWT 353 rfl rfl
set_option maxRecDepth 100000 in
theorem im_X2_passEquinox : Cond.instanceMethod yX2_passEquinox ∈ WT := mWT 355 rfl rfl
set_option maxRecDepth 100000 in
theorem cd_X2_passEquinox : Cond.code yX2_passEquinox cX2_passEquinox 2 none ∈ WT := mWT 356 rfl rfl
set_option maxRecDepth 100000 in
theorem ml_X2_78 : Cond.methodLink RX2 78 yX3_get ∈ WT := mWT 357 rfl rfl
set_option maxRecDepth 100000 in
theorem ml_X2_82 : Cond.methodLink RX2 82 yX2_lives ∈ WT := mWT 358 rfl rfl
set_option maxRecDepth 100000 in
theorem im_X2_lives : Cond.instanceMethod yX2_lives ∈ WT := mWT 359 rfl rfl
set_option maxRecDepth 100000 in
theorem se_X2_lives : Cond.selects RX2 yX2_lives yX2_lives ∈ WT := mWT 360 rfl rfl
set_option maxRecDepth 100000 in
theorem cd_X2_lives : Cond.code yX2_lives cX2_lives 2 (some .boolean) ∈ WT := mWT 361 rfl rfl
set_option maxRecDepth 100000 in
theorem st_X6_leftOver : Cond.static yX6_leftOver ∈ WT := mWT 363 rfl rfl
set_option maxRecDepth 100000 in
theorem cd_X6_leftOver : Cond.code yX6_leftOver cX6_leftOver 3 (some .int) ∈ WT := mWT 364 rfl rfl
set_option maxRecDepth 100000 in
theorem ml_X5_61 : Cond.methodLink RX5 61 yX2_passSeason ∈ WT := mWT 365 rfl rfl
set_option maxRecDepth 100000 in
theorem im_X2_passSeason : Cond.instanceMethod yX2_passSeason ∈ WT := mWT 366 rfl rfl
set_option maxRecDepth 100000 in
theorem se_X2_passSeason : Cond.selects RX2 yX2_passSeason yX2_passSeason ∈ WT := mWT 367 rfl rfl
set_option maxRecDepth 100000 in
theorem cd_X2_passSeason : Cond.code yX2_passSeason cX2_passSeason 1 none ∈ WT := mWT 368 rfl rfl
set_option maxRecDepth 100000 in
theorem ml_X5_54 : Cond.methodLink RX5 54 yX5_befall ∈ WT := mWT 369 rfl rfl
set_option maxRecDepth 100000 in
theorem st_X5_befall : Cond.static yX5_befall ∈ WT := mWT 370 rfl rfl
set_option maxRecDepth 100000 in
theorem cd_X5_befall : Cond.code yX5_befall cX5_befall 3 (some .int) ∈ WT := mWT 371 rfl rfl
set_option maxRecDepth 100000 in
theorem ml_X5_64 : Cond.methodLink RX5 64 yX2_die ∈ WT := mWT 372 rfl rfl
set_option maxRecDepth 100000 in
theorem im_X2_die : Cond.instanceMethod yX2_die ∈ WT := mWT 373 rfl rfl
set_option maxRecDepth 100000 in
theorem se_X2_die : Cond.selects RX2 yX2_die yX2_die ∈ WT := mWT 374 rfl rfl
set_option maxRecDepth 100000 in
theorem cd_X2_die : Cond.code yX2_die cX2_die 2 (some .int) ∈ WT := mWT 375 rfl rfl
set_option maxRecDepth 100000 in
theorem ml_X5_67 : Cond.methodLink RX5 67 yX2_bind ∈ WT := mWT 376 rfl rfl
set_option maxRecDepth 100000 in
theorem im_X2_bind : Cond.instanceMethod yX2_bind ∈ WT := mWT 377 rfl rfl
set_option maxRecDepth 100000 in
theorem se_X2_bind : Cond.selects RX2 yX2_bind yX2_bind ∈ WT := mWT 378 rfl rfl
set_option maxRecDepth 100000 in
theorem cd_X2_bind : Cond.code yX2_bind cX2_bind 3 (some .int) ∈ WT := mWT 379 rfl rfl
set_option maxRecDepth 100000 in
theorem ml_X5_71 : Cond.methodLink RX5 71 yX2_changeHats ∈ WT := mWT 380 rfl rfl
set_option maxRecDepth 100000 in
theorem im_X2_changeHats : Cond.instanceMethod yX2_changeHats ∈ WT := mWT 381 rfl rfl
set_option maxRecDepth 100000 in
theorem se_X2_changeHats : Cond.selects RX2 yX2_changeHats yX2_changeHats ∈ WT := mWT 382 rfl rfl
set_option maxRecDepth 100000 in
theorem cd_X2_changeHats : Cond.code yX2_changeHats cX2_changeHats 3 (some .int) ∈ WT := mWT 383 rfl rfl
set_option maxRecDepth 100000 in
theorem ml_X2_85 : Cond.methodLink RX2 85 yX2_swapNames ∈ WT := mWT 384 rfl rfl
set_option maxRecDepth 100000 in
theorem im_X2_swapNames : Cond.instanceMethod yX2_swapNames ∈ WT := mWT 385 rfl rfl
set_option maxRecDepth 100000 in
theorem se_X2_swapNames : Cond.selects RX2 yX2_swapNames yX2_swapNames ∈ WT := mWT 386 rfl rfl
set_option maxRecDepth 100000 in
theorem cd_X2_swapNames : Cond.code yX2_swapNames cX2_swapNames 4 none ∈ WT := mWT 387 rfl rfl
set_option maxRecDepth 100000 in
theorem ml_L_44 : Cond.methodLink RL 44 yX6_done ∈ WT := mWT 388 rfl rfl
set_option maxRecDepth 100000 in
theorem im_X6_done : Cond.instanceMethod yX6_done ∈ WT := mWT 389 rfl rfl
set_option maxRecDepth 100000 in
theorem se_X6_done : Cond.selects RX6 yX6_done yX6_done ∈ WT := mWT 390 rfl rfl
set_option maxRecDepth 100000 in
theorem cd_X6_done : Cond.code yX6_done cX6_done 1 (some .int) ∈ WT := mWT 391 rfl rfl
set_option maxRecDepth 100000 in
theorem ml_X6_120 : Cond.methodLink RX6 120 yX6_yearsCanBe ∈ WT := mWT 392 rfl rfl
set_option maxRecDepth 100000 in
theorem im_X6_yearsCanBe : Cond.instanceMethod yX6_yearsCanBe ∈ WT := mWT 394 rfl rfl
set_option maxRecDepth 100000 in
theorem cd_X6_yearsCanBe : Cond.code yX6_yearsCanBe cX6_yearsCanBe 1 (some .boolean) ∈ WT := mWT 395 rfl rfl
set_option maxRecDepth 100000 in
theorem ml_X6_124 : Cond.methodLink RX6 124 yX2_takeOver ∈ WT := mWT 396 rfl rfl
set_option maxRecDepth 100000 in
theorem ml_L_48 : Cond.methodLink RL 48 yX6_state ∈ WT := mWT 397 rfl rfl
set_option maxRecDepth 100000 in
theorem im_X6_state : Cond.instanceMethod yX6_state ∈ WT := mWT 398 rfl rfl
set_option maxRecDepth 100000 in
theorem se_X6_state : Cond.selects RX6 yX6_state yX6_state ∈ WT := mWT 399 rfl rfl
set_option maxRecDepth 100000 in
theorem cd_X6_state : Cond.code yX6_state cX6_state 3 (some .int) ∈ WT := mWT 400 rfl rfl
set_option maxRecDepth 100000 in
theorem ml_X6_128 : Cond.methodLink RX6 128 yX2_landAfter ∈ WT := mWT 401 rfl rfl
set_option maxRecDepth 100000 in
theorem im_X2_landAfter : Cond.instanceMethod yX2_landAfter ∈ WT := mWT 402 rfl rfl
set_option maxRecDepth 100000 in
theorem se_X2_landAfter : Cond.selects RX2 yX2_landAfter yX2_landAfter ∈ WT := mWT 403 rfl rfl
set_option maxRecDepth 100000 in
theorem cd_X2_landAfter : Cond.code yX2_landAfter cX2_landAfter 4 (some .int) ∈ WT := mWT 404 rfl rfl
set_option maxRecDepth 100000 in
theorem ml_X2_95 : Cond.methodLink RX2 95 yJ9_max_7cf53 ∈ WT := mWT 405 rfl rfl
set_option maxRecDepth 100000 in
theorem st_J9_max_7cf53 : Cond.static yJ9_max_7cf53 ∈ WT := mWT 406 rfl rfl
set_option maxRecDepth 100000 in
theorem cd_J9_max_7cf53 : Cond.code yJ9_max_7cf53 cJ9_max_7cf53 2 (some .int) ∈ WT := mWT 407 rfl rfl
set_option maxRecDepth 100000 in
theorem ml_L_53 : Cond.methodLink RL 53 yX6_behind ∈ WT := mWT 408 rfl rfl
set_option maxRecDepth 100000 in
theorem im_X6_behind : Cond.instanceMethod yX6_behind ∈ WT := mWT 409 rfl rfl
set_option maxRecDepth 100000 in
theorem se_X6_behind : Cond.selects RX6 yX6_behind yX6_behind ∈ WT := mWT 410 rfl rfl
set_option maxRecDepth 100000 in
theorem cd_X6_behind : Cond.code yX6_behind cX6_behind 3 (some .int) ∈ WT := mWT 411 rfl rfl
set_option maxRecDepth 100000 in
theorem ml_L_57 : Cond.methodLink RL 57 yX6_day ∈ WT := mWT 412 rfl rfl
set_option maxRecDepth 100000 in
theorem im_X6_day : Cond.instanceMethod yX6_day ∈ WT := mWT 413 rfl rfl
set_option maxRecDepth 100000 in
theorem se_X6_day : Cond.selects RX6 yX6_day yX6_day ∈ WT := mWT 414 rfl rfl
set_option maxRecDepth 100000 in
theorem cd_X6_day : Cond.code yX6_day cX6_day 1 (some .int) ∈ WT := mWT 415 rfl rfl
set_option maxRecDepth 100000 in
theorem ml_L_61 : Cond.methodLink RL 61 yX6_where ∈ WT := mWT 416 rfl rfl
set_option maxRecDepth 100000 in
theorem im_X6_where : Cond.instanceMethod yX6_where ∈ WT := mWT 417 rfl rfl
set_option maxRecDepth 100000 in
theorem se_X6_where : Cond.selects RX6 yX6_where yX6_where ∈ WT := mWT 418 rfl rfl
set_option maxRecDepth 100000 in
theorem cd_X6_where : Cond.code yX6_where cX6_where 3 (some .int) ∈ WT := mWT 419 rfl rfl
set_option maxRecDepth 100000 in
theorem ml_X6_144 : Cond.methodLink RX6 144 yX2_equinoxesTill ∈ WT := mWT 420 rfl rfl
set_option maxRecDepth 100000 in
theorem im_X2_equinoxesTill : Cond.instanceMethod yX2_equinoxesTill ∈ WT := mWT 421 rfl rfl
set_option maxRecDepth 100000 in
theorem se_X2_equinoxesTill : Cond.selects RX2 yX2_equinoxesTill yX2_equinoxesTill ∈ WT := mWT 422 rfl rfl
set_option maxRecDepth 100000 in
theorem cd_X2_equinoxesTill : Cond.code yX2_equinoxesTill cX2_equinoxesTill 2 (some .int) ∈ WT := mWT 423 rfl rfl
set_option maxRecDepth 100000 in
theorem st_X6_cut : Cond.static yX6_cut ∈ WT := mWT 425 rfl rfl
set_option maxRecDepth 100000 in
theorem cd_X6_cut : Cond.code yX6_cut cX6_cut 2 (some .int) ∈ WT := mWT 426 rfl rfl
set_option maxRecDepth 100000 in
theorem ml_L_65 : Cond.methodLink RL 65 yX6_who ∈ WT := mWT 427 rfl rfl
set_option maxRecDepth 100000 in
theorem im_X6_who : Cond.instanceMethod yX6_who ∈ WT := mWT 428 rfl rfl
set_option maxRecDepth 100000 in
theorem se_X6_who : Cond.selects RX6 yX6_who yX6_who ∈ WT := mWT 429 rfl rfl
set_option maxRecDepth 100000 in
theorem cd_X6_who : Cond.code yX6_who cX6_who 3 (some .int) ∈ WT := mWT 430 rfl rfl
set_option maxRecDepth 100000 in
theorem ml_X6_147 : Cond.methodLink RX6 147 yX2_guestsAfter ∈ WT := mWT 431 rfl rfl
set_option maxRecDepth 100000 in
theorem im_X2_guestsAfter : Cond.instanceMethod yX2_guestsAfter ∈ WT := mWT 432 rfl rfl
set_option maxRecDepth 100000 in
theorem se_X2_guestsAfter : Cond.selects RX2 yX2_guestsAfter yX2_guestsAfter ∈ WT := mWT 433 rfl rfl
set_option maxRecDepth 100000 in
theorem cd_X2_guestsAfter : Cond.code yX2_guestsAfter cX2_guestsAfter 5 (some .int) ∈ WT := mWT 434 rfl rfl
set_option maxRecDepth 100000 in
theorem ml_X2_100 : Cond.methodLink RX2 100 yX2_landAfter ∈ WT := mWT 435 rfl rfl
set_option maxRecDepth 100000 in
theorem ml_L_69 : Cond.methodLink RL 69 yX6_meet ∈ WT := mWT 436 rfl rfl
set_option maxRecDepth 100000 in
theorem im_X6_meet : Cond.instanceMethod yX6_meet ∈ WT := mWT 437 rfl rfl
set_option maxRecDepth 100000 in
theorem se_X6_meet : Cond.selects RX6 yX6_meet yX6_meet ∈ WT := mWT 438 rfl rfl
set_option maxRecDepth 100000 in
theorem cd_X6_meet : Cond.code yX6_meet cX6_meet 4 (some .int) ∈ WT := mWT 439 rfl rfl
set_option maxRecDepth 100000 in
theorem ml_X6_150 : Cond.methodLink RX6 150 yX2_hasBoth ∈ WT := mWT 440 rfl rfl
set_option maxRecDepth 100000 in
theorem im_X2_hasBoth : Cond.instanceMethod yX2_hasBoth ∈ WT := mWT 441 rfl rfl
set_option maxRecDepth 100000 in
theorem se_X2_hasBoth : Cond.selects RX2 yX2_hasBoth yX2_hasBoth ∈ WT := mWT 442 rfl rfl
set_option maxRecDepth 100000 in
theorem cd_X2_hasBoth : Cond.code yX2_hasBoth cX2_hasBoth 3 (some .boolean) ∈ WT := mWT 443 rfl rfl
set_option maxRecDepth 100000 in
theorem ml_X2_74 : Cond.methodLink RX2 74 yX2_has ∈ WT := mWT 444 rfl rfl
set_option maxRecDepth 100000 in
theorem ml_X6_154 : Cond.methodLink RX6 154 yX2_shareALand ∈ WT := mWT 445 rfl rfl
set_option maxRecDepth 100000 in
theorem im_X2_shareALand : Cond.instanceMethod yX2_shareALand ∈ WT := mWT 446 rfl rfl
set_option maxRecDepth 100000 in
theorem se_X2_shareALand : Cond.selects RX2 yX2_shareALand yX2_shareALand ∈ WT := mWT 447 rfl rfl
set_option maxRecDepth 100000 in
theorem cd_X2_shareALand : Cond.code yX2_shareALand cX2_shareALand 5 (some .boolean) ∈ WT := mWT 448 rfl rfl
set_option maxRecDepth 100000 in
theorem ml_X6_157 : Cond.methodLink RX6 157 yX2_firstDayAfter ∈ WT := mWT 449 rfl rfl
set_option maxRecDepth 100000 in
theorem im_X2_firstDayAfter : Cond.instanceMethod yX2_firstDayAfter ∈ WT := mWT 450 rfl rfl
set_option maxRecDepth 100000 in
theorem se_X2_firstDayAfter : Cond.selects RX2 yX2_firstDayAfter yX2_firstDayAfter ∈ WT := mWT 451 rfl rfl
set_option maxRecDepth 100000 in
theorem cd_X2_firstDayAfter : Cond.code yX2_firstDayAfter cX2_firstDayAfter 2 (some .int) ∈ WT := mWT 452 rfl rfl
set_option maxRecDepth 100000 in
theorem ml_L_73 : Cond.methodLink RL 73 yX6_together ∈ WT := mWT 453 rfl rfl
set_option maxRecDepth 100000 in
theorem im_X6_together : Cond.instanceMethod yX6_together ∈ WT := mWT 454 rfl rfl
set_option maxRecDepth 100000 in
theorem se_X6_together : Cond.selects RX6 yX6_together yX6_together ∈ WT := mWT 455 rfl rfl
set_option maxRecDepth 100000 in
theorem cd_X6_together : Cond.code yX6_together cX6_together 6 (some .int) ∈ WT := mWT 456 rfl rfl
set_option maxRecDepth 100000 in
theorem ml_X6_160 : Cond.methodLink RX6 160 yJ9_min_7cf53 ∈ WT := mWT 457 rfl rfl
set_option maxRecDepth 100000 in
theorem st_J9_min_7cf53 : Cond.static yJ9_min_7cf53 ∈ WT := mWT 458 rfl rfl
set_option maxRecDepth 100000 in
theorem cd_J9_min_7cf53 : Cond.code yJ9_min_7cf53 cJ9_min_7cf53 2 (some .int) ∈ WT := mWT 459 rfl rfl
set_option maxRecDepth 100000 in
theorem ml_X6_165 : Cond.methodLink RX6 165 yX2_daysLikeSeason ∈ WT := mWT 460 rfl rfl
set_option maxRecDepth 100000 in
theorem im_X2_daysLikeSeason : Cond.instanceMethod yX2_daysLikeSeason ∈ WT := mWT 461 rfl rfl
set_option maxRecDepth 100000 in
theorem se_X2_daysLikeSeason : Cond.selects RX2 yX2_daysLikeSeason yX2_daysLikeSeason ∈ WT := mWT 462 rfl rfl
set_option maxRecDepth 100000 in
theorem cd_X2_daysLikeSeason : Cond.code yX2_daysLikeSeason cX2_daysLikeSeason 6 (some .int) ∈ WT := mWT 463 rfl rfl
set_option maxRecDepth 100000 in
theorem ml_X2_106 : Cond.methodLink RX2 106 yX2_firstDayAfter ∈ WT := mWT 464 rfl rfl
set_option maxRecDepth 100000 in
theorem ml_X2_109 : Cond.methodLink RX2 109 yJ9_min_7cf53 ∈ WT := mWT 465 rfl rfl
set_option maxRecDepth 100000 in
theorem ml_L_77 : Cond.methodLink RL 77 yX6_begin ∈ WT := mWT 466 rfl rfl
set_option maxRecDepth 100000 in
theorem im_X6_begin : Cond.instanceMethod yX6_begin ∈ WT := mWT 467 rfl rfl
set_option maxRecDepth 100000 in
theorem se_X6_begin : Cond.selects RX6 yX6_begin yX6_begin ∈ WT := mWT 468 rfl rfl
set_option maxRecDepth 100000 in
theorem cd_X6_begin : Cond.code yX6_begin cX6_begin 4 (some .int) ∈ WT := mWT 469 rfl rfl
set_option maxRecDepth 100000 in
theorem ml_X6_168 : Cond.methodLink RX6 168 yX2_firstWar ∈ WT := mWT 470 rfl rfl
set_option maxRecDepth 100000 in
theorem im_X2_firstWar : Cond.instanceMethod yX2_firstWar ∈ WT := mWT 471 rfl rfl
set_option maxRecDepth 100000 in
theorem se_X2_firstWar : Cond.selects RX2 yX2_firstWar yX2_firstWar ∈ WT := mWT 472 rfl rfl
set_option maxRecDepth 100000 in
theorem cd_X2_firstWar : Cond.code yX2_firstWar cX2_firstWar 6 (some .int) ∈ WT := mWT 473 rfl rfl
set_option maxRecDepth 100000 in
theorem ml_X2_115 : Cond.methodLink RX2 115 yX2_daysAway ∈ WT := mWT 474 rfl rfl
set_option maxRecDepth 100000 in
theorem im_X2_daysAway : Cond.instanceMethod yX2_daysAway ∈ WT := mWT 475 rfl rfl
set_option maxRecDepth 100000 in
theorem se_X2_daysAway : Cond.selects RX2 yX2_daysAway yX2_daysAway ∈ WT := mWT 476 rfl rfl
set_option maxRecDepth 100000 in
theorem cd_X2_daysAway : Cond.code yX2_daysAway cX2_daysAway 6 (some .int) ∈ WT := mWT 477 rfl rfl
set_option maxRecDepth 100000 in
theorem ml_X2_112 : Cond.methodLink RX2 112 yX2_equinoxesTill ∈ WT := mWT 478 rfl rfl
set_option maxRecDepth 100000 in
theorem ml_L_81 : Cond.methodLink RL 81 yX6_longest ∈ WT := mWT 479 rfl rfl
set_option maxRecDepth 100000 in
theorem im_X6_longest : Cond.instanceMethod yX6_longest ∈ WT := mWT 480 rfl rfl
set_option maxRecDepth 100000 in
theorem se_X6_longest : Cond.selects RX6 yX6_longest yX6_longest ∈ WT := mWT 481 rfl rfl
set_option maxRecDepth 100000 in
theorem cd_X6_longest : Cond.code yX6_longest cX6_longest 4 (some .int) ∈ WT := mWT 482 rfl rfl
set_option maxRecDepth 100000 in
theorem ml_X6_172 : Cond.methodLink RX6 172 yX2_daysAway ∈ WT := mWT 483 rfl rfl
set_option maxRecDepth 100000 in
theorem ml_L_85 : Cond.methodLink RL 85 yX6_struck ∈ WT := mWT 484 rfl rfl
set_option maxRecDepth 100000 in
theorem im_X6_struck : Cond.instanceMethod yX6_struck ∈ WT := mWT 485 rfl rfl
set_option maxRecDepth 100000 in
theorem se_X6_struck : Cond.selects RX6 yX6_struck yX6_struck ∈ WT := mWT 486 rfl rfl
set_option maxRecDepth 100000 in
theorem cd_X6_struck : Cond.code yX6_struck cX6_struck 6 (some .int) ∈ WT := mWT 487 rfl rfl
set_option maxRecDepth 100000 in
theorem ml_L_89 : Cond.methodLink RL 89 yX6_sure ∈ WT := mWT 488 rfl rfl
set_option maxRecDepth 100000 in
theorem im_X6_sure : Cond.instanceMethod yX6_sure ∈ WT := mWT 489 rfl rfl
set_option maxRecDepth 100000 in
theorem se_X6_sure : Cond.selects RX6 yX6_sure yX6_sure ∈ WT := mWT 490 rfl rfl
set_option maxRecDepth 100000 in
theorem cd_X6_sure : Cond.code yX6_sure cX6_sure 6 (some .int) ∈ WT := mWT 491 rfl rfl
set_option maxRecDepth 100000 in
theorem ml_L_93 : Cond.methodLink RL 93 yX6_fooled ∈ WT := mWT 492 rfl rfl
set_option maxRecDepth 100000 in
theorem im_X6_fooled : Cond.instanceMethod yX6_fooled ∈ WT := mWT 493 rfl rfl
set_option maxRecDepth 100000 in
theorem se_X6_fooled : Cond.selects RX6 yX6_fooled yX6_fooled ∈ WT := mWT 494 rfl rfl
set_option maxRecDepth 100000 in
theorem cd_X6_fooled : Cond.code yX6_fooled cX6_fooled 8 (some .int) ∈ WT := mWT 495 rfl rfl
set_option maxRecDepth 100000 in
theorem ml_X6_175 : Cond.methodLink RX6 175 yX2_bearerOf ∈ WT := mWT 496 rfl rfl
set_option maxRecDepth 100000 in
theorem im_X2_bearerOf : Cond.instanceMethod yX2_bearerOf ∈ WT := mWT 497 rfl rfl
set_option maxRecDepth 100000 in
theorem se_X2_bearerOf : Cond.selects RX2 yX2_bearerOf yX2_bearerOf ∈ WT := mWT 498 rfl rfl
set_option maxRecDepth 100000 in
theorem cd_X2_bearerOf : Cond.code yX2_bearerOf cX2_bearerOf 3 (some .int) ∈ WT := mWT 499 rfl rfl
set_option maxRecDepth 100000 in
theorem ml_L_97 : Cond.methodLink RL 97 yX6_letter ∈ WT := mWT 500 rfl rfl
set_option maxRecDepth 100000 in
theorem im_X6_letter : Cond.instanceMethod yX6_letter ∈ WT := mWT 501 rfl rfl
set_option maxRecDepth 100000 in
theorem se_X6_letter : Cond.selects RX6 yX6_letter yX6_letter ∈ WT := mWT 502 rfl rfl
set_option maxRecDepth 100000 in
theorem cd_X6_letter : Cond.code yX6_letter cX6_letter 3 (some .int) ∈ WT := mWT 503 rfl rfl
set_option maxRecDepth 100000 in
theorem ml_X6_178 : Cond.methodLink RX6 178 yX6_leftOver ∈ WT := mWT 504 rfl rfl
set_option maxRecDepth 100000 in
theorem ml_L_101 : Cond.methodLink RL 101 yX6_copy ∈ WT := mWT 505 rfl rfl
set_option maxRecDepth 100000 in
theorem im_X6_copy : Cond.instanceMethod yX6_copy ∈ WT := mWT 506 rfl rfl
set_option maxRecDepth 100000 in
theorem se_X6_copy : Cond.selects RX6 yX6_copy yX6_copy ∈ WT := mWT 507 rfl rfl
set_option maxRecDepth 100000 in
theorem cd_X6_copy : Cond.code yX6_copy cX6_copy 5 (some .int) ∈ WT := mWT 508 rfl rfl
set_option maxRecDepth 100000 in
theorem ml_L_105 : Cond.methodLink RL 105 yX6_furs ∈ WT := mWT 509 rfl rfl
set_option maxRecDepth 100000 in
theorem im_X6_furs : Cond.instanceMethod yX6_furs ∈ WT := mWT 510 rfl rfl
set_option maxRecDepth 100000 in
theorem se_X6_furs : Cond.selects RX6 yX6_furs yX6_furs ∈ WT := mWT 511 rfl rfl
set_option maxRecDepth 100000 in
theorem cd_X6_furs : Cond.code yX6_furs cX6_furs 7 (some .int) ∈ WT := mWT 512 rfl rfl
set_option maxRecDepth 100000 in
theorem ml_X6_181 : Cond.methodLink RX6 181 yX2_fursAfter ∈ WT := mWT 513 rfl rfl
set_option maxRecDepth 100000 in
theorem im_X2_fursAfter : Cond.instanceMethod yX2_fursAfter ∈ WT := mWT 514 rfl rfl
set_option maxRecDepth 100000 in
theorem se_X2_fursAfter : Cond.selects RX2 yX2_fursAfter yX2_fursAfter ∈ WT := mWT 515 rfl rfl
set_option maxRecDepth 100000 in
theorem cd_X2_fursAfter : Cond.code yX2_fursAfter cX2_fursAfter 4 (some .int) ∈ WT := mWT 516 rfl rfl
set_option maxRecDepth 100000 in
theorem ml_L_109 : Cond.methodLink RL 109 yX6_seen ∈ WT := mWT 517 rfl rfl
set_option maxRecDepth 100000 in
theorem im_X6_seen : Cond.instanceMethod yX6_seen ∈ WT := mWT 518 rfl rfl
set_option maxRecDepth 100000 in
theorem se_X6_seen : Cond.selects RX6 yX6_seen yX6_seen ∈ WT := mWT 519 rfl rfl
set_option maxRecDepth 100000 in
theorem cd_X6_seen : Cond.code yX6_seen cX6_seen 3 (some .int) ∈ WT := mWT 520 rfl rfl
set_option maxRecDepth 100000 in
theorem ml_L_114 : Cond.methodLink RL 114 yX6_forget ∈ WT := mWT 521 rfl rfl
set_option maxRecDepth 100000 in
theorem im_X6_forget : Cond.instanceMethod yX6_forget ∈ WT := mWT 522 rfl rfl
set_option maxRecDepth 100000 in
theorem se_X6_forget : Cond.selects RX6 yX6_forget yX6_forget ∈ WT := mWT 523 rfl rfl
set_option maxRecDepth 100000 in
theorem cd_X6_forget : Cond.code yX6_forget cX6_forget 2 (some .int) ∈ WT := mWT 524 rfl rfl
set_option maxRecDepth 100000 in
theorem ml_L_118 : Cond.methodLink RL 118 yX6_changed ∈ WT := mWT 525 rfl rfl
set_option maxRecDepth 100000 in
theorem im_X6_changed : Cond.instanceMethod yX6_changed ∈ WT := mWT 526 rfl rfl
set_option maxRecDepth 100000 in
theorem se_X6_changed : Cond.selects RX6 yX6_changed yX6_changed ∈ WT := mWT 527 rfl rfl
set_option maxRecDepth 100000 in
theorem cd_X6_changed : Cond.code yX6_changed cX6_changed 2 (some .int) ∈ WT := mWT 528 rfl rfl
set_option maxRecDepth 100000 in
theorem ml_X6_193 : Cond.methodLink RX6 193 yX0_prepare ∈ WT := mWT 529 rfl rfl
set_option maxRecDepth 100000 in
theorem im_X0_prepare : Cond.instanceMethod yX0_prepare ∈ WT := mWT 530 rfl rfl
set_option maxRecDepth 100000 in
theorem se_X0_prepare : Cond.selects RX0 yX0_prepare yX0_prepare ∈ WT := mWT 531 rfl rfl
set_option maxRecDepth 100000 in
theorem cd_X0_prepare : Cond.code yX0_prepare cX0_prepare 3 none ∈ WT := mWT 532 rfl rfl
set_option maxRecDepth 100000 in
theorem ml_X0_40 : Cond.methodLink RX0 40 yX3_fill ∈ WT := mWT 533 rfl rfl
set_option maxRecDepth 100000 in
theorem ml_X0_48 : Cond.methodLink RX0 48 yX2_lives ∈ WT := mWT 534 rfl rfl
set_option maxRecDepth 100000 in
theorem ml_X0_55 : Cond.methodLink RX0 55 yX3_get ∈ WT := mWT 535 rfl rfl
set_option maxRecDepth 100000 in
theorem ml_X0_62 : Cond.methodLink RX0 62 yX0_takeBack ∈ WT := mWT 536 rfl rfl
set_option maxRecDepth 100000 in
theorem im_X0_takeBack : Cond.instanceMethod yX0_takeBack ∈ WT := mWT 538 rfl rfl
set_option maxRecDepth 100000 in
theorem cd_X0_takeBack : Cond.code yX0_takeBack cX0_takeBack 3 none ∈ WT := mWT 539 rfl rfl
set_option maxRecDepth 100000 in
theorem ml_X0_85 : Cond.methodLink RX0 85 yX0_countWant ∈ WT := mWT 540 rfl rfl
set_option maxRecDepth 100000 in
theorem im_X0_countWant : Cond.instanceMethod yX0_countWant ∈ WT := mWT 542 rfl rfl
set_option maxRecDepth 100000 in
theorem cd_X0_countWant : Cond.code yX0_countWant cX0_countWant 3 none ∈ WT := mWT 543 rfl rfl
set_option maxRecDepth 100000 in
theorem ml_X0_88 : Cond.methodLink RX0 88 yX0_countBearer ∈ WT := mWT 544 rfl rfl
set_option maxRecDepth 100000 in
theorem im_X0_countBearer : Cond.instanceMethod yX0_countBearer ∈ WT := mWT 546 rfl rfl
set_option maxRecDepth 100000 in
theorem cd_X0_countBearer : Cond.code yX0_countBearer cX0_countBearer 3 none ∈ WT := mWT 547 rfl rfl
set_option maxRecDepth 100000 in
theorem ml_X0_75 : Cond.methodLink RX0 75 yX0_heed ∈ WT := mWT 548 rfl rfl
set_option maxRecDepth 100000 in
theorem im_X0_heed : Cond.instanceMethod yX0_heed ∈ WT := mWT 550 rfl rfl
set_option maxRecDepth 100000 in
theorem cd_X0_heed : Cond.code yX0_heed cX0_heed 4 none ∈ WT := mWT 551 rfl rfl
set_option maxRecDepth 100000 in
theorem ml_X0_78 : Cond.methodLink RX0 78 yX0_isOpen ∈ WT := mWT 552 rfl rfl
set_option maxRecDepth 100000 in
theorem im_X0_isOpen : Cond.instanceMethod yX0_isOpen ∈ WT := mWT 554 rfl rfl
set_option maxRecDepth 100000 in
theorem cd_X0_isOpen : Cond.code yX0_isOpen cX0_isOpen 2 (some .boolean) ∈ WT := mWT 555 rfl rfl
set_option maxRecDepth 100000 in
theorem ml_X0_81 : Cond.methodLink RX0 81 yX3_put ∈ WT := mWT 556 rfl rfl
set_option maxRecDepth 100000 in
theorem ml_X6_196 : Cond.methodLink RX6 196 yX0_ways ∈ WT := mWT 557 rfl rfl
set_option maxRecDepth 100000 in
theorem im_X0_ways : Cond.instanceMethod yX0_ways ∈ WT := mWT 558 rfl rfl
set_option maxRecDepth 100000 in
theorem se_X0_ways : Cond.selects RX0 yX0_ways yX0_ways ∈ WT := mWT 559 rfl rfl
set_option maxRecDepth 100000 in
theorem cd_X0_ways : Cond.code yX0_ways cX0_ways 1 (some .int) ∈ WT := mWT 560 rfl rfl
set_option maxRecDepth 100000 in
theorem ml_X0_92 : Cond.methodLink RX0 92 yX0_waysIf ∈ WT := mWT 561 rfl rfl
set_option maxRecDepth 100000 in
theorem im_X0_waysIf : Cond.instanceMethod yX0_waysIf ∈ WT := mWT 563 rfl rfl
set_option maxRecDepth 100000 in
theorem cd_X0_waysIf : Cond.code yX0_waysIf cX0_waysIf 4 (some .int) ∈ WT := mWT 564 rfl rfl
set_option maxRecDepth 100000 in
theorem ml_X0_96 : Cond.methodLink RX0 96 yX0_picks ∈ WT := mWT 565 rfl rfl
set_option maxRecDepth 100000 in
theorem st_X0_picks : Cond.static yX0_picks ∈ WT := mWT 566 rfl rfl
set_option maxRecDepth 100000 in
theorem cd_X0_picks : Cond.code yX0_picks cX0_picks 4 (some .int) ∈ WT := mWT 567 rfl rfl
set_option maxRecDepth 100000 in
theorem ml_X6_199 : Cond.methodLink RX6 199 yX0_rowAt ∈ WT := mWT 568 rfl rfl
set_option maxRecDepth 100000 in
theorem im_X0_rowAt : Cond.instanceMethod yX0_rowAt ∈ WT := mWT 569 rfl rfl
set_option maxRecDepth 100000 in
theorem se_X0_rowAt : Cond.selects RX0 yX0_rowAt yX0_rowAt ∈ WT := mWT 570 rfl rfl
set_option maxRecDepth 100000 in
theorem cd_X0_rowAt : Cond.code yX0_rowAt cX0_rowAt 9 (some .int) ∈ WT := mWT 571 rfl rfl
set_option maxRecDepth 100000 in
theorem ml_X0_99 : Cond.methodLink RX0 99 yX0_waysWith ∈ WT := mWT 572 rfl rfl
set_option maxRecDepth 100000 in
theorem im_X0_waysWith : Cond.instanceMethod yX0_waysWith ∈ WT := mWT 574 rfl rfl
set_option maxRecDepth 100000 in
theorem cd_X0_waysWith : Cond.code yX0_waysWith cX0_waysWith 4 (some .int) ∈ WT := mWT 575 rfl rfl
set_option maxRecDepth 100000 in
theorem ml_X0_106 : Cond.methodLink RX0 106 yX0_suits ∈ WT := mWT 576 rfl rfl
set_option maxRecDepth 100000 in
theorem im_X0_suits : Cond.instanceMethod yX0_suits ∈ WT := mWT 578 rfl rfl
set_option maxRecDepth 100000 in
theorem cd_X0_suits : Cond.code yX0_suits cX0_suits 3 (some .boolean) ∈ WT := mWT 579 rfl rfl
set_option maxRecDepth 100000 in
theorem ml_X0_103 : Cond.methodLink RX0 103 yX0_give ∈ WT := mWT 580 rfl rfl
set_option maxRecDepth 100000 in
theorem im_X0_give : Cond.instanceMethod yX0_give ∈ WT := mWT 582 rfl rfl
set_option maxRecDepth 100000 in
theorem cd_X0_give : Cond.code yX0_give cX0_give 3 none ∈ WT := mWT 583 rfl rfl
set_option maxRecDepth 100000 in
theorem ml_X0_110 : Cond.methodLink RX0 110 yX0_ways ∈ WT := mWT 584 rfl rfl
set_option maxRecDepth 100000 in
theorem ml_L_122 : Cond.methodLink RL 122 yX6_names ∈ WT := mWT 585 rfl rfl
set_option maxRecDepth 100000 in
theorem im_X6_names : Cond.instanceMethod yX6_names ∈ WT := mWT 586 rfl rfl
set_option maxRecDepth 100000 in
theorem se_X6_names : Cond.selects RX6 yX6_names yX6_names ∈ WT := mWT 587 rfl rfl
set_option maxRecDepth 100000 in
theorem cd_X6_names : Cond.code yX6_names cX6_names 2 (some .int) ∈ WT := mWT 588 rfl rfl
set_option maxRecDepth 100000 in
theorem ml_X6_203 : Cond.methodLink RX6 203 yX2_lives ∈ WT := mWT 589 rfl rfl
set_option maxRecDepth 100000 in
theorem ml_X6_206 : Cond.methodLink RX6 206 yX0_namesFor ∈ WT := mWT 590 rfl rfl
set_option maxRecDepth 100000 in
theorem im_X0_namesFor : Cond.instanceMethod yX0_namesFor ∈ WT := mWT 591 rfl rfl
set_option maxRecDepth 100000 in
theorem se_X0_namesFor : Cond.selects RX0 yX0_namesFor yX0_namesFor ∈ WT := mWT 592 rfl rfl
set_option maxRecDepth 100000 in
theorem cd_X0_namesFor : Cond.code yX0_namesFor cX0_namesFor 5 (some .int) ∈ WT := mWT 593 rfl rfl
set_option maxRecDepth 100000 in
theorem ml_L_126 : Cond.methodLink RL 126 yX6_hear ∈ WT := mWT 594 rfl rfl
set_option maxRecDepth 100000 in
theorem im_X6_hear : Cond.instanceMethod yX6_hear ∈ WT := mWT 595 rfl rfl
set_option maxRecDepth 100000 in
theorem se_X6_hear : Cond.selects RX6 yX6_hear yX6_hear ∈ WT := mWT 596 rfl rfl
set_option maxRecDepth 100000 in
theorem cd_X6_hear : Cond.code yX6_hear cX6_hear 3 (some .int) ∈ WT := mWT 597 rfl rfl
set_option maxRecDepth 100000 in
theorem ml_X6_209 : Cond.methodLink RX6 209 yX0_nameToHear ∈ WT := mWT 598 rfl rfl
set_option maxRecDepth 100000 in
theorem im_X0_nameToHear : Cond.instanceMethod yX0_nameToHear ∈ WT := mWT 599 rfl rfl
set_option maxRecDepth 100000 in
theorem se_X0_nameToHear : Cond.selects RX0 yX0_nameToHear yX0_nameToHear ∈ WT := mWT 600 rfl rfl
set_option maxRecDepth 100000 in
theorem cd_X0_nameToHear : Cond.code yX0_nameToHear cX0_nameToHear 5 (some .int) ∈ WT := mWT 601 rfl rfl
set_option maxRecDepth 100000 in
theorem ml_X0_114 : Cond.methodLink RX0 114 yX0_mostLeftBy ∈ WT := mWT 602 rfl rfl
set_option maxRecDepth 100000 in
theorem im_X0_mostLeftBy : Cond.instanceMethod yX0_mostLeftBy ∈ WT := mWT 603 rfl rfl
set_option maxRecDepth 100000 in
theorem se_X0_mostLeftBy : Cond.selects RX0 yX0_mostLeftBy yX0_mostLeftBy ∈ WT := mWT 604 rfl rfl
set_option maxRecDepth 100000 in
theorem cd_X0_mostLeftBy : Cond.code yX0_mostLeftBy cX0_mostLeftBy 4 (some .int) ∈ WT := mWT 605 rfl rfl
set_option maxRecDepth 100000 in
theorem ml_X0_117 : Cond.methodLink RX0 117 yJ9_max_7cf53 ∈ WT := mWT 606 rfl rfl
set_option maxRecDepth 100000 in
theorem ml_X6_212 : Cond.methodLink RX6 212 yX0_mostLeftBy ∈ WT := mWT 607 rfl rfl
set_option maxRecDepth 100000 in
theorem ml_L_130 : Cond.methodLink RL 130 yX6_undo ∈ WT := mWT 608 rfl rfl
set_option maxRecDepth 100000 in
theorem im_X6_undo : Cond.instanceMethod yX6_undo ∈ WT := mWT 609 rfl rfl
set_option maxRecDepth 100000 in
theorem se_X6_undo : Cond.selects RX6 yX6_undo yX6_undo ∈ WT := mWT 610 rfl rfl
set_option maxRecDepth 100000 in
theorem cd_X6_undo : Cond.code yX6_undo cX6_undo 3 (some .int) ∈ WT := mWT 611 rfl rfl
set_option maxRecDepth 100000 in
theorem ml_X6_215 : Cond.methodLink RX6 215 yX2_swapNames ∈ WT := mWT 612 rfl rfl
set_option maxRecDepth 100000 in
theorem ml_L_134 : Cond.methodLink RL 134 yX6_marriages ∈ WT := mWT 613 rfl rfl
set_option maxRecDepth 100000 in
theorem im_X6_marriages : Cond.instanceMethod yX6_marriages ∈ WT := mWT 614 rfl rfl
set_option maxRecDepth 100000 in
theorem se_X6_marriages : Cond.selects RX6 yX6_marriages yX6_marriages ∈ WT := mWT 615 rfl rfl
set_option maxRecDepth 100000 in
theorem cd_X6_marriages : Cond.code yX6_marriages cX6_marriages 2 (some .int) ∈ WT := mWT 616 rfl rfl
set_option maxRecDepth 100000 in
theorem ml_X6_218 : Cond.methodLink RX6 218 yX4_mostTwos ∈ WT := mWT 617 rfl rfl
set_option maxRecDepth 100000 in
theorem im_X4_mostTwos : Cond.instanceMethod yX4_mostTwos ∈ WT := mWT 618 rfl rfl
set_option maxRecDepth 100000 in
theorem se_X4_mostTwos : Cond.selects RX4 yX4_mostTwos yX4_mostTwos ∈ WT := mWT 619 rfl rfl
set_option maxRecDepth 100000 in
theorem cd_X4_mostTwos : Cond.code yX4_mostTwos cX4_mostTwos 5 (some .int) ∈ WT := mWT 620 rfl rfl
set_option maxRecDepth 100000 in
theorem ml_X4_29 : Cond.methodLink RX4 29 yX4_matesOf ∈ WT := mWT 621 rfl rfl
set_option maxRecDepth 100000 in
theorem st_X4_matesOf : Cond.static yX4_matesOf ∈ WT := mWT 622 rfl rfl
set_option maxRecDepth 100000 in
theorem cd_X4_matesOf : Cond.code yX4_matesOf cX4_matesOf 5 (some .int) ∈ WT := mWT 623 rfl rfl
set_option maxRecDepth 100000 in
theorem ml_X4_55 : Cond.methodLink RX4 55 yX4_isFree ∈ WT := mWT 624 rfl rfl
set_option maxRecDepth 100000 in
theorem st_X4_isFree : Cond.static yX4_isFree ∈ WT := mWT 625 rfl rfl
set_option maxRecDepth 100000 in
theorem cd_X4_isFree : Cond.code yX4_isFree cX4_isFree 2 (some .boolean) ∈ WT := mWT 626 rfl rfl
set_option maxRecDepth 100000 in
theorem ml_X4_63 : Cond.methodLink RX4 63 yX2_lives ∈ WT := mWT 627 rfl rfl
set_option maxRecDepth 100000 in
theorem ml_X4_41 : Cond.methodLink RX4 41 yX3_get ∈ WT := mWT 628 rfl rfl
set_option maxRecDepth 100000 in
theorem ml_X4_59 : Cond.methodLink RX4 59 yX4_areApart ∈ WT := mWT 629 rfl rfl
set_option maxRecDepth 100000 in
theorem st_X4_areApart : Cond.static yX4_areApart ∈ WT := mWT 630 rfl rfl
set_option maxRecDepth 100000 in
theorem cd_X4_areApart : Cond.code yX4_areApart cX4_areApart 5 (some .boolean) ∈ WT := mWT 631 rfl rfl
set_option maxRecDepth 100000 in
theorem ml_X4_70 : Cond.methodLink RX4 70 yX2_shareALand ∈ WT := mWT 632 rfl rfl
set_option maxRecDepth 100000 in
theorem ml_X4_33 : Cond.methodLink RX4 33 yX3_put ∈ WT := mWT 633 rfl rfl
set_option maxRecDepth 100000 in
theorem ml_X4_37 : Cond.methodLink RX4 37 yX4_bestOf ∈ WT := mWT 634 rfl rfl
set_option maxRecDepth 100000 in
theorem im_X4_bestOf : Cond.instanceMethod yX4_bestOf ∈ WT := mWT 636 rfl rfl
set_option maxRecDepth 100000 in
theorem cd_X4_bestOf : Cond.code yX4_bestOf cX4_bestOf 6 (some .int) ∈ WT := mWT 637 rfl rfl
set_option maxRecDepth 100000 in
theorem ml_X4_44 : Cond.methodLink RX4 44 yJ6_numberOfTrailingZeros_0f7a4 ∈ WT := mWT 638 rfl rfl
set_option maxRecDepth 100000 in
theorem st_J6_numberOfTrailingZeros_0f7a4 : Cond.static yJ6_numberOfTrailingZeros_0f7a4 ∈ WT := mWT 639 rfl rfl
set_option maxRecDepth 100000 in
theorem cd_J6_numberOfTrailingZeros_0f7a4 : Cond.code yJ6_numberOfTrailingZeros_0f7a4 cJ6_numberOfTrailingZeros_0f7a4 2 (some .int) ∈ WT := mWT 640 rfl rfl
set_option maxRecDepth 100000 in
theorem kc_J6_264 : Cond.constant RJ6 264 (65536) ∈ WT := mWT 641 rfl rfl
set_option maxRecDepth 100000 in
theorem ml_X4_49 : Cond.methodLink RX4 49 yJ9_max_7cf53 ∈ WT := mWT 642 rfl rfl
set_option maxRecDepth 100000 in
theorem ml_L_138 : Cond.methodLink RL 138 yX6_deaths ∈ WT := mWT 643 rfl rfl
set_option maxRecDepth 100000 in
theorem im_X6_deaths : Cond.instanceMethod yX6_deaths ∈ WT := mWT 644 rfl rfl
set_option maxRecDepth 100000 in
theorem se_X6_deaths : Cond.selects RX6 yX6_deaths yX6_deaths ∈ WT := mWT 645 rfl rfl
set_option maxRecDepth 100000 in
theorem cd_X6_deaths : Cond.code yX6_deaths cX6_deaths 13 (some .long) ∈ WT := mWT 646 rfl rfl
set_option maxRecDepth 100000 in
theorem kc_X6_221 : Cond.constantLong RX6 221 (-1000000000000000002) ∈ WT := mWT 647 rfl rfl
set_option maxRecDepth 100000 in
theorem ml_X6_226 : Cond.methodLink RX6 226 yJ6_bitCount_0f7a4 ∈ WT := mWT 648 rfl rfl
set_option maxRecDepth 100000 in
theorem st_J6_bitCount_0f7a4 : Cond.static yJ6_bitCount_0f7a4 ∈ WT := mWT 649 rfl rfl
set_option maxRecDepth 100000 in
theorem cd_J6_bitCount_0f7a4 : Cond.code yJ6_bitCount_0f7a4 cJ6_bitCount_0f7a4 1 (some .int) ∈ WT := mWT 650 rfl rfl
set_option maxRecDepth 100000 in
theorem kc_J6_265 : Cond.constant RJ6 265 (1431655765) ∈ WT := mWT 651 rfl rfl
set_option maxRecDepth 100000 in
theorem kc_J6_266 : Cond.constant RJ6 266 (858993459) ∈ WT := mWT 652 rfl rfl
set_option maxRecDepth 100000 in
theorem kc_J6_267 : Cond.constant RJ6 267 (252645135) ∈ WT := mWT 653 rfl rfl
set_option maxRecDepth 100000 in
theorem kc_X6_231 : Cond.constantLong RX6 231 (10) ∈ WT := mWT 654 rfl rfl
set_option maxRecDepth 100000 in
theorem ml_X6_233 : Cond.methodLink RX6 233 yX6_commonDivisor ∈ WT := mWT 655 rfl rfl
set_option maxRecDepth 100000 in
theorem st_X6_commonDivisor : Cond.static yX6_commonDivisor ∈ WT := mWT 656 rfl rfl
set_option maxRecDepth 100000 in
theorem cd_X6_commonDivisor : Cond.code yX6_commonDivisor cX6_commonDivisor 11 (some .long) ∈ WT := mWT 657 rfl rfl
set_option maxRecDepth 100000 in
theorem ml_X6_237 : Cond.methodLink RX6 237 yX6_cut_ ∈ WT := mWT 658 rfl rfl
set_option maxRecDepth 100000 in
theorem st_X6_cut_ : Cond.static yX6_cut_ ∈ WT := mWT 659 rfl rfl
set_option maxRecDepth 100000 in
theorem cd_X6_cut_ : Cond.code yX6_cut_ cX6_cut_ 4 (some .long) ∈ WT := mWT 660 rfl rfl
set_option maxRecDepth 100000 in
theorem ml_X6_240 : Cond.methodLink RX6 240 yX6_power ∈ WT := mWT 661 rfl rfl
set_option maxRecDepth 100000 in
theorem st_X6_power : Cond.static yX6_power ∈ WT := mWT 662 rfl rfl
set_option maxRecDepth 100000 in
theorem cd_X6_power : Cond.code yX6_power cX6_power 6 (some .long) ∈ WT := mWT 663 rfl rfl
set_option maxRecDepth 100000 in
theorem ml_L_143 : Cond.methodLink RL 143 yX6_year ∈ WT := mWT 664 rfl rfl
set_option maxRecDepth 100000 in
theorem im_X6_year : Cond.instanceMethod yX6_year ∈ WT := mWT 665 rfl rfl
set_option maxRecDepth 100000 in
theorem se_X6_year : Cond.selects RX6 yX6_year yX6_year ∈ WT := mWT 666 rfl rfl
set_option maxRecDepth 100000 in
theorem cd_X6_year : Cond.code yX6_year cX6_year 4 (some .int) ∈ WT := mWT 667 rfl rfl
set_option maxRecDepth 100000 in
theorem ml_X6_244 : Cond.methodLink RX6 244 yX6_drawYear ∈ WT := mWT 668 rfl rfl
set_option maxRecDepth 100000 in
theorem im_X6_drawYear : Cond.instanceMethod yX6_drawYear ∈ WT := mWT 670 rfl rfl
set_option maxRecDepth 100000 in
theorem cd_X6_drawYear : Cond.code yX6_drawYear cX6_drawYear 5 none ∈ WT := mWT 671 rfl rfl
set_option maxRecDepth 100000 in
theorem kc_X6_263 : Cond.constant RX6 263 (65537) ∈ WT := mWT 672 rfl rfl
set_option maxRecDepth 100000 in
theorem ml_X6_264 : Cond.methodLink RX6 264 yX6_drawAct ∈ WT := mWT 673 rfl rfl
set_option maxRecDepth 100000 in
theorem im_X6_drawAct : Cond.instanceMethod yX6_drawAct ∈ WT := mWT 675 rfl rfl
set_option maxRecDepth 100000 in
theorem cd_X6_drawAct : Cond.code yX6_drawAct cX6_drawAct 4 none ∈ WT := mWT 676 rfl rfl
set_option maxRecDepth 100000 in
theorem ml_X6_267 : Cond.methodLink RX6 267 yX2_bind ∈ WT := mWT 677 rfl rfl
set_option maxRecDepth 100000 in
theorem ml_X6_270 : Cond.methodLink RX6 270 yX2_changeHats ∈ WT := mWT 678 rfl rfl
set_option maxRecDepth 100000 in
theorem ml_X6_273 : Cond.methodLink RX6 273 yX2_passDays ∈ WT := mWT 679 rfl rfl
set_option maxRecDepth 100000 in
theorem ml_X6_276 : Cond.methodLink RX6 276 yX2_passSeason ∈ WT := mWT 680 rfl rfl
set_option maxRecDepth 100000 in
theorem ml_X6_247 : Cond.methodLink RX6 247 yX2_ownNames ∈ WT := mWT 681 rfl rfl
set_option maxRecDepth 100000 in
theorem im_X2_ownNames : Cond.instanceMethod yX2_ownNames ∈ WT := mWT 682 rfl rfl
set_option maxRecDepth 100000 in
theorem se_X2_ownNames : Cond.selects RX2 yX2_ownNames yX2_ownNames ∈ WT := mWT 683 rfl rfl
set_option maxRecDepth 100000 in
theorem cd_X2_ownNames : Cond.code yX2_ownNames cX2_ownNames 3 (some .int) ∈ WT := mWT 684 rfl rfl
set_option maxRecDepth 100000 in
theorem ml_X6_250 : Cond.methodLink RX6 250 yX2_emptyLands ∈ WT := mWT 685 rfl rfl
set_option maxRecDepth 100000 in
theorem im_X2_emptyLands : Cond.instanceMethod yX2_emptyLands ∈ WT := mWT 686 rfl rfl
set_option maxRecDepth 100000 in
theorem se_X2_emptyLands : Cond.selects RX2 yX2_emptyLands yX2_emptyLands ∈ WT := mWT 687 rfl rfl
set_option maxRecDepth 100000 in
theorem cd_X2_emptyLands : Cond.code yX2_emptyLands cX2_emptyLands 3 (some .int) ∈ WT := mWT 688 rfl rfl
set_option maxRecDepth 100000 in
theorem ml_X2_119 : Cond.methodLink RX2 119 yX2_guestsAfter ∈ WT := mWT 689 rfl rfl
set_option maxRecDepth 100000 in
theorem ml_L_147 : Cond.methodLink RL 147 yX6_image ∈ WT := mWT 690 rfl rfl
set_option maxRecDepth 100000 in
theorem im_X6_image : Cond.instanceMethod yX6_image ∈ WT := mWT 691 rfl rfl
set_option maxRecDepth 100000 in
theorem se_X6_image : Cond.selects RX6 yX6_image yX6_image ∈ WT := mWT 692 rfl rfl
set_option maxRecDepth 100000 in
theorem cd_X6_image : Cond.code yX6_image cX6_image 2 (some .int) ∈ WT := mWT 693 rfl rfl
set_option maxRecDepth 100000 in
theorem ml_X6_253 : Cond.methodLink RX6 253 yX6_imageAt ∈ WT := mWT 694 rfl rfl
set_option maxRecDepth 100000 in
theorem im_X6_imageAt : Cond.instanceMethod yX6_imageAt ∈ WT := mWT 696 rfl rfl
set_option maxRecDepth 100000 in
theorem cd_X6_imageAt : Cond.code yX6_imageAt cX6_imageAt 2 (some (.object "HostageRound$Round")) ∈ WT := mWT 697 rfl rfl
set_option maxRecDepth 100000 in
theorem ml_L_151 : Cond.methodLink RL 151 yX6_restore ∈ WT := mWT 698 rfl rfl
set_option maxRecDepth 100000 in
theorem im_X6_restore : Cond.instanceMethod yX6_restore ∈ WT := mWT 699 rfl rfl
set_option maxRecDepth 100000 in
theorem se_X6_restore : Cond.selects RX6 yX6_restore yX6_restore ∈ WT := mWT 700 rfl rfl
set_option maxRecDepth 100000 in
theorem cd_X6_restore : Cond.code yX6_restore cX6_restore 2 (some .int) ∈ WT := mWT 701 rfl rfl
set_option maxRecDepth 100000 in
theorem ml_L_155 : Cond.methodLink RL 155 yX6_told ∈ WT := mWT 702 rfl rfl
set_option maxRecDepth 100000 in
theorem im_X6_told : Cond.instanceMethod yX6_told ∈ WT := mWT 703 rfl rfl
set_option maxRecDepth 100000 in
theorem se_X6_told : Cond.selects RX6 yX6_told yX6_told ∈ WT := mWT 704 rfl rfl
set_option maxRecDepth 100000 in
theorem cd_X6_told : Cond.code yX6_told cX6_told 2 (some .int) ∈ WT := mWT 705 rfl rfl
set_option maxRecDepth 100000 in
theorem ml_X6_260 : Cond.methodLink RX6 260 yX6_toldOfOne ∈ WT := mWT 706 rfl rfl
set_option maxRecDepth 100000 in
theorem im_X6_toldOfOne : Cond.instanceMethod yX6_toldOfOne ∈ WT := mWT 708 rfl rfl
set_option maxRecDepth 100000 in
theorem cd_X6_toldOfOne : Cond.code yX6_toldOfOne cX6_toldOfOne 2 (some .int) ∈ WT := mWT 709 rfl rfl
set_option maxRecDepth 100000 in
theorem cl_L_10 : Cond.classLink RL 10 RX7 ∈ WT := mWT 710 rfl rfl
set_option maxRecDepth 100000 in
theorem isb_X7 : Cond.instantiable RX7 27 ∈ WT := mWT 711 rfl rfl
set_option maxRecDepth 100000 in
theorem ml_L_12 : Cond.methodLink RL 12 yX7_init ∈ WT := mWT 712 rfl rfl
set_option maxRecDepth 100000 in
theorem im_X7_init : Cond.instanceMethod yX7_init ∈ WT := mWT 713 rfl rfl
set_option maxRecDepth 100000 in
theorem cd_X7_init : Cond.code yX7_init cX7_init 1 none ∈ WT := mWT 714 rfl rfl
set_option maxRecDepth 100000 in
theorem ml_X7_1 : Cond.methodLink RX7 1 objectInit ∈ WT := mWT 715 rfl rfl
set_option maxRecDepth 100000 in
theorem ml_X7_63 : Cond.methodLink RX7 63 yX7_clear ∈ WT := mWT 716 rfl rfl
set_option maxRecDepth 100000 in
theorem im_X7_clear : Cond.instanceMethod yX7_clear ∈ WT := mWT 718 rfl rfl
set_option maxRecDepth 100000 in
theorem cd_X7_clear : Cond.code yX7_clear cX7_clear 2 none ∈ WT := mWT 719 rfl rfl
set_option maxRecDepth 100000 in
theorem fl_X7_7 : Cond.fieldLink RX7 7 RX7 "n" "I" ∈ WT := mWT 720 rfl rfl
set_option maxRecDepth 100000 in
theorem fl_X7_13 : Cond.fieldLink RX7 13 RX7 "length" "I" ∈ WT := mWT 721 rfl rfl
set_option maxRecDepth 100000 in
theorem fl_X7_66 : Cond.fieldLink RX7 66 RX7 "day" "I" ∈ WT := mWT 722 rfl rfl
set_option maxRecDepth 100000 in
theorem fl_X7_69 : Cond.fieldLink RX7 69 RX7 "season" "I" ∈ WT := mWT 723 rfl rfl
set_option maxRecDepth 100000 in
theorem fl_X7_72 : Cond.fieldLink RX7 72 RX7 "within" "I" ∈ WT := mWT 724 rfl rfl
set_option maxRecDepth 100000 in
theorem fl_X7_16 : Cond.fieldLink RX7 16 RX7 "land" "[I" ∈ WT := mWT 725 rfl rfl
set_option maxRecDepth 100000 in
theorem fl_X7_20 : Cond.fieldLink RX7 20 RX7 "name" "[I" ∈ WT := mWT 726 rfl rfl
set_option maxRecDepth 100000 in
theorem fl_X7_23 : Cond.fieldLink RX7 23 RX7 "stays" "[I" ∈ WT := mWT 727 rfl rfl
set_option maxRecDepth 100000 in
theorem fl_X7_26 : Cond.fieldLink RX7 26 RX7 "cold" "[I" ∈ WT := mWT 728 rfl rfl
set_option maxRecDepth 100000 in
theorem fl_X7_29 : Cond.fieldLink RX7 29 RX7 "coughs" "[I" ∈ WT := mWT 729 rfl rfl
set_option maxRecDepth 100000 in
theorem fl_X7_75 : Cond.fieldLink RX7 75 RX7 "sights" "I" ∈ WT := mWT 730 rfl rfl
set_option maxRecDepth 100000 in
theorem fl_X7_32 : Cond.fieldLink RX7 32 RX7 "sight" "[I" ∈ WT := mWT 731 rfl rfl
set_option maxRecDepth 100000 in
theorem fl_X7_86 : Cond.fieldLink RX7 86 RX7 "signs" "I" ∈ WT := mWT 732 rfl rfl
set_option maxRecDepth 100000 in
theorem fl_X7_35 : Cond.fieldLink RX7 35 RX7 "pad" "[I" ∈ WT := mWT 733 rfl rfl
set_option maxRecDepth 100000 in
theorem fl_X7_96 : Cond.fieldLink RX7 96 RX7 "dayNow" "I" ∈ WT := mWT 734 rfl rfl
set_option maxRecDepth 100000 in
theorem fl_X7_99 : Cond.fieldLink RX7 99 RX7 "seasonNow" "I" ∈ WT := mWT 735 rfl rfl
set_option maxRecDepth 100000 in
theorem fl_X7_102 : Cond.fieldLink RX7 102 RX7 "withinNow" "I" ∈ WT := mWT 736 rfl rfl
set_option maxRecDepth 100000 in
theorem fl_X7_38 : Cond.fieldLink RX7 38 RX7 "at" "[I" ∈ WT := mWT 737 rfl rfl
set_option maxRecDepth 100000 in
theorem fl_X7_41 : Cond.fieldLink RX7 41 RX7 "called" "[I" ∈ WT := mWT 738 rfl rfl
set_option maxRecDepth 100000 in
theorem fl_X7_44 : Cond.fieldLink RX7 44 RX7 "still" "[I" ∈ WT := mWT 739 rfl rfl
set_option maxRecDepth 100000 in
theorem fl_X7_47 : Cond.fieldLink RX7 47 RX7 "went" "[I" ∈ WT := mWT 740 rfl rfl
set_option maxRecDepth 100000 in
theorem fl_X7_114 : Cond.fieldLink RX7 114 RX7 "reason" "I" ∈ WT := mWT 741 rfl rfl
set_option maxRecDepth 100000 in
theorem fl_X7_111 : Cond.fieldLink RX7 111 RX7 "acts" "I" ∈ WT := mWT 742 rfl rfl
set_option maxRecDepth 100000 in
theorem fl_X7_50 : Cond.fieldLink RX7 50 RX7 "row" "[I" ∈ WT := mWT 743 rfl rfl
set_option maxRecDepth 100000 in
theorem fl_X7_53 : Cond.fieldLink RX7 53 RX7 "coughing" "[I" ∈ WT := mWT 744 rfl rfl
set_option maxRecDepth 100000 in
theorem fl_X7_56 : Cond.fieldLink RX7 56 RX7 "image" "[I" ∈ WT := mWT 745 rfl rfl
set_option maxRecDepth 100000 in
theorem fl_X7_59 : Cond.fieldLink RX7 59 RX7 "isKept" "[Z" ∈ WT := mWT 746 rfl rfl
set_option maxRecDepth 100000 in
theorem ac_boolean : Cond.arrayClass .boolean ∈ WT := mWT 802 rfl rfl
set_option maxRecDepth 100000 in
theorem ml_L_17 : Cond.methodLink RL 17 yX7_lands ∈ WT := mWT 803 rfl rfl
set_option maxRecDepth 100000 in
theorem im_X7_lands : Cond.instanceMethod yX7_lands ∈ WT := mWT 804 rfl rfl
set_option maxRecDepth 100000 in
theorem se_X7_lands : Cond.selects RX7 yX7_lands yX7_lands ∈ WT := mWT 805 rfl rfl
set_option maxRecDepth 100000 in
theorem cd_X7_lands : Cond.code yX7_lands cX7_lands 3 (some .int) ∈ WT := mWT 806 rfl rfl
set_option maxRecDepth 100000 in
theorem ml_X7_78 : Cond.methodLink RX7 78 yX7_in ∈ WT := mWT 807 rfl rfl
set_option maxRecDepth 100000 in
theorem st_X7_in : Cond.static yX7_in ∈ WT := mWT 808 rfl rfl
set_option maxRecDepth 100000 in
theorem cd_X7_in : Cond.code yX7_in cX7_in 3 (some .boolean) ∈ WT := mWT 809 rfl rfl
set_option maxRecDepth 100000 in
theorem ml_L_21 : Cond.methodLink RL 21 yX7_season ∈ WT := mWT 810 rfl rfl
set_option maxRecDepth 100000 in
theorem im_X7_season : Cond.instanceMethod yX7_season ∈ WT := mWT 811 rfl rfl
set_option maxRecDepth 100000 in
theorem se_X7_season : Cond.selects RX7 yX7_season yX7_season ∈ WT := mWT 812 rfl rfl
set_option maxRecDepth 100000 in
theorem cd_X7_season : Cond.code yX7_season cX7_season 3 (some .int) ∈ WT := mWT 813 rfl rfl
set_option maxRecDepth 100000 in
theorem ml_L_26 : Cond.methodLink RL 26 yX7_set ∈ WT := mWT 814 rfl rfl
set_option maxRecDepth 100000 in
theorem im_X7_set : Cond.instanceMethod yX7_set ∈ WT := mWT 815 rfl rfl
set_option maxRecDepth 100000 in
theorem se_X7_set : Cond.selects RX7 yX7_set yX7_set ∈ WT := mWT 816 rfl rfl
set_option maxRecDepth 100000 in
theorem cd_X7_set : Cond.code yX7_set cX7_set 5 (some .int) ∈ WT := mWT 817 rfl rfl
set_option maxRecDepth 100000 in
theorem ml_X7_82 : Cond.methodLink RX7 82 yX7_isOne ∈ WT := mWT 818 rfl rfl
set_option maxRecDepth 100000 in
theorem im_X7_isOne : Cond.instanceMethod yX7_isOne ∈ WT := mWT 820 rfl rfl
set_option maxRecDepth 100000 in
theorem cd_X7_isOne : Cond.code yX7_isOne cX7_isOne 2 (some .boolean) ∈ WT := mWT 821 rfl rfl
set_option maxRecDepth 100000 in
theorem ml_L_30 : Cond.methodLink RL 30 yX7_say ∈ WT := mWT 822 rfl rfl
set_option maxRecDepth 100000 in
theorem im_X7_say : Cond.instanceMethod yX7_say ∈ WT := mWT 823 rfl rfl
set_option maxRecDepth 100000 in
theorem se_X7_say : Cond.selects RX7 yX7_say yX7_say ∈ WT := mWT 824 rfl rfl
set_option maxRecDepth 100000 in
theorem cd_X7_say : Cond.code yX7_say cX7_say 2 (some .int) ∈ WT := mWT 825 rfl rfl
set_option maxRecDepth 100000 in
theorem ml_L_35 : Cond.methodLink RL 35 yX7_wipe ∈ WT := mWT 826 rfl rfl
set_option maxRecDepth 100000 in
theorem im_X7_wipe : Cond.instanceMethod yX7_wipe ∈ WT := mWT 827 rfl rfl
set_option maxRecDepth 100000 in
theorem se_X7_wipe : Cond.selects RX7 yX7_wipe yX7_wipe ∈ WT := mWT 828 rfl rfl
set_option maxRecDepth 100000 in
theorem cd_X7_wipe : Cond.code yX7_wipe cX7_wipe 2 (some .int) ∈ WT := mWT 829 rfl rfl
set_option maxRecDepth 100000 in
theorem ml_L_39 : Cond.methodLink RL 39 yX7_fault ∈ WT := mWT 830 rfl rfl
set_option maxRecDepth 100000 in
theorem im_X7_fault : Cond.instanceMethod yX7_fault ∈ WT := mWT 831 rfl rfl
set_option maxRecDepth 100000 in
theorem se_X7_fault : Cond.selects RX7 yX7_fault yX7_fault ∈ WT := mWT 832 rfl rfl
set_option maxRecDepth 100000 in
theorem cd_X7_fault : Cond.code yX7_fault cX7_fault 1 (some .int) ∈ WT := mWT 833 rfl rfl
set_option maxRecDepth 100000 in
theorem ml_X7_92 : Cond.methodLink RX7 92 yX7_faultOf ∈ WT := mWT 834 rfl rfl
set_option maxRecDepth 100000 in
theorem im_X7_faultOf : Cond.instanceMethod yX7_faultOf ∈ WT := mWT 836 rfl rfl
set_option maxRecDepth 100000 in
theorem cd_X7_faultOf : Cond.code yX7_faultOf cX7_faultOf 5 (some .int) ∈ WT := mWT 837 rfl rfl
set_option maxRecDepth 100000 in
theorem ml_X7_89 : Cond.methodLink RX7 89 yX7_isChild ∈ WT := mWT 838 rfl rfl
set_option maxRecDepth 100000 in
theorem im_X7_isChild : Cond.instanceMethod yX7_isChild ∈ WT := mWT 840 rfl rfl
set_option maxRecDepth 100000 in
theorem cd_X7_isChild : Cond.code yX7_isChild cX7_isChild 2 (some .boolean) ∈ WT := mWT 841 rfl rfl
set_option maxRecDepth 100000 in
theorem ml_L_43 : Cond.methodLink RL 43 yX7_judge ∈ WT := mWT 842 rfl rfl
set_option maxRecDepth 100000 in
theorem im_X7_judge : Cond.instanceMethod yX7_judge ∈ WT := mWT 843 rfl rfl
set_option maxRecDepth 100000 in
theorem se_X7_judge : Cond.selects RX7 yX7_judge yX7_judge ∈ WT := mWT 844 rfl rfl
set_option maxRecDepth 100000 in
theorem cd_X7_judge : Cond.code yX7_judge cX7_judge 3 (some .int) ∈ WT := mWT 845 rfl rfl
set_option maxRecDepth 100000 in
theorem ml_X7_132 : Cond.methodLink RX7 132 yX7_goYears ∈ WT := mWT 846 rfl rfl
set_option maxRecDepth 100000 in
theorem im_X7_goYears : Cond.instanceMethod yX7_goYears ∈ WT := mWT 848 rfl rfl
set_option maxRecDepth 100000 in
theorem cd_X7_goYears : Cond.code yX7_goYears cX7_goYears 5 (some .int) ∈ WT := mWT 849 rfl rfl
set_option maxRecDepth 100000 in
theorem ml_X7_108 : Cond.methodLink RX7 108 yX7_asNow ∈ WT := mWT 850 rfl rfl
set_option maxRecDepth 100000 in
theorem im_X7_asNow : Cond.instanceMethod yX7_asNow ∈ WT := mWT 852 rfl rfl
set_option maxRecDepth 100000 in
theorem cd_X7_asNow : Cond.code yX7_asNow cX7_asNow 2 none ∈ WT := mWT 853 rfl rfl
set_option maxRecDepth 100000 in
theorem ml_X7_117 : Cond.methodLink RX7 117 yX7_days ∈ WT := mWT 854 rfl rfl
set_option maxRecDepth 100000 in
theorem im_X7_days : Cond.instanceMethod yX7_days ∈ WT := mWT 856 rfl rfl
set_option maxRecDepth 100000 in
theorem cd_X7_days : Cond.code yX7_days cX7_days 3 none ∈ WT := mWT 857 rfl rfl
set_option maxRecDepth 100000 in
theorem ml_X7_105 : Cond.methodLink RX7 105 yX7_equinox ∈ WT := mWT 858 rfl rfl
set_option maxRecDepth 100000 in
theorem im_X7_equinox : Cond.instanceMethod yX7_equinox ∈ WT := mWT 860 rfl rfl
set_option maxRecDepth 100000 in
theorem cd_X7_equinox : Cond.code yX7_equinox cX7_equinox 2 none ∈ WT := mWT 861 rfl rfl
set_option maxRecDepth 100000 in
theorem ml_X7_121 : Cond.methodLink RX7 121 yX7_whyNoHats ∈ WT := mWT 862 rfl rfl
set_option maxRecDepth 100000 in
theorem im_X7_whyNoHats : Cond.instanceMethod yX7_whyNoHats ∈ WT := mWT 864 rfl rfl
set_option maxRecDepth 100000 in
theorem cd_X7_whyNoHats : Cond.code yX7_whyNoHats cX7_whyNoHats 3 (some .int) ∈ WT := mWT 865 rfl rfl
set_option maxRecDepth 100000 in
theorem ml_X7_125 : Cond.methodLink RX7 125 yX7_hats ∈ WT := mWT 866 rfl rfl
set_option maxRecDepth 100000 in
theorem im_X7_hats : Cond.instanceMethod yX7_hats ∈ WT := mWT 868 rfl rfl
set_option maxRecDepth 100000 in
theorem cd_X7_hats : Cond.code yX7_hats cX7_hats 4 none ∈ WT := mWT 869 rfl rfl
set_option maxRecDepth 100000 in
theorem ml_X7_129 : Cond.methodLink RX7 129 yX7_whyNot ∈ WT := mWT 870 rfl rfl
set_option maxRecDepth 100000 in
theorem im_X7_whyNot : Cond.instanceMethod yX7_whyNot ∈ WT := mWT 872 rfl rfl
set_option maxRecDepth 100000 in
theorem cd_X7_whyNot : Cond.code yX7_whyNot cX7_whyNot 3 (some .int) ∈ WT := mWT 873 rfl rfl
set_option maxRecDepth 100000 in
theorem ml_L_47 : Cond.methodLink RL 47 yX7_done ∈ WT := mWT 874 rfl rfl
set_option maxRecDepth 100000 in
theorem im_X7_done : Cond.instanceMethod yX7_done ∈ WT := mWT 875 rfl rfl
set_option maxRecDepth 100000 in
theorem se_X7_done : Cond.selects RX7 yX7_done yX7_done ∈ WT := mWT 876 rfl rfl
set_option maxRecDepth 100000 in
theorem cd_X7_done : Cond.code yX7_done cX7_done 2 (some .int) ∈ WT := mWT 877 rfl rfl
set_option maxRecDepth 100000 in
theorem ml_X7_135 : Cond.methodLink RX7 135 yX7_barOfYears ∈ WT := mWT 878 rfl rfl
set_option maxRecDepth 100000 in
theorem im_X7_barOfYears : Cond.instanceMethod yX7_barOfYears ∈ WT := mWT 880 rfl rfl
set_option maxRecDepth 100000 in
theorem cd_X7_barOfYears : Cond.code yX7_barOfYears cX7_barOfYears 1 (some .int) ∈ WT := mWT 881 rfl rfl
set_option maxRecDepth 100000 in
theorem ml_L_52 : Cond.methodLink RL 52 yX7_state ∈ WT := mWT 882 rfl rfl
set_option maxRecDepth 100000 in
theorem im_X7_state : Cond.instanceMethod yX7_state ∈ WT := mWT 883 rfl rfl
set_option maxRecDepth 100000 in
theorem se_X7_state : Cond.selects RX7 yX7_state yX7_state ∈ WT := mWT 884 rfl rfl
set_option maxRecDepth 100000 in
theorem cd_X7_state : Cond.code yX7_state cX7_state 3 (some .int) ∈ WT := mWT 885 rfl rfl
set_option maxRecDepth 100000 in
theorem ml_L_56 : Cond.methodLink RL 56 yX7_behind ∈ WT := mWT 886 rfl rfl
set_option maxRecDepth 100000 in
theorem im_X7_behind : Cond.instanceMethod yX7_behind ∈ WT := mWT 887 rfl rfl
set_option maxRecDepth 100000 in
theorem se_X7_behind : Cond.selects RX7 yX7_behind yX7_behind ∈ WT := mWT 888 rfl rfl
set_option maxRecDepth 100000 in
theorem cd_X7_behind : Cond.code yX7_behind cX7_behind 3 (some .int) ∈ WT := mWT 889 rfl rfl
set_option maxRecDepth 100000 in
theorem ml_L_60 : Cond.methodLink RL 60 yX7_day ∈ WT := mWT 890 rfl rfl
set_option maxRecDepth 100000 in
theorem im_X7_day : Cond.instanceMethod yX7_day ∈ WT := mWT 891 rfl rfl
set_option maxRecDepth 100000 in
theorem se_X7_day : Cond.selects RX7 yX7_day yX7_day ∈ WT := mWT 892 rfl rfl
set_option maxRecDepth 100000 in
theorem cd_X7_day : Cond.code yX7_day cX7_day 1 (some .int) ∈ WT := mWT 893 rfl rfl
set_option maxRecDepth 100000 in
theorem ml_L_64 : Cond.methodLink RL 64 yX7_where ∈ WT := mWT 894 rfl rfl
set_option maxRecDepth 100000 in
theorem im_X7_where : Cond.instanceMethod yX7_where ∈ WT := mWT 895 rfl rfl
set_option maxRecDepth 100000 in
theorem se_X7_where : Cond.selects RX7 yX7_where yX7_where ∈ WT := mWT 896 rfl rfl
set_option maxRecDepth 100000 in
theorem cd_X7_where : Cond.code yX7_where cX7_where 3 (some .int) ∈ WT := mWT 897 rfl rfl
set_option maxRecDepth 100000 in
theorem ml_X7_138 : Cond.methodLink RX7 138 yX7_equinoxes ∈ WT := mWT 898 rfl rfl
set_option maxRecDepth 100000 in
theorem im_X7_equinoxes : Cond.instanceMethod yX7_equinoxes ∈ WT := mWT 900 rfl rfl
set_option maxRecDepth 100000 in
theorem cd_X7_equinoxes : Cond.code yX7_equinoxes cX7_equinoxes 2 (some .int) ∈ WT := mWT 901 rfl rfl
set_option maxRecDepth 100000 in
theorem ml_X7_142 : Cond.methodLink RX7 142 yX7_whereBehind ∈ WT := mWT 902 rfl rfl
set_option maxRecDepth 100000 in
theorem im_X7_whereBehind : Cond.instanceMethod yX7_whereBehind ∈ WT := mWT 904 rfl rfl
set_option maxRecDepth 100000 in
theorem cd_X7_whereBehind : Cond.code yX7_whereBehind cX7_whereBehind 5 (some .int) ∈ WT := mWT 905 rfl rfl
set_option maxRecDepth 100000 in
theorem ml_L_68 : Cond.methodLink RL 68 yX7_who ∈ WT := mWT 906 rfl rfl
set_option maxRecDepth 100000 in
theorem im_X7_who : Cond.instanceMethod yX7_who ∈ WT := mWT 907 rfl rfl
set_option maxRecDepth 100000 in
theorem se_X7_who : Cond.selects RX7 yX7_who yX7_who ∈ WT := mWT 908 rfl rfl
set_option maxRecDepth 100000 in
theorem cd_X7_who : Cond.code yX7_who cX7_who 5 (some .int) ∈ WT := mWT 909 rfl rfl
set_option maxRecDepth 100000 in
theorem ml_L_72 : Cond.methodLink RL 72 yX7_meet ∈ WT := mWT 910 rfl rfl
set_option maxRecDepth 100000 in
theorem im_X7_meet : Cond.instanceMethod yX7_meet ∈ WT := mWT 911 rfl rfl
set_option maxRecDepth 100000 in
theorem se_X7_meet : Cond.selects RX7 yX7_meet yX7_meet ∈ WT := mWT 912 rfl rfl
set_option maxRecDepth 100000 in
theorem cd_X7_meet : Cond.code yX7_meet cX7_meet 4 (some .int) ∈ WT := mWT 913 rfl rfl
set_option maxRecDepth 100000 in
theorem ml_X7_145 : Cond.methodLink RX7 145 yX7_areTwo ∈ WT := mWT 914 rfl rfl
set_option maxRecDepth 100000 in
theorem im_X7_areTwo : Cond.instanceMethod yX7_areTwo ∈ WT := mWT 916 rfl rfl
set_option maxRecDepth 100000 in
theorem cd_X7_areTwo : Cond.code yX7_areTwo cX7_areTwo 3 (some .boolean) ∈ WT := mWT 917 rfl rfl
set_option maxRecDepth 100000 in
theorem ml_X7_149 : Cond.methodLink RX7 149 yX7_areIn ∈ WT := mWT 918 rfl rfl
set_option maxRecDepth 100000 in
theorem im_X7_areIn : Cond.instanceMethod yX7_areIn ∈ WT := mWT 920 rfl rfl
set_option maxRecDepth 100000 in
theorem cd_X7_areIn : Cond.code yX7_areIn cX7_areIn 4 (some .boolean) ∈ WT := mWT 921 rfl rfl
set_option maxRecDepth 100000 in
theorem ml_X7_152 : Cond.methodLink RX7 152 yX7_firstDay ∈ WT := mWT 922 rfl rfl
set_option maxRecDepth 100000 in
theorem im_X7_firstDay : Cond.instanceMethod yX7_firstDay ∈ WT := mWT 924 rfl rfl
set_option maxRecDepth 100000 in
theorem cd_X7_firstDay : Cond.code yX7_firstDay cX7_firstDay 2 (some .int) ∈ WT := mWT 925 rfl rfl
set_option maxRecDepth 100000 in
theorem ml_L_76 : Cond.methodLink RL 76 yX7_together ∈ WT := mWT 926 rfl rfl
set_option maxRecDepth 100000 in
theorem im_X7_together : Cond.instanceMethod yX7_together ∈ WT := mWT 927 rfl rfl
set_option maxRecDepth 100000 in
theorem se_X7_together : Cond.selects RX7 yX7_together yX7_together ∈ WT := mWT 928 rfl rfl
set_option maxRecDepth 100000 in
theorem cd_X7_together : Cond.code yX7_together cX7_together 6 (some .int) ∈ WT := mWT 929 rfl rfl
set_option maxRecDepth 100000 in
theorem ml_L_80 : Cond.methodLink RL 80 yX7_begin ∈ WT := mWT 930 rfl rfl
set_option maxRecDepth 100000 in
theorem im_X7_begin : Cond.instanceMethod yX7_begin ∈ WT := mWT 931 rfl rfl
set_option maxRecDepth 100000 in
theorem se_X7_begin : Cond.selects RX7 yX7_begin yX7_begin ∈ WT := mWT 932 rfl rfl
set_option maxRecDepth 100000 in
theorem cd_X7_begin : Cond.code yX7_begin cX7_begin 5 (some .int) ∈ WT := mWT 933 rfl rfl
set_option maxRecDepth 100000 in
theorem ml_X7_155 : Cond.methodLink RX7 155 yX7_isThere ∈ WT := mWT 934 rfl rfl
set_option maxRecDepth 100000 in
theorem im_X7_isThere : Cond.instanceMethod yX7_isThere ∈ WT := mWT 936 rfl rfl
set_option maxRecDepth 100000 in
theorem cd_X7_isThere : Cond.code yX7_isThere cX7_isThere 7 (some .boolean) ∈ WT := mWT 937 rfl rfl
set_option maxRecDepth 100000 in
theorem ml_L_84 : Cond.methodLink RL 84 yX7_longest ∈ WT := mWT 938 rfl rfl
set_option maxRecDepth 100000 in
theorem im_X7_longest : Cond.instanceMethod yX7_longest ∈ WT := mWT 939 rfl rfl
set_option maxRecDepth 100000 in
theorem se_X7_longest : Cond.selects RX7 yX7_longest yX7_longest ∈ WT := mWT 940 rfl rfl
set_option maxRecDepth 100000 in
theorem cd_X7_longest : Cond.code yX7_longest cX7_longest 5 (some .int) ∈ WT := mWT 941 rfl rfl
set_option maxRecDepth 100000 in
theorem ml_L_88 : Cond.methodLink RL 88 yX7_struck ∈ WT := mWT 942 rfl rfl
set_option maxRecDepth 100000 in
theorem im_X7_struck : Cond.instanceMethod yX7_struck ∈ WT := mWT 943 rfl rfl
set_option maxRecDepth 100000 in
theorem se_X7_struck : Cond.selects RX7 yX7_struck yX7_struck ∈ WT := mWT 944 rfl rfl
set_option maxRecDepth 100000 in
theorem cd_X7_struck : Cond.code yX7_struck cX7_struck 6 (some .int) ∈ WT := mWT 945 rfl rfl
set_option maxRecDepth 100000 in
theorem ml_X7_159 : Cond.methodLink RX7 159 yX7_isWar ∈ WT := mWT 946 rfl rfl
set_option maxRecDepth 100000 in
theorem im_X7_isWar : Cond.instanceMethod yX7_isWar ∈ WT := mWT 948 rfl rfl
set_option maxRecDepth 100000 in
theorem cd_X7_isWar : Cond.code yX7_isWar cX7_isWar 3 (some .boolean) ∈ WT := mWT 949 rfl rfl
set_option maxRecDepth 100000 in
theorem ml_L_92 : Cond.methodLink RL 92 yX7_sure ∈ WT := mWT 950 rfl rfl
set_option maxRecDepth 100000 in
theorem im_X7_sure : Cond.instanceMethod yX7_sure ∈ WT := mWT 951 rfl rfl
set_option maxRecDepth 100000 in
theorem se_X7_sure : Cond.selects RX7 yX7_sure yX7_sure ∈ WT := mWT 952 rfl rfl
set_option maxRecDepth 100000 in
theorem cd_X7_sure : Cond.code yX7_sure cX7_sure 6 (some .int) ∈ WT := mWT 953 rfl rfl
set_option maxRecDepth 100000 in
theorem ml_X7_162 : Cond.methodLink RX7 162 yX7_begin ∈ WT := mWT 954 rfl rfl
set_option maxRecDepth 100000 in
theorem ml_L_96 : Cond.methodLink RL 96 yX7_fooled ∈ WT := mWT 955 rfl rfl
set_option maxRecDepth 100000 in
theorem im_X7_fooled : Cond.instanceMethod yX7_fooled ∈ WT := mWT 956 rfl rfl
set_option maxRecDepth 100000 in
theorem se_X7_fooled : Cond.selects RX7 yX7_fooled yX7_fooled ∈ WT := mWT 957 rfl rfl
set_option maxRecDepth 100000 in
theorem cd_X7_fooled : Cond.code yX7_fooled cX7_fooled 8 (some .int) ∈ WT := mWT 958 rfl rfl
set_option maxRecDepth 100000 in
theorem ml_L_100 : Cond.methodLink RL 100 yX7_letter ∈ WT := mWT 959 rfl rfl
set_option maxRecDepth 100000 in
theorem im_X7_letter : Cond.instanceMethod yX7_letter ∈ WT := mWT 960 rfl rfl
set_option maxRecDepth 100000 in
theorem se_X7_letter : Cond.selects RX7 yX7_letter yX7_letter ∈ WT := mWT 961 rfl rfl
set_option maxRecDepth 100000 in
theorem cd_X7_letter : Cond.code yX7_letter cX7_letter 3 (some .int) ∈ WT := mWT 962 rfl rfl
set_option maxRecDepth 100000 in
theorem ml_L_104 : Cond.methodLink RL 104 yX7_copy ∈ WT := mWT 963 rfl rfl
set_option maxRecDepth 100000 in
theorem im_X7_copy : Cond.instanceMethod yX7_copy ∈ WT := mWT 964 rfl rfl
set_option maxRecDepth 100000 in
theorem se_X7_copy : Cond.selects RX7 yX7_copy yX7_copy ∈ WT := mWT 965 rfl rfl
set_option maxRecDepth 100000 in
theorem cd_X7_copy : Cond.code yX7_copy cX7_copy 3 (some .int) ∈ WT := mWT 966 rfl rfl
set_option maxRecDepth 100000 in
theorem ml_L_108 : Cond.methodLink RL 108 yX7_furs ∈ WT := mWT 967 rfl rfl
set_option maxRecDepth 100000 in
theorem im_X7_furs : Cond.instanceMethod yX7_furs ∈ WT := mWT 968 rfl rfl
set_option maxRecDepth 100000 in
theorem se_X7_furs : Cond.selects RX7 yX7_furs yX7_furs ∈ WT := mWT 969 rfl rfl
set_option maxRecDepth 100000 in
theorem cd_X7_furs : Cond.code yX7_furs cX7_furs 8 (some .int) ∈ WT := mWT 970 rfl rfl
set_option maxRecDepth 100000 in
theorem ml_L_113 : Cond.methodLink RL 113 yX7_seen ∈ WT := mWT 971 rfl rfl
set_option maxRecDepth 100000 in
theorem im_X7_seen : Cond.instanceMethod yX7_seen ∈ WT := mWT 972 rfl rfl
set_option maxRecDepth 100000 in
theorem se_X7_seen : Cond.selects RX7 yX7_seen yX7_seen ∈ WT := mWT 973 rfl rfl
set_option maxRecDepth 100000 in
theorem cd_X7_seen : Cond.code yX7_seen cX7_seen 3 (some .int) ∈ WT := mWT 974 rfl rfl
set_option maxRecDepth 100000 in
theorem ml_L_117 : Cond.methodLink RL 117 yX7_forget ∈ WT := mWT 975 rfl rfl
set_option maxRecDepth 100000 in
theorem im_X7_forget : Cond.instanceMethod yX7_forget ∈ WT := mWT 976 rfl rfl
set_option maxRecDepth 100000 in
theorem se_X7_forget : Cond.selects RX7 yX7_forget yX7_forget ∈ WT := mWT 977 rfl rfl
set_option maxRecDepth 100000 in
theorem cd_X7_forget : Cond.code yX7_forget cX7_forget 2 (some .int) ∈ WT := mWT 978 rfl rfl
set_option maxRecDepth 100000 in
theorem ml_L_121 : Cond.methodLink RL 121 yX7_changed ∈ WT := mWT 979 rfl rfl
set_option maxRecDepth 100000 in
theorem im_X7_changed : Cond.instanceMethod yX7_changed ∈ WT := mWT 980 rfl rfl
set_option maxRecDepth 100000 in
theorem se_X7_changed : Cond.selects RX7 yX7_changed yX7_changed ∈ WT := mWT 981 rfl rfl
set_option maxRecDepth 100000 in
theorem cd_X7_changed : Cond.code yX7_changed cX7_changed 7 (some .int) ∈ WT := mWT 982 rfl rfl
set_option maxRecDepth 100000 in
theorem ml_X7_178 : Cond.methodLink RX7 178 yX7_codes ∈ WT := mWT 983 rfl rfl
set_option maxRecDepth 100000 in
theorem im_X7_codes : Cond.instanceMethod yX7_codes ∈ WT := mWT 985 rfl rfl
set_option maxRecDepth 100000 in
theorem cd_X7_codes : Cond.code yX7_codes cX7_codes 3 (some .int) ∈ WT := mWT 986 rfl rfl
set_option maxRecDepth 100000 in
theorem ml_X7_181 : Cond.methodLink RX7 181 yX7_isRow ∈ WT := mWT 987 rfl rfl
set_option maxRecDepth 100000 in
theorem im_X7_isRow : Cond.instanceMethod yX7_isRow ∈ WT := mWT 989 rfl rfl
set_option maxRecDepth 100000 in
theorem cd_X7_isRow : Cond.code yX7_isRow cX7_isRow 4 (some .boolean) ∈ WT := mWT 990 rfl rfl
set_option maxRecDepth 100000 in
theorem ml_X7_172 : Cond.methodLink RX7 172 yX7_deals ∈ WT := mWT 991 rfl rfl
set_option maxRecDepth 100000 in
theorem im_X7_deals : Cond.instanceMethod yX7_deals ∈ WT := mWT 993 rfl rfl
set_option maxRecDepth 100000 in
theorem cd_X7_deals : Cond.code yX7_deals cX7_deals 6 (some .boolean) ∈ WT := mWT 994 rfl rfl
set_option maxRecDepth 100000 in
theorem ml_X7_166 : Cond.methodLink RX7 166 yX7_living ∈ WT := mWT 995 rfl rfl
set_option maxRecDepth 100000 in
theorem im_X7_living : Cond.instanceMethod yX7_living ∈ WT := mWT 997 rfl rfl
set_option maxRecDepth 100000 in
theorem cd_X7_living : Cond.code yX7_living cX7_living 3 (some .int) ∈ WT := mWT 998 rfl rfl
set_option maxRecDepth 100000 in
theorem ml_X7_169 : Cond.methodLink RX7 169 yX7_has ∈ WT := mWT 999 rfl rfl
set_option maxRecDepth 100000 in
theorem st_X7_has : Cond.static yX7_has ∈ WT := mWT 1000 rfl rfl
set_option maxRecDepth 100000 in
theorem cd_X7_has : Cond.code yX7_has cX7_has 2 (some .boolean) ∈ WT := mWT 1001 rfl rfl
set_option maxRecDepth 100000 in
theorem ml_X7_175 : Cond.methodLink RX7 175 yX7_coughOf ∈ WT := mWT 1002 rfl rfl
set_option maxRecDepth 100000 in
theorem im_X7_coughOf : Cond.instanceMethod yX7_coughOf ∈ WT := mWT 1004 rfl rfl
set_option maxRecDepth 100000 in
theorem cd_X7_coughOf : Cond.code yX7_coughOf cX7_coughOf 4 (some .int) ∈ WT := mWT 1005 rfl rfl
set_option maxRecDepth 100000 in
theorem ml_L_125 : Cond.methodLink RL 125 yX7_names ∈ WT := mWT 1006 rfl rfl
set_option maxRecDepth 100000 in
theorem im_X7_names : Cond.instanceMethod yX7_names ∈ WT := mWT 1007 rfl rfl
set_option maxRecDepth 100000 in
theorem se_X7_names : Cond.selects RX7 yX7_names yX7_names ∈ WT := mWT 1008 rfl rfl
set_option maxRecDepth 100000 in
theorem cd_X7_names : Cond.code yX7_names cX7_names 5 (some .int) ∈ WT := mWT 1009 rfl rfl
set_option maxRecDepth 100000 in
theorem ml_L_129 : Cond.methodLink RL 129 yX7_hear ∈ WT := mWT 1010 rfl rfl
set_option maxRecDepth 100000 in
theorem im_X7_hear : Cond.instanceMethod yX7_hear ∈ WT := mWT 1011 rfl rfl
set_option maxRecDepth 100000 in
theorem se_X7_hear : Cond.selects RX7 yX7_hear yX7_hear ∈ WT := mWT 1012 rfl rfl
set_option maxRecDepth 100000 in
theorem cd_X7_hear : Cond.code yX7_hear cX7_hear 9 (some .int) ∈ WT := mWT 1013 rfl rfl
set_option maxRecDepth 100000 in
theorem kc_X7_184 : Cond.constant RX7 184 (1000000) ∈ WT := mWT 1014 rfl rfl
set_option maxRecDepth 100000 in
theorem ml_L_133 : Cond.methodLink RL 133 yX7_undo ∈ WT := mWT 1015 rfl rfl
set_option maxRecDepth 100000 in
theorem im_X7_undo : Cond.instanceMethod yX7_undo ∈ WT := mWT 1016 rfl rfl
set_option maxRecDepth 100000 in
theorem se_X7_undo : Cond.selects RX7 yX7_undo yX7_undo ∈ WT := mWT 1017 rfl rfl
set_option maxRecDepth 100000 in
theorem cd_X7_undo : Cond.code yX7_undo cX7_undo 5 (some .int) ∈ WT := mWT 1018 rfl rfl
set_option maxRecDepth 100000 in
theorem ml_L_137 : Cond.methodLink RL 137 yX7_marriages ∈ WT := mWT 1019 rfl rfl
set_option maxRecDepth 100000 in
theorem im_X7_marriages : Cond.instanceMethod yX7_marriages ∈ WT := mWT 1020 rfl rfl
set_option maxRecDepth 100000 in
theorem se_X7_marriages : Cond.selects RX7 yX7_marriages yX7_marriages ∈ WT := mWT 1021 rfl rfl
set_option maxRecDepth 100000 in
theorem cd_X7_marriages : Cond.code yX7_marriages cX7_marriages 12 (some .int) ∈ WT := mWT 1022 rfl rfl
set_option maxRecDepth 100000 in
theorem kc_X7_185 : Cond.constant RX7 185 (46656) ∈ WT := mWT 1023 rfl rfl
set_option maxRecDepth 100000 in
theorem ml_X7_186 : Cond.methodLink RX7 186 yX7_doMeet ∈ WT := mWT 1024 rfl rfl
set_option maxRecDepth 100000 in
theorem im_X7_doMeet : Cond.instanceMethod yX7_doMeet ∈ WT := mWT 1026 rfl rfl
set_option maxRecDepth 100000 in
theorem cd_X7_doMeet : Cond.code yX7_doMeet cX7_doMeet 6 (some .boolean) ∈ WT := mWT 1027 rfl rfl
set_option maxRecDepth 100000 in
theorem ml_L_142 : Cond.methodLink RL 142 yX7_deaths ∈ WT := mWT 1028 rfl rfl
set_option maxRecDepth 100000 in
theorem im_X7_deaths : Cond.instanceMethod yX7_deaths ∈ WT := mWT 1029 rfl rfl
set_option maxRecDepth 100000 in
theorem se_X7_deaths : Cond.selects RX7 yX7_deaths yX7_deaths ∈ WT := mWT 1030 rfl rfl
set_option maxRecDepth 100000 in
theorem cd_X7_deaths : Cond.code yX7_deaths cX7_deaths 16 (some .long) ∈ WT := mWT 1031 rfl rfl
set_option maxRecDepth 100000 in
theorem kc_X7_189 : Cond.constantLong RX7 189 (-1000000000000000002) ∈ WT := mWT 1032 rfl rfl
set_option maxRecDepth 100000 in
theorem ml_X7_191 : Cond.methodLink RX7 191 yX7_alive ∈ WT := mWT 1033 rfl rfl
set_option maxRecDepth 100000 in
theorem im_X7_alive : Cond.instanceMethod yX7_alive ∈ WT := mWT 1035 rfl rfl
set_option maxRecDepth 100000 in
theorem cd_X7_alive : Cond.code yX7_alive cX7_alive 3 (some .int) ∈ WT := mWT 1036 rfl rfl
set_option maxRecDepth 100000 in
theorem kc_X7_194 : Cond.constantLong RX7 194 (10) ∈ WT := mWT 1037 rfl rfl
set_option maxRecDepth 100000 in
theorem ml_L_146 : Cond.methodLink RL 146 yX7_year ∈ WT := mWT 1038 rfl rfl
set_option maxRecDepth 100000 in
theorem im_X7_year : Cond.instanceMethod yX7_year ∈ WT := mWT 1039 rfl rfl
set_option maxRecDepth 100000 in
theorem se_X7_year : Cond.selects RX7 yX7_year yX7_year ∈ WT := mWT 1040 rfl rfl
set_option maxRecDepth 100000 in
theorem cd_X7_year : Cond.code yX7_year cX7_year 9 (some .int) ∈ WT := mWT 1041 rfl rfl
set_option maxRecDepth 100000 in
theorem kc_X7_196 : Cond.constant RX7 196 (65537) ∈ WT := mWT 1042 rfl rfl
set_option maxRecDepth 100000 in
theorem ml_L_150 : Cond.methodLink RL 150 yX7_image ∈ WT := mWT 1043 rfl rfl
set_option maxRecDepth 100000 in
theorem im_X7_image : Cond.instanceMethod yX7_image ∈ WT := mWT 1044 rfl rfl
set_option maxRecDepth 100000 in
theorem se_X7_image : Cond.selects RX7 yX7_image yX7_image ∈ WT := mWT 1045 rfl rfl
set_option maxRecDepth 100000 in
theorem cd_X7_image : Cond.code yX7_image cX7_image 4 (some .int) ∈ WT := mWT 1046 rfl rfl
set_option maxRecDepth 100000 in
theorem ml_L_154 : Cond.methodLink RL 154 yX7_restore ∈ WT := mWT 1047 rfl rfl
set_option maxRecDepth 100000 in
theorem im_X7_restore : Cond.instanceMethod yX7_restore ∈ WT := mWT 1048 rfl rfl
set_option maxRecDepth 100000 in
theorem se_X7_restore : Cond.selects RX7 yX7_restore yX7_restore ∈ WT := mWT 1049 rfl rfl
set_option maxRecDepth 100000 in
theorem cd_X7_restore : Cond.code yX7_restore cX7_restore 4 (some .int) ∈ WT := mWT 1050 rfl rfl
set_option maxRecDepth 100000 in
theorem ml_L_158 : Cond.methodLink RL 158 yX7_told ∈ WT := mWT 1051 rfl rfl
set_option maxRecDepth 100000 in
theorem im_X7_told : Cond.instanceMethod yX7_told ∈ WT := mWT 1052 rfl rfl
set_option maxRecDepth 100000 in
theorem se_X7_told : Cond.selects RX7 yX7_told yX7_told ∈ WT := mWT 1053 rfl rfl
set_option maxRecDepth 100000 in
theorem cd_X7_told : Cond.code yX7_told cX7_told 4 (some .int) ∈ WT := mWT 1054 rfl rfl
set_option maxRecDepth 100000 in
theorem inW_X0 : ∀ w ∈ wsX00, w ∈ WT := by decide +kernel
set_option maxRecDepth 100000 in
theorem inW_X1 : ∀ w ∈ wsX10, w ∈ WT := by decide +kernel
set_option maxRecDepth 100000 in
theorem inW_X2 : ∀ w ∈ wsX20, w ∈ WT := by decide +kernel
set_option maxRecDepth 100000 in
theorem inW_X3 : ∀ w ∈ wsX30, w ∈ WT := by decide +kernel
set_option maxRecDepth 100000 in
theorem inW_X4 : ∀ w ∈ wsX40, w ∈ WT := by decide +kernel
set_option maxRecDepth 100000 in
theorem inW_X5 : ∀ w ∈ wsX50, w ∈ WT := by decide +kernel
set_option maxRecDepth 100000 in
theorem inW_X6 : ∀ w ∈ wsX60, w ∈ WT := by decide +kernel
set_option maxRecDepth 100000 in
theorem inW_X7 : ∀ w ∈ wsX70, w ∈ WT := by decide +kernel
theorem mI_X6_init : MI yX6_init cX6_init 1 0 := ⟨im_X6_init, ini_X6, cd_X6_init, rfl, by decide +kernel, by decide +kernel, by decide +kernel⟩
theorem mI_X2_init : MI yX2_init cX2_init 1 0 := ⟨im_X2_init, ini_X2, cd_X2_init, rfl, by decide +kernel, by decide +kernel, by decide +kernel⟩
theorem mI_X3_init : MI yX3_init cX3_init 2 1 := ⟨im_X3_init, ini_X3, cd_X3_init, rfl, by decide +kernel, by decide +kernel, by decide +kernel⟩
theorem mI_X1_init : MI yX1_init cX1_init 1 0 := ⟨im_X1_init, ini_X1, cd_X1_init, rfl, by decide +kernel, by decide +kernel, by decide +kernel⟩
theorem mI_X5_init : MI yX5_init cX5_init 1 0 := ⟨im_X5_init, ini_X5, cd_X5_init, rfl, by decide +kernel, by decide +kernel, by decide +kernel⟩
theorem mI_X0_init : MI yX0_init cX0_init 1 0 := ⟨im_X0_init, ini_X0, cd_X0_init, rfl, by decide +kernel, by decide +kernel, by decide +kernel⟩
theorem mI_X4_init : MI yX4_init cX4_init 1 0 := ⟨im_X4_init, ini_X4, cd_X4_init, rfl, by decide +kernel, by decide +kernel, by decide +kernel⟩
theorem mV_X2_startAnew : MV RX2 yX2_startAnew cX2_startAnew 3 none 1 := ⟨im_X2_startAnew, se_X2_startAnew, ini_X2, cd_X2_startAnew, rfl, by decide +kernel, by decide +kernel, by decide +kernel⟩
theorem mV_X3_fill : MV RX3 yX3_fill cX3_fill 3 none 1 := ⟨im_X3_fill, se_X3_fill, ini_X3, cd_X3_fill, rfl, by decide +kernel, by decide +kernel, by decide +kernel⟩
theorem mV_X3_put : MV RX3 yX3_put cX3_put 3 none 2 := ⟨im_X3_put, se_X3_put, ini_X3, cd_X3_put, rfl, by decide +kernel, by decide +kernel, by decide +kernel⟩
theorem mV_X6_lands : MV RX6 yX6_lands cX6_lands 3 (some .int) 1 := ⟨im_X6_lands, se_X6_lands, ini_X6, cd_X6_lands, rfl, by decide +kernel, by decide +kernel, by decide +kernel⟩
theorem mS_X6_within : MS yX6_within cX6_within 3 (some .boolean) 3 := ⟨st_X6_within, ini_X6, cd_X6_within, by decide +kernel, by decide +kernel, by decide +kernel⟩
theorem mV_X6_season : MV RX6 yX6_season cX6_season 3 (some .int) 1 := ⟨im_X6_season, se_X6_season, ini_X6, cd_X6_season, rfl, by decide +kernel, by decide +kernel, by decide +kernel⟩
theorem mV_X6_set : MV RX6 yX6_set cX6_set 6 (some .int) 3 := ⟨im_X6_set, se_X6_set, ini_X6, cd_X6_set, rfl, by decide +kernel, by decide +kernel, by decide +kernel⟩
theorem mV_X2_has : MV RX2 yX2_has cX2_has 2 (some .boolean) 1 := ⟨im_X2_has, se_X2_has, ini_X2, cd_X2_has, rfl, by decide +kernel, by decide +kernel, by decide +kernel⟩
theorem mV_X3_get : MV RX3 yX3_get cX3_get 2 (some .int) 1 := ⟨im_X3_get, se_X3_get, ini_X3, cd_X3_get, rfl, by decide +kernel, by decide +kernel, by decide +kernel⟩
theorem mV_X6_say : MV RX6 yX6_say cX6_say 2 (some .int) 1 := ⟨im_X6_say, se_X6_say, ini_X6, cd_X6_say, rfl, by decide +kernel, by decide +kernel, by decide +kernel⟩
theorem mV_X1_add : MV RX1 yX1_add cX1_add 2 (some .int) 1 := ⟨im_X1_add, se_X1_add, ini_X1, cd_X1_add, rfl, by decide +kernel, by decide +kernel, by decide +kernel⟩
theorem mV_X6_wipe : MV RX6 yX6_wipe cX6_wipe 1 (some .int) 0 := ⟨im_X6_wipe, se_X6_wipe, ini_X6, cd_X6_wipe, rfl, by decide +kernel, by decide +kernel, by decide +kernel⟩
theorem mV_X1_clear : MV RX1 yX1_clear cX1_clear 2 (some .int) 0 := ⟨im_X1_clear, se_X1_clear, ini_X1, cd_X1_clear, rfl, by decide +kernel, by decide +kernel, by decide +kernel⟩
theorem mV_X6_fault : MV RX6 yX6_fault cX6_fault 1 (some .int) 0 := ⟨im_X6_fault, se_X6_fault, ini_X6, cd_X6_fault, rfl, by decide +kernel, by decide +kernel, by decide +kernel⟩
theorem mV_X1_firstFault : MV RX1 yX1_firstFault cX1_firstFault 4 (some .int) 1 := ⟨im_X1_firstFault, se_X1_firstFault, ini_X1, cd_X1_firstFault, rfl, by decide +kernel, by decide +kernel, by decide +kernel⟩
theorem mS_X1_isTime : MS yX1_isTime cX1_isTime 1 (some .boolean) 1 := ⟨st_X1_isTime, ini_X1, cd_X1_isTime, by decide +kernel, by decide +kernel, by decide +kernel⟩
theorem mS_X1_isChild : MS yX1_isChild cX1_isChild 2 (some .boolean) 2 := ⟨st_X1_isChild, ini_X1, cd_X1_isChild, by decide +kernel, by decide +kernel, by decide +kernel⟩
theorem mS_X1_isFate : MS yX1_isFate cX1_isFate 1 (some .boolean) 1 := ⟨st_X1_isFate, ini_X1, cd_X1_isFate, by decide +kernel, by decide +kernel, by decide +kernel⟩
theorem mV_X6_judge : MV RX6 yX6_judge cX6_judge 2 (some .int) 1 := ⟨im_X6_judge, se_X6_judge, ini_X6, cd_X6_judge, rfl, by decide +kernel, by decide +kernel, by decide +kernel⟩
theorem mV_X5_canBe : MV RX5 yX5_canBe cX5_canBe 6 (some .boolean) 3 := ⟨im_X5_canBe, se_X5_canBe, ini_X5, cd_X5_canBe, rfl, by decide +kernel, by decide +kernel, by decide +kernel⟩
theorem mV_X2_takeOver : MV RX2 yX2_takeOver cX2_takeOver 2 none 1 := ⟨im_X2_takeOver, se_X2_takeOver, ini_X2, cd_X2_takeOver, rfl, by decide +kernel, by decide +kernel, by decide +kernel⟩
theorem mV_X3_takeOver : MV RX3 yX3_takeOver cX3_takeOver 3 none 1 := ⟨im_X3_takeOver, se_X3_takeOver, ini_X3, cd_X3_takeOver, rfl, by decide +kernel, by decide +kernel, by decide +kernel⟩
theorem mS_X5_passTime : MS yX5_passTime cX5_passTime 2 none 2 := ⟨st_X5_passTime, ini_X5, cd_X5_passTime, by decide +kernel, by decide +kernel, by decide +kernel⟩
theorem mV_X2_passDays : MV RX2 yX2_passDays cX2_passDays 3 none 1 := ⟨im_X2_passDays, se_X2_passDays, ini_X2, cd_X2_passDays, rfl, by decide +kernel, by decide +kernel, by decide +kernel⟩
theorem mV_X2_passEquinox : MV RX2 yX2_passEquinox cX2_passEquinox 2 none 0 := ⟨im_X2_passEquinox, se_X2_passEquinox, ini_X2, cd_X2_passEquinox, rfl, by decide +kernel, by decide +kernel, by decide +kernel⟩
theorem mV_X2_lives : MV RX2 yX2_lives cX2_lives 2 (some .boolean) 1 := ⟨im_X2_lives, se_X2_lives, ini_X2, cd_X2_lives, rfl, by decide +kernel, by decide +kernel, by decide +kernel⟩
theorem mS_X6_leftOver : MS yX6_leftOver cX6_leftOver 3 (some .int) 2 := ⟨st_X6_leftOver, ini_X6, cd_X6_leftOver, by decide +kernel, by decide +kernel, by decide +kernel⟩
theorem mV_X2_passSeason : MV RX2 yX2_passSeason cX2_passSeason 1 none 0 := ⟨im_X2_passSeason, se_X2_passSeason, ini_X2, cd_X2_passSeason, rfl, by decide +kernel, by decide +kernel, by decide +kernel⟩
theorem mS_X5_befall : MS yX5_befall cX5_befall 3 (some .int) 3 := ⟨st_X5_befall, ini_X5, cd_X5_befall, by decide +kernel, by decide +kernel, by decide +kernel⟩
theorem mV_X2_die : MV RX2 yX2_die cX2_die 2 (some .int) 1 := ⟨im_X2_die, se_X2_die, ini_X2, cd_X2_die, rfl, by decide +kernel, by decide +kernel, by decide +kernel⟩
theorem mV_X2_bind : MV RX2 yX2_bind cX2_bind 3 (some .int) 2 := ⟨im_X2_bind, se_X2_bind, ini_X2, cd_X2_bind, rfl, by decide +kernel, by decide +kernel, by decide +kernel⟩
theorem mV_X2_changeHats : MV RX2 yX2_changeHats cX2_changeHats 3 (some .int) 2 := ⟨im_X2_changeHats, se_X2_changeHats, ini_X2, cd_X2_changeHats, rfl, by decide +kernel, by decide +kernel, by decide +kernel⟩
theorem mV_X2_swapNames : MV RX2 yX2_swapNames cX2_swapNames 4 none 2 := ⟨im_X2_swapNames, se_X2_swapNames, ini_X2, cd_X2_swapNames, rfl, by decide +kernel, by decide +kernel, by decide +kernel⟩
theorem mV_X6_done : MV RX6 yX6_done cX6_done 1 (some .int) 0 := ⟨im_X6_done, se_X6_done, ini_X6, cd_X6_done, rfl, by decide +kernel, by decide +kernel, by decide +kernel⟩
theorem mV_X6_yearsCanBe : MV RX6 yX6_yearsCanBe cX6_yearsCanBe 1 (some .boolean) 0 := ⟨im_X6_yearsCanBe, se_X6_yearsCanBe, ini_X6, cd_X6_yearsCanBe, rfl, by decide +kernel, by decide +kernel, by decide +kernel⟩
theorem mV_X6_state : MV RX6 yX6_state cX6_state 3 (some .int) 2 := ⟨im_X6_state, se_X6_state, ini_X6, cd_X6_state, rfl, by decide +kernel, by decide +kernel, by decide +kernel⟩
theorem mV_X2_landAfter : MV RX2 yX2_landAfter cX2_landAfter 4 (some .int) 2 := ⟨im_X2_landAfter, se_X2_landAfter, ini_X2, cd_X2_landAfter, rfl, by decide +kernel, by decide +kernel, by decide +kernel⟩
theorem mS_J9_max_7cf53 : MS yJ9_max_7cf53 cJ9_max_7cf53 2 (some .int) 2 := ⟨st_J9_max_7cf53, ini_J9, cd_J9_max_7cf53, by decide +kernel, by decide +kernel, by decide +kernel⟩
theorem mV_X6_behind : MV RX6 yX6_behind cX6_behind 3 (some .int) 2 := ⟨im_X6_behind, se_X6_behind, ini_X6, cd_X6_behind, rfl, by decide +kernel, by decide +kernel, by decide +kernel⟩
theorem mV_X6_day : MV RX6 yX6_day cX6_day 1 (some .int) 0 := ⟨im_X6_day, se_X6_day, ini_X6, cd_X6_day, rfl, by decide +kernel, by decide +kernel, by decide +kernel⟩
theorem mV_X6_where : MV RX6 yX6_where cX6_where 3 (some .int) 2 := ⟨im_X6_where, se_X6_where, ini_X6, cd_X6_where, rfl, by decide +kernel, by decide +kernel, by decide +kernel⟩
theorem mV_X2_equinoxesTill : MV RX2 yX2_equinoxesTill cX2_equinoxesTill 2 (some .int) 1 := ⟨im_X2_equinoxesTill, se_X2_equinoxesTill, ini_X2, cd_X2_equinoxesTill, rfl, by decide +kernel, by decide +kernel, by decide +kernel⟩
theorem mS_X6_cut : MS yX6_cut cX6_cut 2 (some .int) 2 := ⟨st_X6_cut, ini_X6, cd_X6_cut, by decide +kernel, by decide +kernel, by decide +kernel⟩
theorem mV_X6_who : MV RX6 yX6_who cX6_who 3 (some .int) 2 := ⟨im_X6_who, se_X6_who, ini_X6, cd_X6_who, rfl, by decide +kernel, by decide +kernel, by decide +kernel⟩
theorem mV_X2_guestsAfter : MV RX2 yX2_guestsAfter cX2_guestsAfter 5 (some .int) 2 := ⟨im_X2_guestsAfter, se_X2_guestsAfter, ini_X2, cd_X2_guestsAfter, rfl, by decide +kernel, by decide +kernel, by decide +kernel⟩
theorem mV_X6_meet : MV RX6 yX6_meet cX6_meet 4 (some .int) 2 := ⟨im_X6_meet, se_X6_meet, ini_X6, cd_X6_meet, rfl, by decide +kernel, by decide +kernel, by decide +kernel⟩
theorem mV_X2_hasBoth : MV RX2 yX2_hasBoth cX2_hasBoth 3 (some .boolean) 2 := ⟨im_X2_hasBoth, se_X2_hasBoth, ini_X2, cd_X2_hasBoth, rfl, by decide +kernel, by decide +kernel, by decide +kernel⟩
theorem mV_X2_shareALand : MV RX2 yX2_shareALand cX2_shareALand 5 (some .boolean) 3 := ⟨im_X2_shareALand, se_X2_shareALand, ini_X2, cd_X2_shareALand, rfl, by decide +kernel, by decide +kernel, by decide +kernel⟩
theorem mV_X2_firstDayAfter : MV RX2 yX2_firstDayAfter cX2_firstDayAfter 2 (some .int) 1 := ⟨im_X2_firstDayAfter, se_X2_firstDayAfter, ini_X2, cd_X2_firstDayAfter, rfl, by decide +kernel, by decide +kernel, by decide +kernel⟩
theorem mV_X6_together : MV RX6 yX6_together cX6_together 6 (some .int) 3 := ⟨im_X6_together, se_X6_together, ini_X6, cd_X6_together, rfl, by decide +kernel, by decide +kernel, by decide +kernel⟩
theorem mS_J9_min_7cf53 : MS yJ9_min_7cf53 cJ9_min_7cf53 2 (some .int) 2 := ⟨st_J9_min_7cf53, ini_J9, cd_J9_min_7cf53, by decide +kernel, by decide +kernel, by decide +kernel⟩
theorem mV_X2_daysLikeSeason : MV RX2 yX2_daysLikeSeason cX2_daysLikeSeason 6 (some .int) 2 := ⟨im_X2_daysLikeSeason, se_X2_daysLikeSeason, ini_X2, cd_X2_daysLikeSeason, rfl, by decide +kernel, by decide +kernel, by decide +kernel⟩
theorem mV_X6_begin : MV RX6 yX6_begin cX6_begin 4 (some .int) 3 := ⟨im_X6_begin, se_X6_begin, ini_X6, cd_X6_begin, rfl, by decide +kernel, by decide +kernel, by decide +kernel⟩
theorem mV_X2_firstWar : MV RX2 yX2_firstWar cX2_firstWar 6 (some .int) 3 := ⟨im_X2_firstWar, se_X2_firstWar, ini_X2, cd_X2_firstWar, rfl, by decide +kernel, by decide +kernel, by decide +kernel⟩
theorem mV_X2_daysAway : MV RX2 yX2_daysAway cX2_daysAway 6 (some .int) 3 := ⟨im_X2_daysAway, se_X2_daysAway, ini_X2, cd_X2_daysAway, rfl, by decide +kernel, by decide +kernel, by decide +kernel⟩
theorem mV_X6_longest : MV RX6 yX6_longest cX6_longest 4 (some .int) 3 := ⟨im_X6_longest, se_X6_longest, ini_X6, cd_X6_longest, rfl, by decide +kernel, by decide +kernel, by decide +kernel⟩
theorem mV_X6_struck : MV RX6 yX6_struck cX6_struck 6 (some .int) 3 := ⟨im_X6_struck, se_X6_struck, ini_X6, cd_X6_struck, rfl, by decide +kernel, by decide +kernel, by decide +kernel⟩
theorem mV_X6_sure : MV RX6 yX6_sure cX6_sure 6 (some .int) 1 := ⟨im_X6_sure, se_X6_sure, ini_X6, cd_X6_sure, rfl, by decide +kernel, by decide +kernel, by decide +kernel⟩
theorem mV_X6_fooled : MV RX6 yX6_fooled cX6_fooled 8 (some .int) 3 := ⟨im_X6_fooled, se_X6_fooled, ini_X6, cd_X6_fooled, rfl, by decide +kernel, by decide +kernel, by decide +kernel⟩
theorem mV_X2_bearerOf : MV RX2 yX2_bearerOf cX2_bearerOf 3 (some .int) 1 := ⟨im_X2_bearerOf, se_X2_bearerOf, ini_X2, cd_X2_bearerOf, rfl, by decide +kernel, by decide +kernel, by decide +kernel⟩
theorem mV_X6_letter : MV RX6 yX6_letter cX6_letter 3 (some .int) 2 := ⟨im_X6_letter, se_X6_letter, ini_X6, cd_X6_letter, rfl, by decide +kernel, by decide +kernel, by decide +kernel⟩
theorem mV_X6_copy : MV RX6 yX6_copy cX6_copy 5 (some .int) 1 := ⟨im_X6_copy, se_X6_copy, ini_X6, cd_X6_copy, rfl, by decide +kernel, by decide +kernel, by decide +kernel⟩
theorem mV_X6_furs : MV RX6 yX6_furs cX6_furs 7 (some .int) 2 := ⟨im_X6_furs, se_X6_furs, ini_X6, cd_X6_furs, rfl, by decide +kernel, by decide +kernel, by decide +kernel⟩
theorem mV_X2_fursAfter : MV RX2 yX2_fursAfter cX2_fursAfter 4 (some .int) 1 := ⟨im_X2_fursAfter, se_X2_fursAfter, ini_X2, cd_X2_fursAfter, rfl, by decide +kernel, by decide +kernel, by decide +kernel⟩
theorem mV_X6_seen : MV RX6 yX6_seen cX6_seen 3 (some .int) 2 := ⟨im_X6_seen, se_X6_seen, ini_X6, cd_X6_seen, rfl, by decide +kernel, by decide +kernel, by decide +kernel⟩
theorem mV_X6_forget : MV RX6 yX6_forget cX6_forget 2 (some .int) 0 := ⟨im_X6_forget, se_X6_forget, ini_X6, cd_X6_forget, rfl, by decide +kernel, by decide +kernel, by decide +kernel⟩
theorem mV_X6_changed : MV RX6 yX6_changed cX6_changed 2 (some .int) 1 := ⟨im_X6_changed, se_X6_changed, ini_X6, cd_X6_changed, rfl, by decide +kernel, by decide +kernel, by decide +kernel⟩
theorem mV_X0_prepare : MV RX0 yX0_prepare cX0_prepare 3 none 1 := ⟨im_X0_prepare, se_X0_prepare, ini_X0, cd_X0_prepare, rfl, by decide +kernel, by decide +kernel, by decide +kernel⟩
theorem mV_X0_takeBack : MV RX0 yX0_takeBack cX0_takeBack 3 none 2 := ⟨im_X0_takeBack, se_X0_takeBack, ini_X0, cd_X0_takeBack, rfl, by decide +kernel, by decide +kernel, by decide +kernel⟩
theorem mV_X0_countWant : MV RX0 yX0_countWant cX0_countWant 3 none 2 := ⟨im_X0_countWant, se_X0_countWant, ini_X0, cd_X0_countWant, rfl, by decide +kernel, by decide +kernel, by decide +kernel⟩
theorem mV_X0_countBearer : MV RX0 yX0_countBearer cX0_countBearer 3 none 2 := ⟨im_X0_countBearer, se_X0_countBearer, ini_X0, cd_X0_countBearer, rfl, by decide +kernel, by decide +kernel, by decide +kernel⟩
theorem mV_X0_heed : MV RX0 yX0_heed cX0_heed 4 none 2 := ⟨im_X0_heed, se_X0_heed, ini_X0, cd_X0_heed, rfl, by decide +kernel, by decide +kernel, by decide +kernel⟩
theorem mV_X0_isOpen : MV RX0 yX0_isOpen cX0_isOpen 2 (some .boolean) 1 := ⟨im_X0_isOpen, se_X0_isOpen, ini_X0, cd_X0_isOpen, rfl, by decide +kernel, by decide +kernel, by decide +kernel⟩
theorem mV_X0_ways : MV RX0 yX0_ways cX0_ways 1 (some .int) 0 := ⟨im_X0_ways, se_X0_ways, ini_X0, cd_X0_ways, rfl, by decide +kernel, by decide +kernel, by decide +kernel⟩
theorem mV_X0_waysIf : MV RX0 yX0_waysIf cX0_waysIf 4 (some .int) 2 := ⟨im_X0_waysIf, se_X0_waysIf, ini_X0, cd_X0_waysIf, rfl, by decide +kernel, by decide +kernel, by decide +kernel⟩
theorem mS_X0_picks : MS yX0_picks cX0_picks 4 (some .int) 2 := ⟨st_X0_picks, ini_X0, cd_X0_picks, by decide +kernel, by decide +kernel, by decide +kernel⟩
theorem mV_X0_rowAt : MV RX0 yX0_rowAt cX0_rowAt 9 (some .int) 2 := ⟨im_X0_rowAt, se_X0_rowAt, ini_X0, cd_X0_rowAt, rfl, by decide +kernel, by decide +kernel, by decide +kernel⟩
theorem mV_X0_waysWith : MV RX0 yX0_waysWith cX0_waysWith 4 (some .int) 2 := ⟨im_X0_waysWith, se_X0_waysWith, ini_X0, cd_X0_waysWith, rfl, by decide +kernel, by decide +kernel, by decide +kernel⟩
theorem mV_X0_suits : MV RX0 yX0_suits cX0_suits 3 (some .boolean) 2 := ⟨im_X0_suits, se_X0_suits, ini_X0, cd_X0_suits, rfl, by decide +kernel, by decide +kernel, by decide +kernel⟩
theorem mV_X0_give : MV RX0 yX0_give cX0_give 3 none 2 := ⟨im_X0_give, se_X0_give, ini_X0, cd_X0_give, rfl, by decide +kernel, by decide +kernel, by decide +kernel⟩
theorem mV_X6_names : MV RX6 yX6_names cX6_names 2 (some .int) 1 := ⟨im_X6_names, se_X6_names, ini_X6, cd_X6_names, rfl, by decide +kernel, by decide +kernel, by decide +kernel⟩
theorem mV_X0_namesFor : MV RX0 yX0_namesFor cX0_namesFor 5 (some .int) 2 := ⟨im_X0_namesFor, se_X0_namesFor, ini_X0, cd_X0_namesFor, rfl, by decide +kernel, by decide +kernel, by decide +kernel⟩
theorem mV_X6_hear : MV RX6 yX6_hear cX6_hear 3 (some .int) 1 := ⟨im_X6_hear, se_X6_hear, ini_X6, cd_X6_hear, rfl, by decide +kernel, by decide +kernel, by decide +kernel⟩
theorem mV_X0_nameToHear : MV RX0 yX0_nameToHear cX0_nameToHear 5 (some .int) 1 := ⟨im_X0_nameToHear, se_X0_nameToHear, ini_X0, cd_X0_nameToHear, rfl, by decide +kernel, by decide +kernel, by decide +kernel⟩
theorem mV_X0_mostLeftBy : MV RX0 yX0_mostLeftBy cX0_mostLeftBy 4 (some .int) 1 := ⟨im_X0_mostLeftBy, se_X0_mostLeftBy, ini_X0, cd_X0_mostLeftBy, rfl, by decide +kernel, by decide +kernel, by decide +kernel⟩
theorem mV_X6_undo : MV RX6 yX6_undo cX6_undo 3 (some .int) 0 := ⟨im_X6_undo, se_X6_undo, ini_X6, cd_X6_undo, rfl, by decide +kernel, by decide +kernel, by decide +kernel⟩
theorem mV_X6_marriages : MV RX6 yX6_marriages cX6_marriages 2 (some .int) 1 := ⟨im_X6_marriages, se_X6_marriages, ini_X6, cd_X6_marriages, rfl, by decide +kernel, by decide +kernel, by decide +kernel⟩
theorem mV_X4_mostTwos : MV RX4 yX4_mostTwos cX4_mostTwos 5 (some .int) 2 := ⟨im_X4_mostTwos, se_X4_mostTwos, ini_X4, cd_X4_mostTwos, rfl, by decide +kernel, by decide +kernel, by decide +kernel⟩
theorem mS_X4_matesOf : MS yX4_matesOf cX4_matesOf 5 (some .int) 3 := ⟨st_X4_matesOf, ini_X4, cd_X4_matesOf, by decide +kernel, by decide +kernel, by decide +kernel⟩
theorem mS_X4_isFree : MS yX4_isFree cX4_isFree 2 (some .boolean) 2 := ⟨st_X4_isFree, ini_X4, cd_X4_isFree, by decide +kernel, by decide +kernel, by decide +kernel⟩
theorem mS_X4_areApart : MS yX4_areApart cX4_areApart 5 (some .boolean) 4 := ⟨st_X4_areApart, ini_X4, cd_X4_areApart, by decide +kernel, by decide +kernel, by decide +kernel⟩
theorem mV_X4_bestOf : MV RX4 yX4_bestOf cX4_bestOf 6 (some .int) 1 := ⟨im_X4_bestOf, se_X4_bestOf, ini_X4, cd_X4_bestOf, rfl, by decide +kernel, by decide +kernel, by decide +kernel⟩
theorem mS_J6_numberOfTrailingZeros_0f7a4 : MS yJ6_numberOfTrailingZeros_0f7a4 cJ6_numberOfTrailingZeros_0f7a4 2 (some .int) 1 := ⟨st_J6_numberOfTrailingZeros_0f7a4, ini_J6, cd_J6_numberOfTrailingZeros_0f7a4, by decide +kernel, by decide +kernel, by decide +kernel⟩
theorem mV_X6_deaths : MV RX6 yX6_deaths cX6_deaths 13 (some .long) 4 := ⟨im_X6_deaths, se_X6_deaths, ini_X6, cd_X6_deaths, rfl, by decide +kernel, by decide +kernel, by decide +kernel⟩
theorem mS_J6_bitCount_0f7a4 : MS yJ6_bitCount_0f7a4 cJ6_bitCount_0f7a4 1 (some .int) 1 := ⟨st_J6_bitCount_0f7a4, ini_J6, cd_J6_bitCount_0f7a4, by decide +kernel, by decide +kernel, by decide +kernel⟩
theorem mS_X6_commonDivisor : MS yX6_commonDivisor cX6_commonDivisor 11 (some .long) 2 := ⟨st_X6_commonDivisor, ini_X6, cd_X6_commonDivisor, by decide +kernel, by decide +kernel, by decide +kernel⟩
theorem mS_X6_cut_ : MS yX6_cut_ cX6_cut_ 4 (some .long) 2 := ⟨st_X6_cut_, ini_X6, cd_X6_cut_, by decide +kernel, by decide +kernel, by decide +kernel⟩
theorem mS_X6_power : MS yX6_power cX6_power 6 (some .long) 2 := ⟨st_X6_power, ini_X6, cd_X6_power, by decide +kernel, by decide +kernel, by decide +kernel⟩
theorem mV_X6_year : MV RX6 yX6_year cX6_year 4 (some .int) 3 := ⟨im_X6_year, se_X6_year, ini_X6, cd_X6_year, rfl, by decide +kernel, by decide +kernel, by decide +kernel⟩
theorem mV_X6_drawYear : MV RX6 yX6_drawYear cX6_drawYear 5 none 2 := ⟨im_X6_drawYear, se_X6_drawYear, ini_X6, cd_X6_drawYear, rfl, by decide +kernel, by decide +kernel, by decide +kernel⟩
theorem mV_X6_drawAct : MV RX6 yX6_drawAct cX6_drawAct 4 none 1 := ⟨im_X6_drawAct, se_X6_drawAct, ini_X6, cd_X6_drawAct, rfl, by decide +kernel, by decide +kernel, by decide +kernel⟩
theorem mV_X2_ownNames : MV RX2 yX2_ownNames cX2_ownNames 3 (some .int) 0 := ⟨im_X2_ownNames, se_X2_ownNames, ini_X2, cd_X2_ownNames, rfl, by decide +kernel, by decide +kernel, by decide +kernel⟩
theorem mV_X2_emptyLands : MV RX2 yX2_emptyLands cX2_emptyLands 3 (some .int) 0 := ⟨im_X2_emptyLands, se_X2_emptyLands, ini_X2, cd_X2_emptyLands, rfl, by decide +kernel, by decide +kernel, by decide +kernel⟩
theorem mV_X6_image : MV RX6 yX6_image cX6_image 2 (some .int) 1 := ⟨im_X6_image, se_X6_image, ini_X6, cd_X6_image, rfl, by decide +kernel, by decide +kernel, by decide +kernel⟩
theorem mV_X6_imageAt : MV RX6 yX6_imageAt cX6_imageAt 2 (some (.object "HostageRound$Round")) 1 := ⟨im_X6_imageAt, se_X6_imageAt, ini_X6, cd_X6_imageAt, rfl, by decide +kernel, by decide +kernel, by decide +kernel⟩
theorem mV_X6_restore : MV RX6 yX6_restore cX6_restore 2 (some .int) 1 := ⟨im_X6_restore, se_X6_restore, ini_X6, cd_X6_restore, rfl, by decide +kernel, by decide +kernel, by decide +kernel⟩
theorem mV_X6_told : MV RX6 yX6_told cX6_told 2 (some .int) 1 := ⟨im_X6_told, se_X6_told, ini_X6, cd_X6_told, rfl, by decide +kernel, by decide +kernel, by decide +kernel⟩
theorem mV_X6_toldOfOne : MV RX6 yX6_toldOfOne cX6_toldOfOne 2 (some .int) 1 := ⟨im_X6_toldOfOne, se_X6_toldOfOne, ini_X6, cd_X6_toldOfOne, rfl, by decide +kernel, by decide +kernel, by decide +kernel⟩
theorem mI_X7_init : MI yX7_init cX7_init 1 0 := ⟨im_X7_init, ini_X7, cd_X7_init, rfl, by decide +kernel, by decide +kernel, by decide +kernel⟩
theorem mV_X7_clear : MV RX7 yX7_clear cX7_clear 2 none 0 := ⟨im_X7_clear, se_X7_clear, ini_X7, cd_X7_clear, rfl, by decide +kernel, by decide +kernel, by decide +kernel⟩
theorem mV_X7_lands : MV RX7 yX7_lands cX7_lands 3 (some .int) 1 := ⟨im_X7_lands, se_X7_lands, ini_X7, cd_X7_lands, rfl, by decide +kernel, by decide +kernel, by decide +kernel⟩
theorem mS_X7_in : MS yX7_in cX7_in 3 (some .boolean) 3 := ⟨st_X7_in, ini_X7, cd_X7_in, by decide +kernel, by decide +kernel, by decide +kernel⟩
theorem mV_X7_season : MV RX7 yX7_season cX7_season 3 (some .int) 1 := ⟨im_X7_season, se_X7_season, ini_X7, cd_X7_season, rfl, by decide +kernel, by decide +kernel, by decide +kernel⟩
theorem mV_X7_set : MV RX7 yX7_set cX7_set 5 (some .int) 3 := ⟨im_X7_set, se_X7_set, ini_X7, cd_X7_set, rfl, by decide +kernel, by decide +kernel, by decide +kernel⟩
theorem mV_X7_isOne : MV RX7 yX7_isOne cX7_isOne 2 (some .boolean) 1 := ⟨im_X7_isOne, se_X7_isOne, ini_X7, cd_X7_isOne, rfl, by decide +kernel, by decide +kernel, by decide +kernel⟩
theorem mV_X7_say : MV RX7 yX7_say cX7_say 2 (some .int) 1 := ⟨im_X7_say, se_X7_say, ini_X7, cd_X7_say, rfl, by decide +kernel, by decide +kernel, by decide +kernel⟩
theorem mV_X7_wipe : MV RX7 yX7_wipe cX7_wipe 2 (some .int) 0 := ⟨im_X7_wipe, se_X7_wipe, ini_X7, cd_X7_wipe, rfl, by decide +kernel, by decide +kernel, by decide +kernel⟩
theorem mV_X7_fault : MV RX7 yX7_fault cX7_fault 1 (some .int) 0 := ⟨im_X7_fault, se_X7_fault, ini_X7, cd_X7_fault, rfl, by decide +kernel, by decide +kernel, by decide +kernel⟩
theorem mV_X7_faultOf : MV RX7 yX7_faultOf cX7_faultOf 5 (some .int) 0 := ⟨im_X7_faultOf, se_X7_faultOf, ini_X7, cd_X7_faultOf, rfl, by decide +kernel, by decide +kernel, by decide +kernel⟩
theorem mV_X7_isChild : MV RX7 yX7_isChild cX7_isChild 2 (some .boolean) 1 := ⟨im_X7_isChild, se_X7_isChild, ini_X7, cd_X7_isChild, rfl, by decide +kernel, by decide +kernel, by decide +kernel⟩
theorem mV_X7_judge : MV RX7 yX7_judge cX7_judge 3 (some .int) 1 := ⟨im_X7_judge, se_X7_judge, ini_X7, cd_X7_judge, rfl, by decide +kernel, by decide +kernel, by decide +kernel⟩
theorem mV_X7_goYears : MV RX7 yX7_goYears cX7_goYears 5 (some .int) 0 := ⟨im_X7_goYears, se_X7_goYears, ini_X7, cd_X7_goYears, rfl, by decide +kernel, by decide +kernel, by decide +kernel⟩
theorem mV_X7_asNow : MV RX7 yX7_asNow cX7_asNow 2 none 0 := ⟨im_X7_asNow, se_X7_asNow, ini_X7, cd_X7_asNow, rfl, by decide +kernel, by decide +kernel, by decide +kernel⟩
theorem mV_X7_days : MV RX7 yX7_days cX7_days 3 none 1 := ⟨im_X7_days, se_X7_days, ini_X7, cd_X7_days, rfl, by decide +kernel, by decide +kernel, by decide +kernel⟩
theorem mV_X7_equinox : MV RX7 yX7_equinox cX7_equinox 2 none 0 := ⟨im_X7_equinox, se_X7_equinox, ini_X7, cd_X7_equinox, rfl, by decide +kernel, by decide +kernel, by decide +kernel⟩
theorem mV_X7_whyNoHats : MV RX7 yX7_whyNoHats cX7_whyNoHats 3 (some .int) 2 := ⟨im_X7_whyNoHats, se_X7_whyNoHats, ini_X7, cd_X7_whyNoHats, rfl, by decide +kernel, by decide +kernel, by decide +kernel⟩
theorem mV_X7_hats : MV RX7 yX7_hats cX7_hats 4 none 2 := ⟨im_X7_hats, se_X7_hats, ini_X7, cd_X7_hats, rfl, by decide +kernel, by decide +kernel, by decide +kernel⟩
theorem mV_X7_whyNot : MV RX7 yX7_whyNot cX7_whyNot 3 (some .int) 2 := ⟨im_X7_whyNot, se_X7_whyNot, ini_X7, cd_X7_whyNot, rfl, by decide +kernel, by decide +kernel, by decide +kernel⟩
theorem mV_X7_done : MV RX7 yX7_done cX7_done 2 (some .int) 0 := ⟨im_X7_done, se_X7_done, ini_X7, cd_X7_done, rfl, by decide +kernel, by decide +kernel, by decide +kernel⟩
theorem mV_X7_barOfYears : MV RX7 yX7_barOfYears cX7_barOfYears 1 (some .int) 0 := ⟨im_X7_barOfYears, se_X7_barOfYears, ini_X7, cd_X7_barOfYears, rfl, by decide +kernel, by decide +kernel, by decide +kernel⟩
theorem mV_X7_state : MV RX7 yX7_state cX7_state 3 (some .int) 2 := ⟨im_X7_state, se_X7_state, ini_X7, cd_X7_state, rfl, by decide +kernel, by decide +kernel, by decide +kernel⟩
theorem mV_X7_behind : MV RX7 yX7_behind cX7_behind 3 (some .int) 2 := ⟨im_X7_behind, se_X7_behind, ini_X7, cd_X7_behind, rfl, by decide +kernel, by decide +kernel, by decide +kernel⟩
theorem mV_X7_day : MV RX7 yX7_day cX7_day 1 (some .int) 0 := ⟨im_X7_day, se_X7_day, ini_X7, cd_X7_day, rfl, by decide +kernel, by decide +kernel, by decide +kernel⟩
theorem mV_X7_where : MV RX7 yX7_where cX7_where 3 (some .int) 2 := ⟨im_X7_where, se_X7_where, ini_X7, cd_X7_where, rfl, by decide +kernel, by decide +kernel, by decide +kernel⟩
theorem mV_X7_equinoxes : MV RX7 yX7_equinoxes cX7_equinoxes 2 (some .int) 1 := ⟨im_X7_equinoxes, se_X7_equinoxes, ini_X7, cd_X7_equinoxes, rfl, by decide +kernel, by decide +kernel, by decide +kernel⟩
theorem mV_X7_whereBehind : MV RX7 yX7_whereBehind cX7_whereBehind 5 (some .int) 2 := ⟨im_X7_whereBehind, se_X7_whereBehind, ini_X7, cd_X7_whereBehind, rfl, by decide +kernel, by decide +kernel, by decide +kernel⟩
theorem mV_X7_who : MV RX7 yX7_who cX7_who 5 (some .int) 2 := ⟨im_X7_who, se_X7_who, ini_X7, cd_X7_who, rfl, by decide +kernel, by decide +kernel, by decide +kernel⟩
theorem mV_X7_meet : MV RX7 yX7_meet cX7_meet 4 (some .int) 2 := ⟨im_X7_meet, se_X7_meet, ini_X7, cd_X7_meet, rfl, by decide +kernel, by decide +kernel, by decide +kernel⟩
theorem mV_X7_areTwo : MV RX7 yX7_areTwo cX7_areTwo 3 (some .boolean) 2 := ⟨im_X7_areTwo, se_X7_areTwo, ini_X7, cd_X7_areTwo, rfl, by decide +kernel, by decide +kernel, by decide +kernel⟩
theorem mV_X7_areIn : MV RX7 yX7_areIn cX7_areIn 4 (some .boolean) 3 := ⟨im_X7_areIn, se_X7_areIn, ini_X7, cd_X7_areIn, rfl, by decide +kernel, by decide +kernel, by decide +kernel⟩
theorem mV_X7_firstDay : MV RX7 yX7_firstDay cX7_firstDay 2 (some .int) 1 := ⟨im_X7_firstDay, se_X7_firstDay, ini_X7, cd_X7_firstDay, rfl, by decide +kernel, by decide +kernel, by decide +kernel⟩
theorem mV_X7_together : MV RX7 yX7_together cX7_together 6 (some .int) 3 := ⟨im_X7_together, se_X7_together, ini_X7, cd_X7_together, rfl, by decide +kernel, by decide +kernel, by decide +kernel⟩
theorem mV_X7_begin : MV RX7 yX7_begin cX7_begin 5 (some .int) 3 := ⟨im_X7_begin, se_X7_begin, ini_X7, cd_X7_begin, rfl, by decide +kernel, by decide +kernel, by decide +kernel⟩
theorem mV_X7_isThere : MV RX7 yX7_isThere cX7_isThere 7 (some .boolean) 4 := ⟨im_X7_isThere, se_X7_isThere, ini_X7, cd_X7_isThere, rfl, by decide +kernel, by decide +kernel, by decide +kernel⟩
theorem mV_X7_longest : MV RX7 yX7_longest cX7_longest 5 (some .int) 3 := ⟨im_X7_longest, se_X7_longest, ini_X7, cd_X7_longest, rfl, by decide +kernel, by decide +kernel, by decide +kernel⟩
theorem mV_X7_struck : MV RX7 yX7_struck cX7_struck 6 (some .int) 3 := ⟨im_X7_struck, se_X7_struck, ini_X7, cd_X7_struck, rfl, by decide +kernel, by decide +kernel, by decide +kernel⟩
theorem mV_X7_isWar : MV RX7 yX7_isWar cX7_isWar 3 (some .boolean) 2 := ⟨im_X7_isWar, se_X7_isWar, ini_X7, cd_X7_isWar, rfl, by decide +kernel, by decide +kernel, by decide +kernel⟩
theorem mV_X7_sure : MV RX7 yX7_sure cX7_sure 6 (some .int) 1 := ⟨im_X7_sure, se_X7_sure, ini_X7, cd_X7_sure, rfl, by decide +kernel, by decide +kernel, by decide +kernel⟩
theorem mV_X7_fooled : MV RX7 yX7_fooled cX7_fooled 8 (some .int) 3 := ⟨im_X7_fooled, se_X7_fooled, ini_X7, cd_X7_fooled, rfl, by decide +kernel, by decide +kernel, by decide +kernel⟩
theorem mV_X7_letter : MV RX7 yX7_letter cX7_letter 3 (some .int) 2 := ⟨im_X7_letter, se_X7_letter, ini_X7, cd_X7_letter, rfl, by decide +kernel, by decide +kernel, by decide +kernel⟩
theorem mV_X7_copy : MV RX7 yX7_copy cX7_copy 3 (some .int) 1 := ⟨im_X7_copy, se_X7_copy, ini_X7, cd_X7_copy, rfl, by decide +kernel, by decide +kernel, by decide +kernel⟩
theorem mV_X7_furs : MV RX7 yX7_furs cX7_furs 8 (some .int) 2 := ⟨im_X7_furs, se_X7_furs, ini_X7, cd_X7_furs, rfl, by decide +kernel, by decide +kernel, by decide +kernel⟩
theorem mV_X7_seen : MV RX7 yX7_seen cX7_seen 3 (some .int) 2 := ⟨im_X7_seen, se_X7_seen, ini_X7, cd_X7_seen, rfl, by decide +kernel, by decide +kernel, by decide +kernel⟩
theorem mV_X7_forget : MV RX7 yX7_forget cX7_forget 2 (some .int) 0 := ⟨im_X7_forget, se_X7_forget, ini_X7, cd_X7_forget, rfl, by decide +kernel, by decide +kernel, by decide +kernel⟩
theorem mV_X7_changed : MV RX7 yX7_changed cX7_changed 7 (some .int) 1 := ⟨im_X7_changed, se_X7_changed, ini_X7, cd_X7_changed, rfl, by decide +kernel, by decide +kernel, by decide +kernel⟩
theorem mV_X7_codes : MV RX7 yX7_codes cX7_codes 3 (some .int) 0 := ⟨im_X7_codes, se_X7_codes, ini_X7, cd_X7_codes, rfl, by decide +kernel, by decide +kernel, by decide +kernel⟩
theorem mV_X7_isRow : MV RX7 yX7_isRow cX7_isRow 4 (some .boolean) 1 := ⟨im_X7_isRow, se_X7_isRow, ini_X7, cd_X7_isRow, rfl, by decide +kernel, by decide +kernel, by decide +kernel⟩
theorem mV_X7_deals : MV RX7 yX7_deals cX7_deals 6 (some .boolean) 1 := ⟨im_X7_deals, se_X7_deals, ini_X7, cd_X7_deals, rfl, by decide +kernel, by decide +kernel, by decide +kernel⟩
theorem mV_X7_living : MV RX7 yX7_living cX7_living 3 (some .int) 0 := ⟨im_X7_living, se_X7_living, ini_X7, cd_X7_living, rfl, by decide +kernel, by decide +kernel, by decide +kernel⟩
theorem mS_X7_has : MS yX7_has cX7_has 2 (some .boolean) 2 := ⟨st_X7_has, ini_X7, cd_X7_has, by decide +kernel, by decide +kernel, by decide +kernel⟩
theorem mV_X7_coughOf : MV RX7 yX7_coughOf cX7_coughOf 4 (some .int) 1 := ⟨im_X7_coughOf, se_X7_coughOf, ini_X7, cd_X7_coughOf, rfl, by decide +kernel, by decide +kernel, by decide +kernel⟩
theorem mV_X7_names : MV RX7 yX7_names cX7_names 5 (some .int) 1 := ⟨im_X7_names, se_X7_names, ini_X7, cd_X7_names, rfl, by decide +kernel, by decide +kernel, by decide +kernel⟩
theorem mV_X7_hear : MV RX7 yX7_hear cX7_hear 9 (some .int) 1 := ⟨im_X7_hear, se_X7_hear, ini_X7, cd_X7_hear, rfl, by decide +kernel, by decide +kernel, by decide +kernel⟩
theorem mV_X7_undo : MV RX7 yX7_undo cX7_undo 5 (some .int) 0 := ⟨im_X7_undo, se_X7_undo, ini_X7, cd_X7_undo, rfl, by decide +kernel, by decide +kernel, by decide +kernel⟩
theorem mV_X7_marriages : MV RX7 yX7_marriages cX7_marriages 12 (some .int) 1 := ⟨im_X7_marriages, se_X7_marriages, ini_X7, cd_X7_marriages, rfl, by decide +kernel, by decide +kernel, by decide +kernel⟩
theorem mV_X7_doMeet : MV RX7 yX7_doMeet cX7_doMeet 6 (some .boolean) 3 := ⟨im_X7_doMeet, se_X7_doMeet, ini_X7, cd_X7_doMeet, rfl, by decide +kernel, by decide +kernel, by decide +kernel⟩
theorem mV_X7_deaths : MV RX7 yX7_deaths cX7_deaths 16 (some .long) 4 := ⟨im_X7_deaths, se_X7_deaths, ini_X7, cd_X7_deaths, rfl, by decide +kernel, by decide +kernel, by decide +kernel⟩
theorem mV_X7_alive : MV RX7 yX7_alive cX7_alive 3 (some .int) 0 := ⟨im_X7_alive, se_X7_alive, ini_X7, cd_X7_alive, rfl, by decide +kernel, by decide +kernel, by decide +kernel⟩
theorem mV_X7_year : MV RX7 yX7_year cX7_year 9 (some .int) 3 := ⟨im_X7_year, se_X7_year, ini_X7, cd_X7_year, rfl, by decide +kernel, by decide +kernel, by decide +kernel⟩
theorem mV_X7_image : MV RX7 yX7_image cX7_image 4 (some .int) 1 := ⟨im_X7_image, se_X7_image, ini_X7, cd_X7_image, rfl, by decide +kernel, by decide +kernel, by decide +kernel⟩
theorem mV_X7_restore : MV RX7 yX7_restore cX7_restore 4 (some .int) 1 := ⟨im_X7_restore, se_X7_restore, ini_X7, cd_X7_restore, rfl, by decide +kernel, by decide +kernel, by decide +kernel⟩
theorem mV_X7_told : MV RX7 yX7_told cX7_told 4 (some .int) 1 := ⟨im_X7_told, se_X7_told, ini_X7, cd_X7_told, rfl, by decide +kernel, by decide +kernel, by decide +kernel⟩
def nestW : List Cond := [.methodLinkNest RX6 9 yX2_init RX6, .methodLinkNest RX6 36 yX1_init RX6, .methodLinkNest RX6 43 yX5_init RX6, .methodLinkNest RX6 50 yX0_init RX6, .methodLinkNest RX6 57 yX4_init RX6, .methodLinkNest RX2 91 yX6_leftOver RX6, .methodLinkNest RX2 103 yX6_cut RX6]
set_option maxRecDepth 100000 in
theorem nestW_tbl : ∀ w ∈ nestW, w ∈ lw_tbl := by
  intro w hw
  simp only [nestW, List.mem_cons, List.not_mem_nil, or_false] at hw
  rcases hw with rfl | rfl | rfl | rfl | rfl | rfl | rfl
  · exact List.mem_of_getElem? (i := 63) rfl
  · exact List.mem_of_getElem? (i := 151) rfl
  · exact List.mem_of_getElem? (i := 169) rfl
  · exact List.mem_of_getElem? (i := 184) rfl
  · exact List.mem_of_getElem? (i := 214) rfl
  · exact List.mem_of_getElem? (i := 362) rfl
  · exact List.mem_of_getElem? (i := 424) rfl
theorem nl_X6_9 : Cond.methodLinkNest RX6 9 yX2_init RX6 ∈ nestW := List.mem_of_getElem? (i := 0) rfl
theorem nl_X6_36 : Cond.methodLinkNest RX6 36 yX1_init RX6 ∈ nestW := List.mem_of_getElem? (i := 1) rfl
theorem nl_X6_43 : Cond.methodLinkNest RX6 43 yX5_init RX6 ∈ nestW := List.mem_of_getElem? (i := 2) rfl
theorem nl_X6_50 : Cond.methodLinkNest RX6 50 yX0_init RX6 ∈ nestW := List.mem_of_getElem? (i := 3) rfl
theorem nl_X6_57 : Cond.methodLinkNest RX6 57 yX4_init RX6 ∈ nestW := List.mem_of_getElem? (i := 4) rfl
theorem nl_X2_91 : Cond.methodLinkNest RX2 91 yX6_leftOver RX6 ∈ nestW := List.mem_of_getElem? (i := 5) rfl
theorem nl_X2_103 : Cond.methodLinkNest RX2 103 yX6_cut RX6 ∈ nestW := List.mem_of_getElem? (i := 6) rfl
