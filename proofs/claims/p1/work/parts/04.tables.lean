def zpl (k : Nat) : Nat × Nat × Nat × Nat := zpl_l.getD k (0, 0, 0, 0)
def cR (ci : Nat) : String := (vwCl.getD ci ("", fun _ => ("", "", "", false), 0)).1
def cT (ci : Nat) : u_T := (vwCl.getD ci ("", fun _ => ("", "", "", false), 0)).2.1
def cN (ci : Nat) : Nat := (vwCl.getD ci ("", fun _ => ("", "", "", false), 0)).2.2
def cty (ci j : Nat) : FieldType := (parseFieldDescriptor (cT ci j).2.2.1).getD .int
def zAll (P : Nat → Prop) : Nat → Nat → Prop
  | _, 0 => True
  | i, n + 1 => P i ∧ zAll P (i + 1) n
theorem zAll_at {P : Nat → Prop} : ∀ (n i : Nat), zAll P i n → ∀ k, i ≤ k → k < i + n → P k := by
  intro n
  induction n with
  | zero => intro i _ k h1 h2; omega
  | succ n ih =>
    intro i h k h1 h2
    by_cases e : k = i
    · subst e; exact h.1
    · exact ih (i + 1) h.2 k (by omega) (by omega)
def zPc (k : Nat) : Prop := lw_tbl[(zpl k).1]? = some (Cond.code (yk k) (bk k) (lk k) (rk k))
set_option maxRecDepth 100000 in
theorem zc_0 : lw_tbl[284]? = some (Cond.code yX0_init cX0_init 1 none) := rfl
set_option maxRecDepth 100000 in
theorem zc_1 : lw_tbl[814]? = some (Cond.code yX0_size cX0_size 1 (some .int)) := rfl
set_option maxRecDepth 100000 in
theorem zc_2 : lw_tbl[1246]? = some (Cond.code yX0_renumbered cX0_renumbered 1 (some .int)) := rfl
set_option maxRecDepth 100000 in
theorem zc_3 : lw_tbl[962]? = some (Cond.code yX0_property cX0_property 3 (some .int)) := rfl
set_option maxRecDepth 100000 in
theorem zc_4 : lw_tbl[803]? = some (Cond.code yX0_choiceOf cX0_choiceOf 2 (some .int)) := rfl
set_option maxRecDepth 100000 in
theorem zc_5 : lw_tbl[971]? = some (Cond.code yX0_setChoice cX0_setChoice 3 none) := rfl
set_option maxRecDepth 100000 in
theorem zc_6 : lw_tbl[794]? = some (Cond.code yX0_firstOf cX0_firstOf 3 (some .int)) := rfl
set_option maxRecDepth 100000 in
theorem zc_7 : lw_tbl[818]? = some (Cond.code yX0_isInPair cX0_isInPair 3 (some .boolean)) := rfl
set_option maxRecDepth 100000 in
theorem zc_8 : lw_tbl[822]? = some (Cond.code yX0_oldBegin cX0_oldBegin 2 (some .int)) := rfl
set_option maxRecDepth 100000 in
theorem zc_9 : lw_tbl[839]? = some (Cond.code yX0_oldEnd cX0_oldEnd 2 (some .int)) := rfl
set_option maxRecDepth 100000 in
theorem zc_10 : lw_tbl[843]? = some (Cond.code yX0_newBegin cX0_newBegin 2 (some .int)) := rfl
set_option maxRecDepth 100000 in
theorem zc_11 : lw_tbl[847]? = some (Cond.code yX0_newEnd cX0_newEnd 2 (some .int)) := rfl
set_option maxRecDepth 100000 in
theorem zc_12 : lw_tbl[987]? = some (Cond.code yX0_countOf cX0_countOf 5 (some .int)) := rfl
set_option maxRecDepth 100000 in
theorem zc_13 : lw_tbl[983]? = some (Cond.code yX0_reopen cX0_reopen 3 (some .int)) := rfl
set_option maxRecDepth 100000 in
theorem zc_14 : lw_tbl[992]? = some (Cond.code yX0_closeOpen cX0_closeOpen 4 (some .int)) := rfl
set_option maxRecDepth 100000 in
theorem zc_15 : lw_tbl[717]? = some (Cond.code yX0_collect cX0_collect 6 none) := rfl
set_option maxRecDepth 100000 in
theorem zc_16 : lw_tbl[765]? = some (Cond.code yX0_collectRemoved cX0_collectRemoved 4 none) := rfl
set_option maxRecDepth 100000 in
theorem zc_17 : lw_tbl[728]? = some (Cond.code yX0_collectPair cX0_collectPair 10 none) := rfl
set_option maxRecDepth 100000 in
theorem zc_18 : lw_tbl[738]? = some (Cond.code yX0_appendStretch cX0_appendStretch 7 none) := rfl
set_option maxRecDepth 100000 in
theorem zc_19 : lw_tbl[750]? = some (Cond.code yX0_collectKept cX0_collectKept 9 none) := rfl
set_option maxRecDepth 100000 in
theorem zc_20 : lw_tbl[742]? = some (Cond.code yX0_append cX0_append 5 none) := rfl
set_option maxRecDepth 100000 in
theorem zc_21 : lw_tbl[746]? = some (Cond.code yX0_noteWords cX0_noteWords 5 none) := rfl
set_option maxRecDepth 100000 in
theorem zc_22 : lw_tbl[218]? = some (Cond.code yX1_init cX1_init 1 none) := rfl
set_option maxRecDepth 100000 in
theorem zc_23 : lw_tbl[679]? = some (Cond.code yX1_weightOf cX1_weightOf 3 (some .int)) := rfl
set_option maxRecDepth 100000 in
theorem zc_24 : lw_tbl[949]? = some (Cond.code yX1_ofPair cX1_ofPair 3 (some .int)) := rfl
set_option maxRecDepth 100000 in
theorem zc_25 : lw_tbl[654]? = some (Cond.code yX1_ofRows cX1_ofRows 3 (some .int)) := rfl
set_option maxRecDepth 100000 in
theorem zc_26 : lw_tbl[688]? = some (Cond.code yX1_ofWords cX1_ofWords 3 (some .int)) := rfl
set_option maxRecDepth 100000 in
theorem zc_27 : lw_tbl[628]? = some (Cond.code yX1_byPair cX1_byPair 3 (some .int)) := rfl
set_option maxRecDepth 100000 in
theorem zc_28 : lw_tbl[607]? = some (Cond.code yX1_byRemoval cX1_byRemoval 3 (some .int)) := rfl
set_option maxRecDepth 100000 in
theorem zc_29 : lw_tbl[602]? = some (Cond.code yX1_byAddition cX1_byAddition 3 (some .int)) := rfl
set_option maxRecDepth 100000 in
theorem zc_30 : lw_tbl[569]? = some (Cond.code yX1_measure cX1_measure 8 none) := rfl
set_option maxRecDepth 100000 in
theorem zc_31 : lw_tbl[574]? = some (Cond.code yX1_noteClauses cX1_noteClauses 5 none) := rfl
set_option maxRecDepth 100000 in
theorem zc_32 : lw_tbl[611]? = some (Cond.code yX1_alignWords cX1_alignWords 10 none) := rfl
set_option maxRecDepth 100000 in
theorem zc_33 : lw_tbl[142]? = some (Cond.code yX2_init cX2_init 1 none) := rfl
set_option maxRecDepth 100000 in
theorem zc_34 : lw_tbl[484]? = some (Cond.code yX2_size cX2_size 1 (some .int)) := rfl
set_option maxRecDepth 100000 in
theorem zc_35 : lw_tbl[513]? = some (Cond.code yX2_has cX2_has 2 (some .boolean)) := rfl
set_option maxRecDepth 100000 in
theorem zc_36 : lw_tbl[692]? = some (Cond.code yX2_hasWord cX2_hasWord 3 (some .boolean)) := rfl
set_option maxRecDepth 100000 in
theorem zc_37 : lw_tbl[705]? = some (Cond.code yX2_depthOf cX2_depthOf 2 (some .int)) := rfl
set_option maxRecDepth 100000 in
theorem zc_38 : lw_tbl[497]? = some (Cond.code yX2_lengthOf cX2_lengthOf 2 (some .int)) := rfl
set_option maxRecDepth 100000 in
theorem zc_39 : lw_tbl[617]? = some (Cond.code yX2_codeOf cX2_codeOf 3 (some .int)) := rfl
set_option maxRecDepth 100000 in
theorem zc_40 : lw_tbl[1092]? = some (Cond.code yX2_setCode cX2_setCode 4 none) := rfl
set_option maxRecDepth 100000 in
theorem zc_41 : lw_tbl[546]? = some (Cond.code yX2_copyAll cX2_copyAll 2 none) := rfl
set_option maxRecDepth 100000 in
theorem zc_42 : lw_tbl[453]? = some (Cond.code yX2_removeAll cX2_removeAll 1 none) := rfl
set_option maxRecDepth 100000 in
theorem zc_43 : lw_tbl[488]? = some (Cond.code yX2_allowsDepth cX2_allowsDepth 3 (some .boolean)) := rfl
set_option maxRecDepth 100000 in
theorem zc_44 : lw_tbl[526]? = some (Cond.code yX2_appendClause cX2_appendClause 2 none) := rfl
set_option maxRecDepth 100000 in
theorem zc_45 : lw_tbl[509]? = some (Cond.code yX2_insertWord cX2_insertWord 6 none) := rfl
set_option maxRecDepth 100000 in
theorem zc_46 : lw_tbl[505]? = some (Cond.code yX2_appendWord cX2_appendWord 3 none) := rfl
set_option maxRecDepth 100000 in
theorem zc_47 : lw_tbl[1105]? = some (Cond.code yX2_removeWord cX2_removeWord 5 none) := rfl
set_option maxRecDepth 100000 in
theorem zc_48 : lw_tbl[1234]? = some (Cond.code yX2_removeWords cX2_removeWords 2 none) := rfl
set_option maxRecDepth 100000 in
theorem zc_49 : lw_tbl[579]? = some (Cond.code yX2_branchSize cX2_branchSize 3 (some .int)) := rfl
set_option maxRecDepth 100000 in
theorem zc_50 : lw_tbl[888]? = some (Cond.code yX2_parentOf cX2_parentOf 3 (some .int)) := rfl
set_option maxRecDepth 100000 in
theorem zc_51 : lw_tbl[924]? = some (Cond.code yX2_firstRoot cX2_firstRoot 1 (some .int)) := rfl
set_option maxRecDepth 100000 in
theorem zc_52 : lw_tbl[593]? = some (Cond.code yX2_nextInRow cX2_nextInRow 2 (some .int)) := rfl
set_option maxRecDepth 100000 in
theorem zc_53 : lw_tbl[624]? = some (Cond.code yX2_firstChild cX2_firstChild 2 (some .int)) := rfl
set_option maxRecDepth 100000 in
theorem zc_54 : lw_tbl[598]? = some (Cond.code yX2_atDepth cX2_atDepth 3 (some .int)) := rfl
set_option maxRecDepth 100000 in
theorem zc_55 : lw_tbl[588]? = some (Cond.code yX2_wordsFrom cX2_wordsFrom 5 (some .int)) := rfl
set_option maxRecDepth 100000 in
theorem zc_56 : lw_tbl[754]? = some (Cond.code yX2_targetOf cX2_targetOf 4 (some .int)) := rfl
set_option maxRecDepth 100000 in
theorem zc_57 : lw_tbl[866]? = some (Cond.code yX2_references cX2_references 4 (some .int)) := rfl
set_option maxRecDepth 100000 in
theorem zc_58 : lw_tbl[870]? = some (Cond.code yX2_danglingReferences cX2_danglingReferences 4 (some .int)) := rfl
set_option maxRecDepth 100000 in
theorem zc_59 : lw_tbl[1120]? = some (Cond.code yX2_removeBranch cX2_removeBranch 4 none) := rfl
set_option maxRecDepth 100000 in
theorem zc_60 : lw_tbl[1133]? = some (Cond.code yX2_exchangeBranches cX2_exchangeBranches 9 none) := rfl
set_option maxRecDepth 100000 in
theorem zc_61 : lw_tbl[1124]? = some (Cond.code yX2_copyClause cX2_copyClause 5 none) := rfl
set_option maxRecDepth 100000 in
theorem zc_62 : lw_tbl[136]? = some (Cond.code yX3_init cX3_init 1 none) := rfl
set_option maxRecDepth 100000 in
theorem zc_63 : lw_tbl[469]? = some (Cond.code yX3_of cX3_of 2 (some (.object "ClauseDrafts$Draft"))) := rfl
set_option maxRecDepth 100000 in
theorem zc_64 : lw_tbl[1076]? = some (Cond.code yX3_headWeight cX3_headWeight 1 (some .int)) := rfl
set_option maxRecDepth 100000 in
theorem zc_65 : lw_tbl[1080]? = some (Cond.code yX3_setHeadWeight cX3_setHeadWeight 2 none) := rfl
set_option maxRecDepth 100000 in
theorem zc_66 : lw_tbl[542]? = some (Cond.code yX3_copyTexts cX3_copyTexts 2 none) := rfl
set_option maxRecDepth 100000 in
theorem zc_67 : lw_tbl[449]? = some (Cond.code yX3_removeTexts cX3_removeTexts 1 none) := rfl
set_option maxRecDepth 100000 in
theorem zc_68 : lw_tbl[1142]? = some (Cond.code yX3_turnAround cX3_turnAround 2 none) := rfl
set_option maxRecDepth 100000 in
theorem zc_69 : lw_tbl[583]? = some (Cond.code yX3_weightOf cX3_weightOf 4 (some .int)) := rfl
set_option maxRecDepth 100000 in
theorem zc_70 : lw_tbl[340]? = some (Cond.code yX4_init cX4_init 1 none) := rfl
set_option maxRecDepth 100000 in
theorem zc_71 : lw_tbl[1154]? = some (Cond.code yX4_isFilled cX4_isFilled 1 (some .boolean)) := rfl
set_option maxRecDepth 100000 in
theorem zc_72 : lw_tbl[561]? = some (Cond.code yX4_makeEmpty cX4_makeEmpty 1 none) := rfl
set_option maxRecDepth 100000 in
theorem zc_73 : lw_tbl[1158]? = some (Cond.code yX4_take cX4_take 4 none) := rfl
set_option maxRecDepth 100000 in
theorem zc_74 : lw_tbl[1172]? = some (Cond.code yX4_restoreDrafts cX4_restoreDrafts 2 none) := rfl
set_option maxRecDepth 100000 in
theorem zc_75 : lw_tbl[1176]? = some (Cond.code yX4_restoreChoices cX4_restoreChoices 3 none) := rfl
set_option maxRecDepth 100000 in
theorem zc_76 : lw_tbl[125]? = some (Cond.code yX5_init cX5_init 2 none) := rfl
set_option maxRecDepth 100000 in
theorem zc_77 : lw_tbl[457]? = some (Cond.code yX5_get cX5_get 2 (some .int)) := rfl
set_option maxRecDepth 100000 in
theorem zc_78 : lw_tbl[429]? = some (Cond.code yX5_set cX5_set 3 none) := rfl
set_option maxRecDepth 100000 in
theorem zc_79 : lw_tbl[550]? = some (Cond.code yX5_copy cX5_copy 3 none) := rfl
set_option maxRecDepth 100000 in
theorem zc_80 : lw_tbl[242]? = some (Cond.code yX6_init cX6_init 1 none) := rfl
set_option maxRecDepth 100000 in
theorem zc_81 : lw_tbl[721]? = some (Cond.code yX6_size cX6_size 1 (some .int)) := rfl
set_option maxRecDepth 100000 in
theorem zc_82 : lw_tbl[675]? = some (Cond.code yX6_kindOf cX6_kindOf 2 (some .int)) := rfl
set_option maxRecDepth 100000 in
theorem zc_83 : lw_tbl[670]? = some (Cond.code yX6_clauseOf cX6_clauseOf 3 (some .int)) := rfl
set_option maxRecDepth 100000 in
theorem zc_84 : lw_tbl[761]? = some (Cond.code yX6_sameAs cX6_sameAs 3 (some .int)) := rfl
set_option maxRecDepth 100000 in
theorem zc_85 : lw_tbl[769]? = some (Cond.code yX6_fateOf cX6_fateOf 3 (some .int)) := rfl
set_option maxRecDepth 100000 in
theorem zc_86 : lw_tbl[734]? = some (Cond.code yX6_keptWith cX6_keptWith 4 (some .int)) := rfl
set_option maxRecDepth 100000 in
theorem zc_87 : lw_tbl[1242]? = some (Cond.code yX6_pairs cX6_pairs 1 (some .int)) := rfl
set_option maxRecDepth 100000 in
theorem zc_88 : lw_tbl[929]? = some (Cond.code yX6_wordCosts cX6_wordCosts 1 (some .int)) := rfl
set_option maxRecDepth 100000 in
theorem zc_89 : lw_tbl[933]? = some (Cond.code yX6_removedWeight cX6_removedWeight 1 (some .int)) := rfl
set_option maxRecDepth 100000 in
theorem zc_90 : lw_tbl[937]? = some (Cond.code yX6_addedWeight cX6_addedWeight 1 (some .int)) := rfl
set_option maxRecDepth 100000 in
theorem zc_91 : lw_tbl[941]? = some (Cond.code yX6_movedWeight cX6_movedWeight 1 (some .int)) := rfl
set_option maxRecDepth 100000 in
theorem zc_92 : lw_tbl[632]? = some (Cond.code yX6_pairUp cX6_pairUp 4 none) := rfl
set_option maxRecDepth 100000 in
theorem zc_93 : lw_tbl[636]? = some (Cond.code yX6_forgetAll cX6_forgetAll 1 none) := rfl
set_option maxRecDepth 100000 in
theorem zc_94 : lw_tbl[644]? = some (Cond.code yX6_walkRows cX6_walkRows 11 none) := rfl
set_option maxRecDepth 100000 in
theorem zc_95 : lw_tbl[650]? = some (Cond.code yX6_isPair cX6_isPair 3 (some .boolean)) := rfl
set_option maxRecDepth 100000 in
theorem zc_96 : lw_tbl[659]? = some (Cond.code yX6_appendStep cX6_appendStep 4 none) := rfl
set_option maxRecDepth 100000 in
theorem zc_97 : lw_tbl[666]? = some (Cond.code yX6_noteStep cX6_noteStep 6 none) := rfl
set_option maxRecDepth 100000 in
theorem zc_98 : lw_tbl[683]? = some (Cond.code yX6_keepWords cX6_keepWords 14 none) := rfl
set_option maxRecDepth 100000 in
theorem zc_99 : lw_tbl[698]? = some (Cond.code yX6_lookForMove cX6_lookForMove 6 none) := rfl
set_option maxRecDepth 100000 in
theorem zc_100 : lw_tbl[713]? = some (Cond.code yX6_noteMove cX6_noteMove 5 none) := rfl
set_option maxRecDepth 100000 in
theorem zc_101 : lw_tbl[701]? = some (Cond.code yX6_areLike cX6_areLike 8 (some .boolean)) := rfl
set_option maxRecDepth 100000 in
theorem zc_102 : lw_tbl[708]? = some (Cond.code yX6_haveLikeWords cX6_haveLikeWords 5 (some .boolean)) := rfl
set_option maxRecDepth 100000 in
theorem zc_103 : lw_tbl[360]? = some (Cond.code yX7_init cX7_init 1 none) := rfl
set_option maxRecDepth 100000 in
theorem zc_104 : lw_tbl[1185]? = some (Cond.code yX7_isNumber cX7_isNumber 1 (some .boolean)) := rfl
set_option maxRecDepth 100000 in
theorem zc_105 : lw_tbl[1189]? = some (Cond.code yX7_isLane cX7_isLane 1 (some .boolean)) := rfl
set_option maxRecDepth 100000 in
theorem zc_106 : lw_tbl[1203]? = some (Cond.code yX7_isMissing cX7_isMissing 2 (some .boolean)) := rfl
set_option maxRecDepth 100000 in
theorem zc_107 : lw_tbl[1225]? = some (Cond.code yX7_laneOf cX7_laneOf 2 (some .int)) := rfl
set_option maxRecDepth 100000 in
theorem zc_108 : lw_tbl[1208]? = some (Cond.code yX7_sizeOf cX7_sizeOf 2 (some .int)) := rfl
set_option maxRecDepth 100000 in
theorem zc_109 : lw_tbl[1229]? = some (Cond.code yX7_elementOf cX7_elementOf 3 (some .int)) := rfl
set_option maxRecDepth 100000 in
theorem zc_110 : lw_tbl[1193]? = some (Cond.code yX7_create cX7_create 5 none) := rfl
set_option maxRecDepth 100000 in
theorem zc_111 : lw_tbl[1212]? = some (Cond.code yX7_setElement cX7_setElement 4 none) := rfl
set_option maxRecDepth 100000 in
theorem zc_112 : lw_tbl[150]? = some (Cond.code yX8_init cX8_init 4 none) := rfl
set_option maxRecDepth 100000 in
theorem zc_113 : lw_tbl[517]? = some (Cond.code yX8_get cX8_get 4 (some .int)) := rfl
set_option maxRecDepth 100000 in
theorem zc_114 : lw_tbl[521]? = some (Cond.code yX8_set cX8_set 4 none) := rfl
set_option maxRecDepth 100000 in
theorem zc_115 : lw_tbl[640]? = some (Cond.code yX8_fill cX8_fill 3 none) := rfl
set_option maxRecDepth 100000 in
theorem zc_116 : lw_tbl[555]? = some (Cond.code yX8_copy cX8_copy 4 none) := rfl
set_option maxRecDepth 100000 in
theorem zc_117 : lw_tbl[119]? = some (Cond.code yX9_init cX9_init 1 none) := rfl
set_option maxRecDepth 100000 in
theorem zc_118 : lw_tbl[421]? = some (Cond.code yX9_length cX9_length 1 (some .int)) := rfl
set_option maxRecDepth 100000 in
theorem zc_119 : lw_tbl[530]? = some (Cond.code yX9_faultKind cX9_faultKind 1 (some .int)) := rfl
set_option maxRecDepth 100000 in
theorem zc_120 : lw_tbl[534]? = some (Cond.code yX9_faultPlace cX9_faultPlace 1 (some .int)) := rfl
set_option maxRecDepth 100000 in
theorem zc_121 : lw_tbl[538]? = some (Cond.code yX9_result cX9_result 1 (some (.object "ClauseDrafts$Drafts"))) := rfl
set_option maxRecDepth 100000 in
theorem zc_122 : lw_tbl[425]? = some (Cond.code yX9_append cX9_append 2 none) := rfl
set_option maxRecDepth 100000 in
theorem zc_123 : lw_tbl[437]? = some (Cond.code yX9_cutTo cX9_cutTo 2 none) := rfl
set_option maxRecDepth 100000 in
theorem zc_124 : lw_tbl[445]? = some (Cond.code yX9_readAll cX9_readAll 2 none) := rfl
set_option maxRecDepth 100000 in
theorem zc_125 : lw_tbl[461]? = some (Cond.code yX9_readSign cX9_readSign 2 none) := rfl
set_option maxRecDepth 100000 in
theorem zc_126 : lw_tbl[465]? = some (Cond.code yX9_faultOf cX9_faultOf 4 (some .int)) := rfl
set_option maxRecDepth 100000 in
theorem zc_127 : lw_tbl[480]? = some (Cond.code yX9_mayStand cX9_mayStand 2 (some .boolean)) := rfl
set_option maxRecDepth 100000 in
theorem zc_128 : lw_tbl[501]? = some (Cond.code yX9_takeSign cX9_takeSign 3 none) := rfl
set_option maxRecDepth 100000 in
theorem zc_129 : lw_tbl[472]? = some (Cond.code yX9_isLetter cX9_isLetter 1 (some .boolean)) := rfl
set_option maxRecDepth 100000 in
theorem zc_130 : lw_tbl[476]? = some (Cond.code yX9_isDigit cX9_isDigit 1 (some .boolean)) := rfl
set_option maxRecDepth 100000 in
theorem zc_131 : lw_tbl[305]? = some (Cond.code yX10_init cX10_init 2 none) := rfl
set_option maxRecDepth 100000 in
theorem zc_132 : lw_tbl[1005]? = some (Cond.code yX10_size cX10_size 1 (some .int)) := rfl
set_option maxRecDepth 100000 in
theorem zc_133 : lw_tbl[1025]? = some (Cond.code yX10_depthOf cX10_depthOf 2 (some .int)) := rfl
set_option maxRecDepth 100000 in
theorem zc_134 : lw_tbl[1029]? = some (Cond.code yX10_lengthOf cX10_lengthOf 2 (some .int)) := rfl
set_option maxRecDepth 100000 in
theorem zc_135 : lw_tbl[1041]? = some (Cond.code yX10_codeOf cX10_codeOf 3 (some .int)) := rfl
set_option maxRecDepth 100000 in
theorem zc_136 : lw_tbl[1033]? = some (Cond.code yX10_originOf cX10_originOf 3 (some .int)) := rfl
set_option maxRecDepth 100000 in
theorem zc_137 : lw_tbl[1049]? = some (Cond.code yX10_placeOf cX10_placeOf 3 (some .int)) := rfl
set_option maxRecDepth 100000 in
theorem zc_138 : lw_tbl[1009]? = some (Cond.code yX10_wordCount cX10_wordCount 3 (some .int)) := rfl
set_option maxRecDepth 100000 in
theorem zc_139 : lw_tbl[1013]? = some (Cond.code yX10_lostCount cX10_lostCount 4 (some .int)) := rfl
set_option maxRecDepth 100000 in
theorem zc_140 : lw_tbl[1017]? = some (Cond.code yX10_depthSum cX10_depthSum 3 (some .int)) := rfl
set_option maxRecDepth 100000 in
theorem zc_141 : lw_tbl[1058]? = some (Cond.code yX10_longest cX10_longest 3 (some .int)) := rfl
set_option maxRecDepth 100000 in
theorem zc_142 : lw_tbl[1065]? = some (Cond.code yX10_copyInto cX10_copyInto 5 none) := rfl
set_option maxRecDepth 100000 in
theorem zc_143 : lw_tbl[773]? = some (Cond.code yX10_build cX10_build 9 none) := rfl
set_option maxRecDepth 100000 in
theorem zc_144 : lw_tbl[779]? = some (Cond.code yX10_listStep cX10_listStep 11 none) := rfl
set_option maxRecDepth 100000 in
theorem zc_145 : lw_tbl[799]? = some (Cond.code yX10_accepts cX10_accepts 4 (some .boolean)) := rfl
set_option maxRecDepth 100000 in
theorem zc_146 : lw_tbl[785]? = some (Cond.code yX10_listClause cX10_listClause 6 none) := rfl
set_option maxRecDepth 100000 in
theorem zc_147 : lw_tbl[810]? = some (Cond.code yX10_showPair cX10_showPair 9 none) := rfl
set_option maxRecDepth 100000 in
theorem zc_148 : lw_tbl[826]? = some (Cond.code yX10_showWords cX10_showWords 11 none) := rfl
set_option maxRecDepth 100000 in
theorem zc_149 : lw_tbl[832]? = some (Cond.code yX10_shownReference cX10_shownReference 6 (some .int)) := rfl
set_option maxRecDepth 100000 in
theorem zc_150 : lw_tbl[111]? = some (Cond.code yX11_init cX11_init 1 none) := rfl
set_option maxRecDepth 100000 in
theorem zc_151 : lw_tbl[416]? = some (Cond.code yX11_feed cX11_feed 2 (some .int)) := rfl
set_option maxRecDepth 100000 in
theorem zc_152 : lw_tbl[433]? = some (Cond.code yX11_end cX11_end 3 (some .int)) := rfl
set_option maxRecDepth 100000 in
theorem zc_153 : lw_tbl[441]? = some (Cond.code yX11_text cX11_text 1 (some .int)) := rfl
set_option maxRecDepth 100000 in
theorem zc_154 : lw_tbl[854]? = some (Cond.code yX11_fault cX11_fault 1 (some .int)) := rfl
set_option maxRecDepth 100000 in
theorem zc_155 : lw_tbl[858]? = some (Cond.code yX11_draft cX11_draft 4 (some .int)) := rfl
set_option maxRecDepth 100000 in
theorem zc_156 : lw_tbl[877]? = some (Cond.code yX11_clause cX11_clause 5 (some .int)) := rfl
set_option maxRecDepth 100000 in
theorem zc_157 : lw_tbl[896]? = some (Cond.code yX11_word cX11_word 4 (some .int)) := rfl
set_option maxRecDepth 100000 in
theorem zc_158 : lw_tbl[906]? = some (Cond.code yX11_kept cX11_kept 4 (some .int)) := rfl
set_option maxRecDepth 100000 in
theorem zc_159 : lw_tbl[911]? = some (Cond.code yX11_leads cX11_leads 5 (some .int)) := rfl
set_option maxRecDepth 100000 in
theorem zc_160 : lw_tbl[916]? = some (Cond.code yX11_cost cX11_cost 2 (some .int)) := rfl
set_option maxRecDepth 100000 in
theorem zc_161 : lw_tbl[945]? = some (Cond.code yX11_between cX11_between 3 (some .int)) := rfl
set_option maxRecDepth 100000 in
theorem zc_162 : lw_tbl[953]? = some (Cond.code yX11_change cX11_change 3 (some .int)) := rfl
set_option maxRecDepth 100000 in
theorem zc_163 : lw_tbl[966]? = some (Cond.code yX11_choose cX11_choose 4 (some .int)) := rfl
set_option maxRecDepth 100000 in
theorem zc_164 : lw_tbl[979]? = some (Cond.code yX11_decide cX11_decide 3 (some .int)) := rfl
set_option maxRecDepth 100000 in
theorem zc_165 : lw_tbl[997]? = some (Cond.code yX11_shown cX11_shown 4 (some .int)) := rfl
set_option maxRecDepth 100000 in
theorem zc_166 : lw_tbl[1021]? = some (Cond.code yX11_shownClause cX11_shownClause 5 (some .int)) := rfl
set_option maxRecDepth 100000 in
theorem zc_167 : lw_tbl[1037]? = some (Cond.code yX11_shownWord cX11_shownWord 5 (some .int)) := rfl
set_option maxRecDepth 100000 in
theorem zc_168 : lw_tbl[1045]? = some (Cond.code yX11_find cX11_find 4 (some .int)) := rfl
set_option maxRecDepth 100000 in
theorem zc_169 : lw_tbl[1053]? = some (Cond.code yX11_settle cX11_settle 1 (some .int)) := rfl
set_option maxRecDepth 100000 in
theorem zc_170 : lw_tbl[1072]? = some (Cond.code yX11_head cX11_head 3 (some .int)) := rfl
set_option maxRecDepth 100000 in
theorem zc_171 : lw_tbl[1084]? = some (Cond.code yX11_write cX11_write 7 (some .int)) := rfl
set_option maxRecDepth 100000 in
theorem zc_172 : lw_tbl[1096]? = some (Cond.code yX11_insert cX11_insert 6 (some .int)) := rfl
set_option maxRecDepth 100000 in
theorem zc_173 : lw_tbl[1101]? = some (Cond.code yX11_erase cX11_erase 5 (some .int)) := rfl
set_option maxRecDepth 100000 in
theorem zc_174 : lw_tbl[1110]? = some (Cond.code yX11_add cX11_add 4 (some .int)) := rfl
set_option maxRecDepth 100000 in
theorem zc_175 : lw_tbl[1116]? = some (Cond.code yX11_strike cX11_strike 4 (some .int)) := rfl
set_option maxRecDepth 100000 in
theorem zc_176 : lw_tbl[1128]? = some (Cond.code yX11_swap cX11_swap 6 (some .int)) := rfl
set_option maxRecDepth 100000 in
theorem zc_177 : lw_tbl[1138]? = some (Cond.code yX11_exchange cX11_exchange 1 (some .int)) := rfl
set_option maxRecDepth 100000 in
theorem zc_178 : lw_tbl[1146]? = some (Cond.code yX11_keep cX11_keep 4 (some .int)) := rfl
set_option maxRecDepth 100000 in
theorem zc_179 : lw_tbl[1168]? = some (Cond.code yX11_back cX11_back 3 (some .int)) := rfl
set_option maxRecDepth 100000 in
theorem zc_180 : lw_tbl[1182]? = some (Cond.code yX11_sheet cX11_sheet 4 (some .int)) := rfl
set_option maxRecDepth 100000 in
theorem zc_181 : lw_tbl[1199]? = some (Cond.code yX11_lay cX11_lay 4 (some .int)) := rfl
set_option maxRecDepth 100000 in
theorem zc_182 : lw_tbl[1217]? = some (Cond.code yX11_paste cX11_paste 9 (some .int)) := rfl
set_option maxRecDepth 100000 in
theorem zc_183 : lw_tbl[1238]? = some (Cond.code yX11_count cX11_count 2 (some .int)) := rfl
set_option maxRecDepth 100000 in
theorem zc_184 : lw_tbl[154]? = some (Cond.code yX11_within cX11_within 3 (some .boolean)) := rfl
set_option maxRecDepth 100000 in
theorem zc_185 : lw_tbl[861]? = some (Cond.code yX11_isSide cX11_isSide 1 (some .boolean)) := rfl
set_option maxRecDepth 100000 in
theorem zc_186 : lw_tbl[757]? = some (Cond.code yX11_isReference cX11_isReference 1 (some .boolean)) := rfl
set_option maxRecDepth 100000 in
theorem zc_187 : lw_tbl[1087]? = some (Cond.code yX11_isCode cX11_isCode 1 (some .boolean)) := rfl
set_option maxRecDepth 100000 in
theorem zc_188 : lw_tbl[620]? = some (Cond.code yX11_areAlike cX11_areAlike 2 (some .boolean)) := rfl
set_option maxRecDepth 100000 in
theorem zc_189 : lw_tbl[881]? = some (Cond.code yX11_isClause cX11_isClause 3 (some .boolean)) := rfl
set_option maxRecDepth 100000 in
theorem zc_190 : lw_tbl[900]? = some (Cond.code yX11_isWord cX11_isWord 4 (some .boolean)) := rfl
set_option maxRecDepth 100000 in
theorem zc_191 : lw_tbl[957]? = some (Cond.code yX11_isChange cX11_isChange 2 (some .boolean)) := rfl
set_option maxRecDepth 100000 in
theorem zc_192 : lw_tbl[1001]? = some (Cond.code yX11_viewOf cX11_viewOf 2 (some (.object "ClauseDrafts$View"))) := rfl
set_option maxRecDepth 100000 in
theorem zc_193 : lw_tbl[1150]? = some (Cond.code yX11_imageOf cX11_imageOf 2 (some (.object "ClauseDrafts$Image"))) := rfl
set_option maxRecDepth 100000 in
theorem zc_194 : lw_tbl[920]? = some (Cond.code yX11_rootCost cX11_rootCost 1 (some .int)) := rfl
set_option maxRecDepth 100000 in
theorem zc_195 : lw_tbl[565]? = some (Cond.code yX11_compareAgain cX11_compareAgain 1 none) := rfl
set_option maxRecDepth 100000 in
theorem zc_196 : lw_tbl[975]? = some (Cond.code yX11_showAgain cX11_showAgain 1 none) := rfl
set_option maxRecDepth 100000 in
theorem zc_197 : lw_tbl[1221]? = some (Cond.code yX11_findingOfPaste cX11_findingOfPaste 6 (some .int)) := rfl
set_option maxRecDepth 100000 in
theorem zc_198 : lw_tbl[1251]? = some (Cond.code yX12_init cX12_init 2 none) := rfl
set_option maxRecDepth 100000 in
theorem zc_199 : lw_tbl[1534]? = some (Cond.code yX12_in cX12_in 6 (some .boolean)) := rfl
set_option maxRecDepth 100000 in
theorem zc_200 : lw_tbl[1530]? = some (Cond.code yX12_feed cX12_feed 2 (some .int)) := rfl
set_option maxRecDepth 100000 in
theorem zc_201 : lw_tbl[1538]? = some (Cond.code yX12_end cX12_end 3 (some .int)) := rfl
set_option maxRecDepth 100000 in
theorem zc_202 : lw_tbl[1549]? = some (Cond.code yX12_isToken cX12_isToken 1 (some .boolean)) := rfl
set_option maxRecDepth 100000 in
theorem zc_203 : lw_tbl[1557]? = some (Cond.code yX12_faultOfClause cX12_faultOfClause 4 (some .int)) := rfl
set_option maxRecDepth 100000 in
theorem zc_204 : lw_tbl[1560]? = some (Cond.code yX12_deeper cX12_deeper 1 (some .int)) := rfl
set_option maxRecDepth 100000 in
theorem zc_205 : lw_tbl[1564]? = some (Cond.code yX12_faultOfWord cX12_faultOfWord 3 (some .int)) := rfl
set_option maxRecDepth 100000 in
theorem zc_206 : lw_tbl[1568]? = some (Cond.code yX12_faultOfFigure cX12_faultOfFigure 3 (some .int)) := rfl
set_option maxRecDepth 100000 in
theorem zc_207 : lw_tbl[1546]? = some (Cond.code yX12_faultOf cX12_faultOf 2 (some .int)) := rfl
set_option maxRecDepth 100000 in
theorem zc_208 : lw_tbl[1542]? = some (Cond.code yX12_text cX12_text 2 (some .int)) := rfl
set_option maxRecDepth 100000 in
theorem zc_209 : lw_tbl[1572]? = some (Cond.code yX12_fault cX12_fault 1 (some .int)) := rfl
set_option maxRecDepth 100000 in
theorem zc_210 : lw_tbl[1580]? = some (Cond.code yX12_isSide cX12_isSide 2 (some .boolean)) := rfl
set_option maxRecDepth 100000 in
theorem zc_211 : lw_tbl[1592]? = some (Cond.code yX12_isClause cX12_isClause 3 (some .boolean)) := rfl
set_option maxRecDepth 100000 in
theorem zc_212 : lw_tbl[1604]? = some (Cond.code yX12_isWord cX12_isWord 4 (some .boolean)) := rfl
set_option maxRecDepth 100000 in
theorem zc_213 : lw_tbl[1297]? = some (Cond.code yX12_depthOf cX12_depthOf 3 (some .int)) := rfl
set_option maxRecDepth 100000 in
theorem zc_214 : lw_tbl[1268]? = some (Cond.code yX12_lengthOf cX12_lengthOf 3 (some .int)) := rfl
set_option maxRecDepth 100000 in
theorem zc_215 : lw_tbl[1275]? = some (Cond.code yX12_wordOf cX12_wordOf 4 (some .int)) := rfl
set_option maxRecDepth 100000 in
theorem zc_216 : lw_tbl[1281]? = some (Cond.code yX12_isReference cX12_isReference 1 (some .boolean)) := rfl
set_option maxRecDepth 100000 in
theorem zc_217 : lw_tbl[1310]? = some (Cond.code yX12_endOf cX12_endOf 4 (some .int)) := rfl
set_option maxRecDepth 100000 in
theorem zc_218 : lw_tbl[1293]? = some (Cond.code yX12_above cX12_above 4 (some .int)) := rfl
set_option maxRecDepth 100000 in
theorem zc_219 : lw_tbl[1314]? = some (Cond.code yX12_wordsFrom cX12_wordsFrom 6 (some .int)) := rfl
set_option maxRecDepth 100000 in
theorem zc_220 : lw_tbl[1306]? = some (Cond.code yX12_weightOf cX12_weightOf 4 (some .int)) := rfl
set_option maxRecDepth 100000 in
theorem zc_221 : lw_tbl[1278]? = some (Cond.code yX12_isAlike cX12_isAlike 2 (some .boolean)) := rfl
set_option maxRecDepth 100000 in
theorem zc_222 : lw_tbl[1271]? = some (Cond.code yX12_lesser cX12_lesser 2 (some .int)) := rfl
set_option maxRecDepth 100000 in
theorem zc_223 : lw_tbl[1264]? = some (Cond.code yX12_leaves cX12_leaves 8 (some .int)) := rfl
set_option maxRecDepth 100000 in
theorem zc_224 : lw_tbl[1289]? = some (Cond.code yX12_isUnder cX12_isUnder 4 (some .boolean)) := rfl
set_option maxRecDepth 100000 in
theorem zc_225 : lw_tbl[1285]? = some (Cond.code yX12_rows cX12_rows 5 (some .int)) := rfl
set_option maxRecDepth 100000 in
theorem zc_226 : lw_tbl[1301]? = some (Cond.code yX12_least cX12_least 4 (some .int)) := rfl
set_option maxRecDepth 100000 in
theorem zc_227 : lw_tbl[1260]? = some (Cond.code yX12_measures cX12_measures 3 none) := rfl
set_option maxRecDepth 100000 in
theorem zc_228 : lw_tbl[1318]? = some (Cond.code yX12_piles cX12_piles 3 none) := rfl
set_option maxRecDepth 100000 in
theorem zc_229 : lw_tbl[1326]? = some (Cond.code yX12_comes cX12_comes 4 none) := rfl
set_option maxRecDepth 100000 in
theorem zc_230 : lw_tbl[1322]? = some (Cond.code yX12_steps cX12_steps 7 none) := rfl
set_option maxRecDepth 100000 in
theorem zc_231 : lw_tbl[1334]? = some (Cond.code yX12_keepsWords cX12_keepsWords 7 none) := rfl
set_option maxRecDepth 100000 in
theorem zc_232 : lw_tbl[1342]? = some (Cond.code yX12_areLike cX12_areLike 7 (some .boolean)) := rfl
set_option maxRecDepth 100000 in
theorem zc_233 : lw_tbl[1346]? = some (Cond.code yX12_marks cX12_marks 4 none) := rfl
set_option maxRecDepth 100000 in
theorem zc_234 : lw_tbl[1338]? = some (Cond.code yX12_moves cX12_moves 4 none) := rfl
set_option maxRecDepth 100000 in
theorem zc_235 : lw_tbl[1330]? = some (Cond.code yX12_statuses cX12_statuses 2 none) := rfl
set_option maxRecDepth 100000 in
theorem zc_236 : lw_tbl[1366]? = some (Cond.code yX12_changed cX12_changed 4 none) := rfl
set_option maxRecDepth 100000 in
theorem zc_237 : lw_tbl[1362]? = some (Cond.code yX12_changedWords cX12_changedWords 8 none) := rfl
set_option maxRecDepth 100000 in
theorem zc_238 : lw_tbl[1374]? = some (Cond.code yX12_target cX12_target 3 (some .int)) := rfl
set_option maxRecDepth 100000 in
theorem zc_239 : lw_tbl[1370]? = some (Cond.code yX12_isTurn cX12_isTurn 7 (some .boolean)) := rfl
set_option maxRecDepth 100000 in
theorem zc_240 : lw_tbl[1358]? = some (Cond.code yX12_loose cX12_loose 5 (some .int)) := rfl
set_option maxRecDepth 100000 in
theorem zc_241 : lw_tbl[1354]? = some (Cond.code yX12_changesOfPair cX12_changesOfPair 8 none) := rfl
set_option maxRecDepth 100000 in
theorem zc_242 : lw_tbl[1350]? = some (Cond.code yX12_lists cX12_lists 2 none) := rfl
set_option maxRecDepth 100000 in
theorem zc_243 : lw_tbl[1256]? = some (Cond.code yX12_compares cX12_compares 1 none) := rfl
set_option maxRecDepth 100000 in
theorem zc_244 : lw_tbl[1584]? = some (Cond.code yX12_references cX12_references 7 (some .int)) := rfl
set_option maxRecDepth 100000 in
theorem zc_245 : lw_tbl[1576]? = some (Cond.code yX12_draft cX12_draft 4 (some .int)) := rfl
set_option maxRecDepth 100000 in
theorem zc_246 : lw_tbl[1588]? = some (Cond.code yX12_clause cX12_clause 4 (some .int)) := rfl
set_option maxRecDepth 100000 in
theorem zc_247 : lw_tbl[1596]? = some (Cond.code yX12_word cX12_word 4 (some .int)) := rfl
set_option maxRecDepth 100000 in
theorem zc_248 : lw_tbl[1600]? = some (Cond.code yX12_kept cX12_kept 4 (some .int)) := rfl
set_option maxRecDepth 100000 in
theorem zc_249 : lw_tbl[1608]? = some (Cond.code yX12_leads cX12_leads 5 (some .int)) := rfl
set_option maxRecDepth 100000 in
theorem zc_250 : lw_tbl[1616]? = some (Cond.code yX12_wordCosts cX12_wordCosts 3 (some .int)) := rfl
set_option maxRecDepth 100000 in
theorem zc_251 : lw_tbl[1620]? = some (Cond.code yX12_weights cX12_weights 7 (some .int)) := rfl
set_option maxRecDepth 100000 in
theorem zc_252 : lw_tbl[1612]? = some (Cond.code yX12_cost cX12_cost 2 (some .int)) := rfl
set_option maxRecDepth 100000 in
theorem zc_253 : lw_tbl[1624]? = some (Cond.code yX12_between cX12_between 3 (some .int)) := rfl
set_option maxRecDepth 100000 in
theorem zc_254 : lw_tbl[1632]? = some (Cond.code yX12_isChange cX12_isChange 2 (some .boolean)) := rfl
set_option maxRecDepth 100000 in
theorem zc_255 : lw_tbl[1628]? = some (Cond.code yX12_change cX12_change 3 (some .int)) := rfl
set_option maxRecDepth 100000 in
theorem zc_256 : lw_tbl[1636]? = some (Cond.code yX12_choose cX12_choose 4 (some .int)) := rfl
set_option maxRecDepth 100000 in
theorem zc_257 : lw_tbl[1641]? = some (Cond.code yX12_decide cX12_decide 4 (some .int)) := rfl
set_option maxRecDepth 100000 in
theorem zc_258 : lw_tbl[1666]? = some (Cond.code yX12_isIn cX12_isIn 3 (some .boolean)) := rfl
set_option maxRecDepth 100000 in
theorem zc_259 : lw_tbl[1662]? = some (Cond.code yX12_changeOf cX12_changeOf 4 (some .int)) := rfl
set_option maxRecDepth 100000 in
theorem zc_260 : lw_tbl[1658]? = some (Cond.code yX12_showsClause cX12_showsClause 5 none) := rfl
set_option maxRecDepth 100000 in
theorem zc_261 : lw_tbl[1670]? = some (Cond.code yX12_showsBranch cX12_showsBranch 5 none) := rfl
set_option maxRecDepth 100000 in
theorem zc_262 : lw_tbl[1654]? = some (Cond.code yX12_showsClauses cX12_showsClauses 3 none) := rfl
set_option maxRecDepth 100000 in
theorem zc_263 : lw_tbl[1690]? = some (Cond.code yX12_findIn cX12_findIn 4 (some .int)) := rfl
set_option maxRecDepth 100000 in
theorem zc_264 : lw_tbl[1686]? = some (Cond.code yX12_showsWord cX12_showsWord 7 none) := rfl
set_option maxRecDepth 100000 in
theorem zc_265 : lw_tbl[1682]? = some (Cond.code yX12_showsSome cX12_showsSome 7 none) := rfl
set_option maxRecDepth 100000 in
theorem zc_266 : lw_tbl[1678]? = some (Cond.code yX12_changeAt cX12_changeAt 6 (some .int)) := rfl
set_option maxRecDepth 100000 in
theorem zc_267 : lw_tbl[1674]? = some (Cond.code yX12_showsPair cX12_showsPair 11 none) := rfl
set_option maxRecDepth 100000 in
theorem zc_268 : lw_tbl[1650]? = some (Cond.code yX12_showsAll cX12_showsAll 5 none) := rfl
set_option maxRecDepth 100000 in
theorem zc_269 : lw_tbl[1694]? = some (Cond.code yX12_summed cX12_summed 5 (some .int)) := rfl
set_option maxRecDepth 100000 in
theorem zc_270 : lw_tbl[1645]? = some (Cond.code yX12_shown cX12_shown 3 (some .int)) := rfl
set_option maxRecDepth 100000 in
theorem zc_271 : lw_tbl[1698]? = some (Cond.code yX12_shownClause cX12_shownClause 4 (some .int)) := rfl
set_option maxRecDepth 100000 in
theorem zc_272 : lw_tbl[1702]? = some (Cond.code yX12_shownWord cX12_shownWord 4 (some .int)) := rfl
set_option maxRecDepth 100000 in
theorem zc_273 : lw_tbl[1706]? = some (Cond.code yX12_find cX12_find 4 (some .int)) := rfl
set_option maxRecDepth 100000 in
theorem zc_274 : lw_tbl[1714]? = some (Cond.code yX12_isTooMuch cX12_isTooMuch 3 (some .boolean)) := rfl
set_option maxRecDepth 100000 in
theorem zc_275 : lw_tbl[1710]? = some (Cond.code yX12_settle cX12_settle 4 (some .int)) := rfl
set_option maxRecDepth 100000 in
theorem zc_276 : lw_tbl[1726]? = some (Cond.code yX12_isCode cX12_isCode 1 (some .boolean)) := rfl
set_option maxRecDepth 100000 in
theorem zc_277 : lw_tbl[1718]? = some (Cond.code yX12_head cX12_head 3 (some .int)) := rfl
set_option maxRecDepth 100000 in
theorem zc_278 : lw_tbl[1723]? = some (Cond.code yX12_write cX12_write 6 (some .int)) := rfl
set_option maxRecDepth 100000 in
theorem zc_279 : lw_tbl[1733]? = some (Cond.code yX12_insert cX12_insert 7 (some .int)) := rfl
set_option maxRecDepth 100000 in
theorem zc_280 : lw_tbl[1737]? = some (Cond.code yX12_erase cX12_erase 6 (some .int)) := rfl
set_option maxRecDepth 100000 in
theorem zc_281 : lw_tbl[1741]? = some (Cond.code yX12_add cX12_add 4 (some .int)) := rfl
set_option maxRecDepth 100000 in
theorem zc_282 : lw_tbl[1753]? = some (Cond.code yX12_takes cX12_takes 7 none) := rfl
set_option maxRecDepth 100000 in
theorem zc_283 : lw_tbl[1749]? = some (Cond.code yX12_drafts cX12_drafts 2 none) := rfl
set_option maxRecDepth 100000 in
theorem zc_284 : lw_tbl[1745]? = some (Cond.code yX12_strike cX12_strike 5 (some .int)) := rfl
set_option maxRecDepth 100000 in
theorem zc_285 : lw_tbl[1760]? = some (Cond.code yX12_placed cX12_placed 4 (some .int)) := rfl
set_option maxRecDepth 100000 in
theorem zc_286 : lw_tbl[1757]? = some (Cond.code yX12_swap cX12_swap 11 (some .int)) := rfl
set_option maxRecDepth 100000 in
theorem zc_287 : lw_tbl[1764]? = some (Cond.code yX12_exchange cX12_exchange 3 (some .int)) := rfl
set_option maxRecDepth 100000 in
theorem zc_288 : lw_tbl[1768]? = some (Cond.code yX12_keep cX12_keep 4 (some .int)) := rfl
set_option maxRecDepth 100000 in
theorem zc_289 : lw_tbl[1772]? = some (Cond.code yX12_back cX12_back 3 (some .int)) := rfl
set_option maxRecDepth 100000 in
theorem zc_290 : lw_tbl[1779]? = some (Cond.code yX12_isSheet cX12_isSheet 2 (some .boolean)) := rfl
set_option maxRecDepth 100000 in
theorem zc_291 : lw_tbl[1776]? = some (Cond.code yX12_sheet cX12_sheet 5 (some .int)) := rfl
set_option maxRecDepth 100000 in
theorem zc_292 : lw_tbl[1783]? = some (Cond.code yX12_lay cX12_lay 4 (some .int)) := rfl
set_option maxRecDepth 100000 in
theorem zc_293 : lw_tbl[1788]? = some (Cond.code yX12_paste cX12_paste 7 (some .int)) := rfl
set_option maxRecDepth 100000 in
theorem zc_294 : lw_tbl[1797]? = some (Cond.code yX12_chosen cX12_chosen 4 (some .int)) := rfl
set_option maxRecDepth 100000 in
theorem zc_295 : lw_tbl[1805]? = some (Cond.code yX12_ofKind cX12_ofKind 4 (some .int)) := rfl
set_option maxRecDepth 100000 in
theorem zc_296 : lw_tbl[1801]? = some (Cond.code yX12_pairs cX12_pairs 3 (some .int)) := rfl
set_option maxRecDepth 100000 in
theorem zc_297 : lw_tbl[1809]? = some (Cond.code yX12_renumbered cX12_renumbered 7 (some .int)) := rfl
set_option maxRecDepth 100000 in
theorem zc_298 : lw_tbl[1793]? = some (Cond.code yX12_count cX12_count 2 (some .int)) := rfl
set_option maxRecDepth 100000 in
theorem zt_code_0 : zAll zPc 0 50 := ⟨zc_0, zc_1, zc_2, zc_3, zc_4, zc_5, zc_6, zc_7, zc_8, zc_9, zc_10, zc_11, zc_12, zc_13, zc_14, zc_15, zc_16, zc_17, zc_18, zc_19, zc_20, zc_21, zc_22, zc_23, zc_24, zc_25, zc_26, zc_27, zc_28, zc_29, zc_30, zc_31, zc_32, zc_33, zc_34, zc_35, zc_36, zc_37, zc_38, zc_39, zc_40, zc_41, zc_42, zc_43, zc_44, zc_45, zc_46, zc_47, zc_48, zc_49, trivial⟩
set_option maxRecDepth 100000 in
theorem zt_code_50 : zAll zPc 50 50 := ⟨zc_50, zc_51, zc_52, zc_53, zc_54, zc_55, zc_56, zc_57, zc_58, zc_59, zc_60, zc_61, zc_62, zc_63, zc_64, zc_65, zc_66, zc_67, zc_68, zc_69, zc_70, zc_71, zc_72, zc_73, zc_74, zc_75, zc_76, zc_77, zc_78, zc_79, zc_80, zc_81, zc_82, zc_83, zc_84, zc_85, zc_86, zc_87, zc_88, zc_89, zc_90, zc_91, zc_92, zc_93, zc_94, zc_95, zc_96, zc_97, zc_98, zc_99, trivial⟩
set_option maxRecDepth 100000 in
theorem zt_code_100 : zAll zPc 100 50 := ⟨zc_100, zc_101, zc_102, zc_103, zc_104, zc_105, zc_106, zc_107, zc_108, zc_109, zc_110, zc_111, zc_112, zc_113, zc_114, zc_115, zc_116, zc_117, zc_118, zc_119, zc_120, zc_121, zc_122, zc_123, zc_124, zc_125, zc_126, zc_127, zc_128, zc_129, zc_130, zc_131, zc_132, zc_133, zc_134, zc_135, zc_136, zc_137, zc_138, zc_139, zc_140, zc_141, zc_142, zc_143, zc_144, zc_145, zc_146, zc_147, zc_148, zc_149, trivial⟩
set_option maxRecDepth 100000 in
theorem zt_code_150 : zAll zPc 150 50 := ⟨zc_150, zc_151, zc_152, zc_153, zc_154, zc_155, zc_156, zc_157, zc_158, zc_159, zc_160, zc_161, zc_162, zc_163, zc_164, zc_165, zc_166, zc_167, zc_168, zc_169, zc_170, zc_171, zc_172, zc_173, zc_174, zc_175, zc_176, zc_177, zc_178, zc_179, zc_180, zc_181, zc_182, zc_183, zc_184, zc_185, zc_186, zc_187, zc_188, zc_189, zc_190, zc_191, zc_192, zc_193, zc_194, zc_195, zc_196, zc_197, zc_198, zc_199, trivial⟩
set_option maxRecDepth 100000 in
theorem zt_code_200 : zAll zPc 200 50 := ⟨zc_200, zc_201, zc_202, zc_203, zc_204, zc_205, zc_206, zc_207, zc_208, zc_209, zc_210, zc_211, zc_212, zc_213, zc_214, zc_215, zc_216, zc_217, zc_218, zc_219, zc_220, zc_221, zc_222, zc_223, zc_224, zc_225, zc_226, zc_227, zc_228, zc_229, zc_230, zc_231, zc_232, zc_233, zc_234, zc_235, zc_236, zc_237, zc_238, zc_239, zc_240, zc_241, zc_242, zc_243, zc_244, zc_245, zc_246, zc_247, zc_248, zc_249, trivial⟩
set_option maxRecDepth 100000 in
theorem zt_code_250 : zAll zPc 250 49 := ⟨zc_250, zc_251, zc_252, zc_253, zc_254, zc_255, zc_256, zc_257, zc_258, zc_259, zc_260, zc_261, zc_262, zc_263, zc_264, zc_265, zc_266, zc_267, zc_268, zc_269, zc_270, zc_271, zc_272, zc_273, zc_274, zc_275, zc_276, zc_277, zc_278, zc_279, zc_280, zc_281, zc_282, zc_283, zc_284, zc_285, zc_286, zc_287, zc_288, zc_289, zc_290, zc_291, zc_292, zc_293, zc_294, zc_295, zc_296, zc_297, zc_298, trivial⟩
theorem zt_code (k : Nat) (h : k < 299) : lw_tbl[(zpl k).1]? = some (Cond.code (yk k) (bk k) (lk k) (rk k)) := by
  by_cases h50 : k < 50
  · exact zAll_at 50 0 zt_code_0 k (by omega) (by omega)
  by_cases h100 : k < 100
  · exact zAll_at 50 50 zt_code_50 k (by omega) (by omega)
  by_cases h150 : k < 150
  · exact zAll_at 50 100 zt_code_100 k (by omega) (by omega)
  by_cases h200 : k < 200
  · exact zAll_at 50 150 zt_code_150 k (by omega) (by omega)
  by_cases h250 : k < 250
  · exact zAll_at 50 200 zt_code_200 k (by omega) (by omega)
  by_cases h299 : k < 299
  · exact zAll_at 49 250 zt_code_250 k (by omega) (by omega)
  omega
set_option maxRecDepth 100000 in
set_option maxHeartbeats 4000000 in
theorem zt_init : ∀ k, k < 299 → lw_tbl[(zpl k).2.1]? = some (Cond.initialized (yk k).cls) := by decide +kernel
set_option maxRecDepth 100000 in
set_option maxHeartbeats 4000000 in
theorem zt_inst : ∀ k, k < 299 → lw_tbl[(zpl k).2.2.1]? = some (if ik k = 0 then Cond.static (yk k) else Cond.instanceMethod (yk k)) := by decide +kernel
set_option maxRecDepth 100000 in
set_option maxHeartbeats 4000000 in
theorem zt_sel : ∀ k, k < 299 → ik k = 1 → lw_tbl[(zpl k).2.2.2]? = some (Cond.selects (yk k).cls (yk k) (yk k)) := by decide +kernel
set_option maxRecDepth 100000 in
set_option maxHeartbeats 4000000 in
theorem zt_misc : ∀ k, k < 299 → (yk k).cls = cn (ok k) ∧ (yk k).cls ≠ "java/lang/invoke/MethodHandle" ∧ (yk k).cls ≠ "java/lang/invoke/VarHandle" ∧ plainName (yk k).cls = true ∧ (parseMethodDescriptor (yk k).desc).map (fun d => d.parameters.length) = some (nk k) ∧ (ik k = 2 → (yk k).name = "<init>" ∧ rk k = none) ∧ ok k < 13 ∧ cn (ok k) = cR (ok k) := by decide +kernel
def zlc (r : Nat × Nat × Nat × Nat × Nat) : Cond := if r.2.2.1 = 0 then .methodLink (cn r.1) r.2.1 (yk r.2.2.2.1) else if r.2.2.1 = 1 then .methodLinkNest (cn r.1) r.2.1 (yk r.2.2.2.1) "ClauseDrafts" else if r.2.2.1 = 2 then .methodLink (cn r.1) r.2.1 objectInit else if r.2.2.1 = 3 then .methodLink (cn r.1) r.2.1 Lib.Math.max.name else .methodLink (cn r.1) r.2.1 Lib.Math.min.name
set_option maxRecDepth 100000 in
set_option maxHeartbeats 4000000 in
theorem zt_link_0 : ∀ r ∈ zlk_l_0, lw_tbl[r.2.2.2.2]? = some (zlc r) ∧ r.2.2.2.1 < 299 := by decide +kernel
set_option maxRecDepth 100000 in
set_option maxHeartbeats 4000000 in
theorem zt_link_1 : ∀ r ∈ zlk_l_1, lw_tbl[r.2.2.2.2]? = some (zlc r) ∧ r.2.2.2.1 < 299 := by decide +kernel
set_option maxRecDepth 100000 in
set_option maxHeartbeats 4000000 in
theorem zt_link_2 : ∀ r ∈ zlk_l_2, lw_tbl[r.2.2.2.2]? = some (zlc r) ∧ r.2.2.2.1 < 299 := by decide +kernel
set_option maxRecDepth 100000 in
set_option maxHeartbeats 4000000 in
theorem zt_link_3 : ∀ r ∈ zlk_l_3, lw_tbl[r.2.2.2.2]? = some (zlc r) ∧ r.2.2.2.1 < 299 := by decide +kernel
set_option maxRecDepth 100000 in
set_option maxHeartbeats 4000000 in
theorem zt_link_4 : ∀ r ∈ zlk_l_4, lw_tbl[r.2.2.2.2]? = some (zlc r) ∧ r.2.2.2.1 < 299 := by decide +kernel
set_option maxRecDepth 100000 in
set_option maxHeartbeats 4000000 in
theorem zt_link_5 : ∀ r ∈ zlk_l_5, lw_tbl[r.2.2.2.2]? = some (zlc r) ∧ r.2.2.2.1 < 299 := by decide +kernel
theorem zt_link : ∀ r ∈ zlk_l, lw_tbl[r.2.2.2.2]? = some (zlc r) ∧ r.2.2.2.1 < 299 := List.forall_mem_append.mpr ⟨zt_link_0, List.forall_mem_append.mpr ⟨zt_link_1, List.forall_mem_append.mpr ⟨zt_link_2, List.forall_mem_append.mpr ⟨zt_link_3, List.forall_mem_append.mpr ⟨zt_link_4, zt_link_5⟩⟩⟩⟩⟩
set_option maxRecDepth 100000 in
set_option maxHeartbeats 4000000 in
theorem zt_fld_0 : ∀ r ∈ zfd_l_0, lw_tbl[r.2.2.2.2]? = some (Cond.fieldLink (cn r.1) r.2.1 (cT r.2.2.1 r.2.2.2.1).1 (cT r.2.2.1 r.2.2.2.1).2.1 (cT r.2.2.1 r.2.2.2.1).2.2.1) ∧ r.2.2.1 < 13 ∧ r.2.2.2.1 < cN r.2.2.1 := by decide +kernel
set_option maxRecDepth 100000 in
set_option maxHeartbeats 4000000 in
theorem zt_fld_1 : ∀ r ∈ zfd_l_1, lw_tbl[r.2.2.2.2]? = some (Cond.fieldLink (cn r.1) r.2.1 (cT r.2.2.1 r.2.2.2.1).1 (cT r.2.2.1 r.2.2.2.1).2.1 (cT r.2.2.1 r.2.2.2.1).2.2.1) ∧ r.2.2.1 < 13 ∧ r.2.2.2.1 < cN r.2.2.1 := by decide +kernel
theorem zt_fld : ∀ r ∈ zfd_l, lw_tbl[r.2.2.2.2]? = some (Cond.fieldLink (cn r.1) r.2.1 (cT r.2.2.1 r.2.2.2.1).1 (cT r.2.2.1 r.2.2.2.1).2.1 (cT r.2.2.1 r.2.2.2.1).2.2.1) ∧ r.2.2.1 < 13 ∧ r.2.2.2.1 < cN r.2.2.1 := List.forall_mem_append.mpr ⟨zt_fld_0, zt_fld_1⟩
set_option maxRecDepth 100000 in
set_option maxHeartbeats 4000000 in
theorem zt_lay_0 : ∀ j, j < 4 → lw_tbl[([292, 294, 296, 298] : List Nat).getD j 0]? = some (u_lay RX0 TX0 j) := by decide +kernel
theorem zt_ws_0 : ∀ w ∈ u_ws RX0 TX0 4, w ∈ lw_tbl := by
  intro w hw
  obtain ⟨j, hj, rfl⟩ := List.mem_map.mp hw
  exact List.mem_of_getElem? (zt_lay_0 j (List.mem_range.mp hj))
set_option maxRecDepth 100000 in
set_option maxHeartbeats 4000000 in
theorem zt_lay_1 : ∀ j, j < 5 → lw_tbl[([227, 229, 231, 233, 235] : List Nat).getD j 0]? = some (u_lay RX1 TX1 j) := by decide +kernel
theorem zt_ws_1 : ∀ w ∈ u_ws RX1 TX1 5, w ∈ lw_tbl := by
  intro w hw
  obtain ⟨j, hj, rfl⟩ := List.mem_map.mp hw
  exact List.mem_of_getElem? (zt_lay_1 j (List.mem_range.mp hj))
set_option maxRecDepth 100000 in
set_option maxHeartbeats 4000000 in
theorem zt_lay_2 : ∀ j, j < 4 → lw_tbl[([169, 171, 173, 175] : List Nat).getD j 0]? = some (u_lay RX2 TX2 j) := by decide +kernel
theorem zt_ws_2 : ∀ w ∈ u_ws RX2 TX2 4, w ∈ lw_tbl := by
  intro w hw
  obtain ⟨j, hj, rfl⟩ := List.mem_map.mp hw
  exact List.mem_of_getElem? (zt_lay_2 j (List.mem_range.mp hj))
set_option maxRecDepth 100000 in
set_option maxHeartbeats 4000000 in
theorem zt_lay_3 : ∀ j, j < 3 → lw_tbl[([181, 183, 185] : List Nat).getD j 0]? = some (u_lay RX3 TX3 j) := by decide +kernel
theorem zt_ws_3 : ∀ w ∈ u_ws RX3 TX3 3, w ∈ lw_tbl := by
  intro w hw
  obtain ⟨j, hj, rfl⟩ := List.mem_map.mp hw
  exact List.mem_of_getElem? (zt_lay_3 j (List.mem_range.mp hj))
set_option maxRecDepth 100000 in
set_option maxHeartbeats 4000000 in
theorem zt_lay_4 : ∀ j, j < 3 → lw_tbl[([349, 351, 353] : List Nat).getD j 0]? = some (u_lay RX4 TX4 j) := by decide +kernel
theorem zt_ws_4 : ∀ w ∈ u_ws RX4 TX4 3, w ∈ lw_tbl := by
  intro w hw
  obtain ⟨j, hj, rfl⟩ := List.mem_map.mp hw
  exact List.mem_of_getElem? (zt_lay_4 j (List.mem_range.mp hj))
set_option maxRecDepth 100000 in
set_option maxHeartbeats 4000000 in
theorem zt_lay_5 : ∀ j, j < 1 → lw_tbl[([128] : List Nat).getD j 0]? = some (u_lay RX5 TX5 j) := by decide +kernel
theorem zt_ws_5 : ∀ w ∈ u_ws RX5 TX5 1, w ∈ lw_tbl := by
  intro w hw
  obtain ⟨j, hj, rfl⟩ := List.mem_map.mp hw
  exact List.mem_of_getElem? (zt_lay_5 j (List.mem_range.mp hj))
set_option maxRecDepth 100000 in
set_option maxHeartbeats 4000000 in
theorem zt_lay_6 : ∀ j, j < 11 → lw_tbl[([257, 259, 261, 263, 265, 267, 269, 271, 273, 275, 277] : List Nat).getD j 0]? = some (u_lay RX6 TX6 j) := by decide +kernel
theorem zt_ws_6 : ∀ w ∈ u_ws RX6 TX6 11, w ∈ lw_tbl := by
  intro w hw
  obtain ⟨j, hj, rfl⟩ := List.mem_map.mp hw
  exact List.mem_of_getElem? (zt_lay_6 j (List.mem_range.mp hj))
set_option maxRecDepth 100000 in
set_option maxHeartbeats 4000000 in
theorem zt_lay_7 : ∀ j, j < 4 → lw_tbl[([370, 372, 374, 376] : List Nat).getD j 0]? = some (u_lay RX7 TX7 j) := by decide +kernel
theorem zt_ws_7 : ∀ w ∈ u_ws RX7 TX7 4, w ∈ lw_tbl := by
  intro w hw
  obtain ⟨j, hj, rfl⟩ := List.mem_map.mp hw
  exact List.mem_of_getElem? (zt_lay_7 j (List.mem_range.mp hj))
set_option maxRecDepth 100000 in
set_option maxHeartbeats 4000000 in
theorem zt_lay_8 : ∀ j, j < 3 → lw_tbl[([158, 160, 162] : List Nat).getD j 0]? = some (u_lay RX8 TX8 j) := by decide +kernel
theorem zt_ws_8 : ∀ w ∈ u_ws RX8 TX8 3, w ∈ lw_tbl := by
  intro w hw
  obtain ⟨j, hj, rfl⟩ := List.mem_map.mp hw
  exact List.mem_of_getElem? (zt_lay_8 j (List.mem_range.mp hj))
set_option maxRecDepth 100000 in
set_option maxHeartbeats 4000000 in
theorem zt_lay_9 : ∀ j, j < 7 → lw_tbl[([195, 197, 199, 201, 203, 205, 207] : List Nat).getD j 0]? = some (u_lay RX9 TX9 j) := by decide +kernel
theorem zt_ws_9 : ∀ w ∈ u_ws RX9 TX9 7, w ∈ lw_tbl := by
  intro w hw
  obtain ⟨j, hj, rfl⟩ := List.mem_map.mp hw
  exact List.mem_of_getElem? (zt_lay_9 j (List.mem_range.mp hj))
set_option maxRecDepth 100000 in
set_option maxHeartbeats 4000000 in
theorem zt_lay_10 : ∀ j, j < 8 → lw_tbl[([319, 321, 323, 325, 327, 329, 331, 333] : List Nat).getD j 0]? = some (u_lay RX10 TX10 j) := by decide +kernel
theorem zt_ws_10 : ∀ w ∈ u_ws RX10 TX10 8, w ∈ lw_tbl := by
  intro w hw
  obtain ⟨j, hj, rfl⟩ := List.mem_map.mp hw
  exact List.mem_of_getElem? (zt_lay_10 j (List.mem_range.mp hj))
set_option maxRecDepth 100000 in
set_option maxHeartbeats 4000000 in
theorem zt_lay_11 : ∀ j, j < 11 → lw_tbl[([390, 392, 394, 396, 398, 400, 402, 404, 406, 408, 410] : List Nat).getD j 0]? = some (u_lay RX11 TX11 j) := by decide +kernel
theorem zt_ws_11 : ∀ w ∈ u_ws RX11 TX11 11, w ∈ lw_tbl := by
  intro w hw
  obtain ⟨j, hj, rfl⟩ := List.mem_map.mp hw
  exact List.mem_of_getElem? (zt_lay_11 j (List.mem_range.mp hj))
set_option maxRecDepth 100000 in
set_option maxHeartbeats 4000000 in
theorem zt_lay_12 : ∀ j, j < 50 → lw_tbl[([1425, 1427, 1429, 1431, 1433, 1435, 1437, 1439, 1441, 1443, 1445, 1447, 1449, 1451, 1453, 1455, 1457, 1459, 1461, 1463, 1465, 1467, 1469, 1471, 1473, 1475, 1477, 1479, 1481, 1483, 1485, 1487, 1489, 1491, 1493, 1495, 1497, 1499, 1501, 1503, 1505, 1507, 1509, 1511, 1513, 1515, 1517, 1519, 1521, 1523] : List Nat).getD j 0]? = some (u_lay RX12 TX12 j) := by decide +kernel
theorem zt_ws_12 : ∀ w ∈ u_ws RX12 TX12 50, w ∈ lw_tbl := by
  intro w hw
  obtain ⟨j, hj, rfl⟩ := List.mem_map.mp hw
  exact List.mem_of_getElem? (zt_lay_12 j (List.mem_range.mp hj))
theorem zt_cls (ci : Nat) (h : ci < 13) : vwCl[ci]? = some (cR ci, cT ci, cN ci) := by
  have hl : ci < vwCl.length := h
  simp [cR, cT, cN, List.getD_eq_getElem?_getD, List.getElem?_eq_getElem hl]
theorem zt_ws (ci : Nat) (h : ci < 13) : ∀ w ∈ u_ws (cR ci) (cT ci) (cN ci), w ∈ lw_tbl := by
  match ci, h with
  | 0, _ => exact zt_ws_0
  | 1, _ => exact zt_ws_1
  | 2, _ => exact zt_ws_2
  | 3, _ => exact zt_ws_3
  | 4, _ => exact zt_ws_4
  | 5, _ => exact zt_ws_5
  | 6, _ => exact zt_ws_6
  | 7, _ => exact zt_ws_7
  | 8, _ => exact zt_ws_8
  | 9, _ => exact zt_ws_9
  | 10, _ => exact zt_ws_10
  | 11, _ => exact zt_ws_11
  | 12, _ => exact zt_ws_12
theorem zt_nm (ci : Nat) (h : ci < 13) : ∀ a, a < cN ci → ∀ b, b < cN ci → a ≠ b → (cT ci a).2.1 ≠ (cT ci b).2.1 := by
  match ci, h with
  | 0, _ => exact nmX0
  | 1, _ => exact nmX1
  | 2, _ => exact nmX2
  | 3, _ => exact nmX3
  | 4, _ => exact nmX4
  | 5, _ => exact nmX5
  | 6, _ => exact nmX6
  | 7, _ => exact nmX7
  | 8, _ => exact nmX8
  | 9, _ => exact nmX9
  | 10, _ => exact nmX10
  | 11, _ => exact nmX11
  | 12, _ => exact nmX12
set_option maxRecDepth 100000 in
set_option maxHeartbeats 4000000 in
theorem zt_ty0 : ∀ ci, ci < 13 → cN ci = nf ci ∧ ∀ j, j < nf ci → (parseFieldDescriptor (cT ci j).2.2.1).isSome = true ∧ (cT ci j).1 = cR ci ∧ (ft ci j ≤ 5) ∧ ((cT ci j).2.2.2 = decide (ft ci j = 2 ∨ ft ci j = 3 ∨ ft ci j = 4)) ∧ ((ft ci j = 0 ∨ ft ci j = 2) → cty ci j = .int) ∧ ((ft ci j = 1 ∨ ft ci j = 3) → cty ci j = .boolean) ∧ (4 ≤ ft ci j → (cty ci j).isReference = true) := by decide +kernel
theorem zt_ty (ci : Nat) (h : ci < 13) : ∀ j, j < cN ci → parseFieldDescriptor (cT ci j).2.2.1 = some (cty ci j) := by
  intro j hj
  have h1 := zt_ty0 ci h
  rw [h1.1] at hj
  have h2 := (h1.2 j hj).1
  unfold cty
  cases hp : parseFieldDescriptor (cT ci j).2.2.1 with
  | none => rw [hp] at h2; cases h2
  | some t => rfl
set_option maxRecDepth 100000 in
set_option maxHeartbeats 4000000 in
theorem zt_new : ∀ r ∈ znw_l, lw_tbl[r.2.2.2]? = some (Cond.classLink (cn r.1) r.2.1 (cR r.2.2.1)) ∧ r.2.2.1 < 13 := by decide +kernel
set_option maxRecDepth 100000 in
set_option maxHeartbeats 4000000 in
theorem zt_ins : ∀ ci, ci < 13 → lw_tbl[([281, 215, 139, 133, 337, 122, 239, 357, 147, 116, 302, 108, 1248] : List Nat).getD ci 0]? = some (Cond.instantiable (cR ci) (cN ci)) ∧ lw_tbl[([101, 99, 97, 96, 103, 95, 100, 104, 98, 94, 102, 93, 105] : List Nat).getD ci 0]? = some (Cond.initialized (cR ci)) := by decide +kernel
set_option maxRecDepth 100000 in
set_option maxHeartbeats 4000000 in
theorem zt_ci : ∀ r ∈ zci_l, lw_tbl[r.2.2.1]? = some (Cond.constant (cn r.1) r.2.1 (Int32.ofInt r.2.2.2)) ∧ rg r.2.2.2 := by decide +kernel
set_option maxRecDepth 100000 in
set_option maxHeartbeats 4000000 in
theorem zt_cj : ∀ r ∈ zcj_l, lw_tbl[r.2.2.1]? = some (Cond.constantLong (cn r.1) r.2.1 (Int64.ofInt r.2.2.2)) ∧ rgl r.2.2.2 := by decide +kernel
def zgw : List Cond := lw_tbl.filter goodWord
theorem zt_ai : Cond.arrayClass .int ∈ lw_tbl := List.mem_of_getElem? (i := 131) (by decide +kernel)
theorem zt_ab : Cond.arrayClass .boolean ∈ lw_tbl := List.mem_of_getElem? (i := 1526) (by decide +kernel)
theorem zt_ob1 : Cond.instanceMethod objectInit ∈ lw_tbl := List.mem_of_getElem? (i := 113) (by decide +kernel)
theorem zt_ob2 : Cond.code objectInit ⟨#[0xb1]⟩ 1 none ∈ lw_tbl := List.mem_of_getElem? (i := 114) (by decide +kernel)
theorem zt_max1 : Cond.static Lib.Math.max.name ∈ lw_tbl := List.mem_of_getElem? (i := 1060) (by decide +kernel)
theorem zt_max2 : Cond.code Lib.Math.max.name Lib.Math.max.code 2 (some .int) ∈ lw_tbl := List.mem_of_getElem? (i := 1061) (by decide +kernel)
theorem zt_min1 : Cond.static Lib.Math.min.name ∈ lw_tbl := List.mem_of_getElem? (i := 491) (by decide +kernel)
theorem zt_min2 : Cond.code Lib.Math.min.name Lib.Math.min.code 2 (some .int) ∈ lw_tbl := List.mem_of_getElem? (i := 492) (by decide +kernel)
theorem zt_mth : Cond.initialized "java/lang/Math" ∈ lw_tbl := List.mem_of_getElem? (i := 106) (by decide +kernel)
